set_option maxRecDepth 100000 in
set_option maxHeartbeats 4000000 in
theorem vx_X8_comeBest {nc : Nat} {S : vl_Sh} {sc : Nat × (Nat → Int32)} (hG : vl_G3 nc S) {N : Nat} {d : Nat} (hd : 3 ≤ d) {Post : Int → vl_M → vl_M → Prop} {μ m : vl_M} {a1 a2 a3 : Int} (hE : vl_ok (fun b : Int × vl_M => Post b.1 μ b.2) (fn_X8_comeBest N m a1 a2 a3)) : vl_V nc S sc kX8_comeBest d Post 0 [(0, .ref 23), (1, vl_iv a1), (2, vl_iv a2), (3, vl_iv a3)] [] μ m := by
  generalize hP : (fun b : Int × vl_M => Post b.1 μ b.2) = P at hE
  have hP' : ∀ b : Int × vl_M, P b → Post b.1 μ b.2 := fun b h => by rw [← hP] at h; exact h
  clear hP
  have s23 : S 23 = .inr (8, [0, 0, 0, 27, 28, 0, 29, 30, 31, 32, 33, 0, 0, 0, 0, 34, 35, 0, 36, 0, 0, 37, 38, 39, 0, 0, 0, 0, 0, 1, 40, 41, 42, 43, 44, 45, 46, 0, 47, 48, 49]) := hG.2 23 (by decide) (by decide)
  have n23 : 23 < nc := Nat.lt_of_lt_of_le (by decide) hG.1
  have s37 : S 37 = .inl 11 := hG.2 37 (by decide) (by decide)
  have n37 : 37 < nc := Nat.lt_of_lt_of_le (by decide) hG.1
  have s38 : S 38 = .inl 11 := hG.2 38 (by decide) (by decide)
  have n38 : 38 < nc := Nat.lt_of_lt_of_le (by decide) hG.1
  have s41 : S 41 = .inl 2 := hG.2 41 (by decide) (by decide)
  have n41 : 41 < nc := Nat.lt_of_lt_of_le (by decide) hG.1
  unfold fn_X8_comeBest at hE
  refine vl_bipush (by decide) dX8_comeBest_0 ?_
  refine vl_istore0 (lv' := [(4, vl_iv (-2)), (0, .ref 23), (1, vl_iv a1), (2, vl_iv a2), (3, vl_iv a3)]) dX8_comeBest_2 (by decide) rfl ?_
  refine vl_ldc2 cst_X8_163 dX8_comeBest_4 ?_
  refine vl_lstore0 (lv' := [(5, vl_jv (-1)), (4, vl_iv (-2)), (0, .ref 23), (1, vl_iv a1), (2, vl_iv a2), (3, vl_iv a3)]) dX8_comeBest_7 (by decide) rfl ?_
  refine vl_iconst dX8_comeBest_9 ?_
  refine vl_istore0 (lv' := [(7, vl_iv 0), (5, vl_jv (-1)), (4, vl_iv (-2)), (0, .ref 23), (1, vl_iv a1), (2, vl_iv a2), (3, vl_iv a3)]) dX8_comeBest_10 (by decide) rfl ?_
  refine vl_lpr (F := fun κ : Int → Int → Int → Option (Int × vl_M) => fn_X8_comeBest_L12 N m a1 a2 a3 κ N (-2) (-1) 0) (J := fun κ => ∀ (v4 : Int) (v5 : Int) (v6 : Int), vl_ok P (κ v4 v5 v6) → vl_V nc S sc kX8_comeBest d Post 96 [(0, .ref 23), (2, vl_iv a2), (3, vl_iv a3), (4, vl_iv v4)] [] μ m) ?_ hE (fun κ hκL123 hE => ?_)
  · intro v4 v5 v6 hE
    refine vl_aload_n 0 rfl dX8_comeBest_96 ?_
    refine vl_iconst dX8_comeBest_97 ?_
    refine vl_iload_n 1 rfl dX8_comeBest_98 ?_
    refine vl_aload_n 0 rfl dX8_comeBest_99 ?_
    refine vl_getR (h := 23) (k0 := 30) (h2 := 37) iu_X8 n23 s23 rfl (by decide) fk_X8_53 rfl dX8_comeBest_100 ?_
    refine vl_iload 3 rfl dX8_comeBest_103 ?_
    refine vl_aldr (h := 37) (n := 11) (ni := 11) n37 (by decide) s37 (by decide) rfl dX8_comeBest_105 hE (fun g7 g8 hE => ?_)
    refine vl_VpJ (K' := kX8_growth) (d' := 2) (h := 23) (As := [vl_iv 1, vl_iv a2, vl_iv (m 37 v4)]) (st := []) lk_X8_165 (fun _ => rfl) (by omega) n23 s23 rfl rfl (Nat.le_of_ble_eq_true rfl) rfl (Nat.le_of_ble_eq_true rfl) dX8_comeBest_106 hE (fun _ h => vx_X8_growth hG (Nat.le_refl _) h) (fun b9 hE => ?_)
    refine vl_aload_n 0 rfl dX8_comeBest_109 ?_
    refine vl_iconst dX8_comeBest_110 ?_
    refine vl_iload_n 1 rfl dX8_comeBest_111 ?_
    refine vl_aload_n 0 rfl dX8_comeBest_112 ?_
    refine vl_getR (h := 23) (k0 := 30) (h2 := 37) iu_X8 n23 s23 rfl (by decide) fk_X8_53 rfl dX8_comeBest_113 ?_
    refine vl_iload 3 rfl dX8_comeBest_116 ?_
    refine vl_aldr1 (h := 37) (n := 11) (ni := 11) n37 (by decide) s37 (by decide) rfl g7 dX8_comeBest_118 ?_
    refine vl_VpJ (K' := kX8_growth) (d' := 2) (h := 23) (As := [vl_iv 2, vl_iv a2, vl_iv (m 37 v4)]) (st := [vl_jv b9]) lk_X8_165 (fun _ => rfl) (by omega) n23 s23 rfl rfl (Nat.le_of_ble_eq_true rfl) rfl (Nat.le_of_ble_eq_true rfl) dX8_comeBest_119 hE (fun _ h => vx_X8_growth hG (Nat.le_refl _) h) (fun b10 hE => ?_)
    refine vl_lsub dX8_comeBest_122 ?_
    refine vl_lstore (fun v11 => [(7, vl_jv v11), (0, .ref 23), (2, vl_iv a2), (3, vl_iv a3), (4, vl_iv v4)]) dX8_comeBest_123 (by decide) (fun _ => rfl) hE (fun v11 hE => ?_)
    refine vl_lload 0 rfl dX8_comeBest_125 ?_
    refine vl_lconst (x := 0) rfl dX8_comeBest_127 ?_
    obtain ⟨g12, hE⟩ := vl_ok_gd hE
    refine vl_jnr (J := fun κ : Int → Option (Int × vl_M) => ∀ (v13 : Int), vl_ok P (κ v13) → vl_V nc S sc kX8_comeBest d Post 148 [(0, .ref 23), (2, vl_iv a2), (3, vl_iv a3), (4, vl_iv v4)] [vl_jv v13] μ m) ?_ hE (fun κ14 hκ14 hE => ?_)
    · intro v13 hE
      refine vl_lstore0 (lv' := [(7, vl_jv v13), (0, .ref 23), (2, vl_iv a2), (3, vl_iv a3), (4, vl_iv v4)]) dX8_comeBest_148 (by decide) rfl ?_
      refine vl_lload 0 rfl dX8_comeBest_150 ?_
      refine vl_lconst (x := 0) rfl dX8_comeBest_152 ?_
      obtain ⟨g15, hE⟩ := vl_ok_gd hE
      refine vl_jnr (J := fun κ : Int → Option (Int × vl_M) => ∀ (v16 : Int), vl_ok P (κ v16) → vl_V nc S sc kX8_comeBest d Post 176 [(0, .ref 23), (2, vl_iv a2), (3, vl_iv a3), (4, vl_iv v4)] [vl_jv v16] μ m) ?_ hE (fun κ17 hκ17 hE => ?_)
      · intro v16 hE
        refine vl_lstore0 (lv' := [(7, vl_jv v16), (0, .ref 23), (2, vl_iv a2), (3, vl_iv a3), (4, vl_iv v4)]) dX8_comeBest_176 (by decide) rfl ?_
        refine vl_aload_n 1 rfl dX8_comeBest_178 ?_
        refine vl_iload 4 rfl dX8_comeBest_179 ?_
        refine vl_lload 0 rfl dX8_comeBest_181 ?_
        refine vl_lconst (x := 0) rfl dX8_comeBest_183 ?_
        obtain ⟨g18, hE⟩ := vl_ok_gd hE
        refine vl_jnr (J := fun κ : Int → Option (Int × vl_M) => ∀ (v19 : Int), vl_ok P (κ v19) → vl_V nc S sc kX8_comeBest d Post 193 [(2, vl_iv a2), (3, vl_iv a3)] [vl_iv v19, vl_iv v4, .ref 23] μ m) ?_ hE (fun κ20 hκ20 hE => ?_)
        · intro v19 hE
          refine vl_iload_n 0 rfl dX8_comeBest_193 ?_
          refine vl_iload_n 1 rfl dX8_comeBest_194 ?_
          refine vl_VrWI (K' := kX8_come) (d' := 1) (h := 23) (As := [vl_iv v4, vl_iv v19, vl_iv a2, vl_iv a3]) (st := []) lk_X8_152 (fun _ => rfl) (by omega) n23 s23 rfl rfl (Nat.le_of_ble_eq_true rfl) rfl (Nat.le_of_ble_eq_true rfl) dX8_comeBest_195 hE (fun _ h => vx_X8_come hG (Nat.le_refl _) h) (fun b21 m22 hE => ?_)
          exact vl_ret (r := b21) rfl dX8_comeBest_198 hE (hP' (b21, m22))
        refine vl_lif_gt (tgt := 192) dX8_comeBest_184 dX8_comeBest_185 (by decide) g18 (by decide) hE (fun c23 hE => ?_) (fun c23 hE => ?_)
        · refine vl_iconst dX8_comeBest_192 ?_
          exact vl_wk [2, 3] rfl (hκ20 2 hE)
        · refine vl_iconst dX8_comeBest_188 ?_
          refine vl_goto (tgt := 193) dX8_comeBest_189 (by decide) ?_
          exact vl_wk [2, 3] rfl (hκ20 1 hE)
      refine vl_lif_eq (tgt := 162) dX8_comeBest_153 dX8_comeBest_154 (by decide) g15 (by decide) hE (fun c29 hE => ?_) (fun c29 hE => ?_)
      · refine vl_aload_n 1 rfl dX8_comeBest_162 ?_
        refine vl_getR (h := 23) (k0 := 34) (h2 := 41) iu_X8 n23 s23 rfl (by decide) fk_X8_65 rfl dX8_comeBest_163 ?_
        refine vl_iconst dX8_comeBest_166 ?_
        refine vl_aldr (h := 41) (n := 2) (ni := 2) n41 (by decide) s41 (by decide) rfl dX8_comeBest_167 hE (fun g24 g25 hE => ?_)
        refine vl_aload_n 1 rfl dX8_comeBest_168 ?_
        refine vl_getR (h := 23) (k0 := 34) (h2 := 41) iu_X8 n23 s23 rfl (by decide) fk_X8_65 rfl dX8_comeBest_169 ?_
        refine vl_iconst dX8_comeBest_172 ?_
        refine vl_aldr (h := 41) (n := 2) (ni := 2) n41 (by decide) s41 (by decide) rfl dX8_comeBest_173 hE (fun g26 g27 hE => ?_)
        refine vl_isub dX8_comeBest_174 ?_
        obtain ⟨g28, hE⟩ := vl_ok_gd hE
        refine vl_i2l g28 dX8_comeBest_175 ?_
        exact vl_wk [1, 2, 3, 4] rfl (hκ17 ((m 41 0) - (m 41 1)) hE)
      · refine vl_lload 0 rfl dX8_comeBest_157 ?_
        refine vl_goto (tgt := 176) dX8_comeBest_159 (by decide) ?_
        exact vl_wk [1, 2, 3, 4] rfl (hκ17 v13 hE)
    refine vl_lif_eq (tgt := 137) dX8_comeBest_128 dX8_comeBest_129 (by decide) g12 (by decide) hE (fun c32 hE => ?_) (fun c32 hE => ?_)
    · refine vl_aload_n 1 rfl dX8_comeBest_137 ?_
      refine vl_iconst dX8_comeBest_138 ?_
      refine vl_VpJ (K' := kX8_partArea) (d' := 1) (h := 23) (As := [vl_iv 1]) (st := []) lk_X8_159 (fun _ => rfl) (by omega) n23 s23 rfl rfl (Nat.le_of_ble_eq_true rfl) rfl (Nat.le_of_ble_eq_true rfl) dX8_comeBest_139 hE (fun _ h => vx_X8_partArea hG (Nat.le_refl _) h) (fun b30 hE => ?_)
      refine vl_aload_n 1 rfl dX8_comeBest_142 ?_
      refine vl_iconst dX8_comeBest_143 ?_
      refine vl_VpJ (K' := kX8_partArea) (d' := 1) (h := 23) (As := [vl_iv 2]) (st := [vl_jv b30]) lk_X8_159 (fun _ => rfl) (by omega) n23 s23 rfl rfl (Nat.le_of_ble_eq_true rfl) rfl (Nat.le_of_ble_eq_true rfl) dX8_comeBest_144 hE (fun _ h => vx_X8_partArea hG (Nat.le_refl _) h) (fun b31 hE => ?_)
      refine vl_lsub dX8_comeBest_147 ?_
      exact vl_wk [1, 2, 3, 4] rfl (hκ14 (b30 - b31) hE)
    · refine vl_lload 0 rfl dX8_comeBest_132 ?_
      refine vl_goto (tgt := 148) dX8_comeBest_134 (by decide) ?_
      exact vl_wk [1, 2, 3, 4] rfl (hκ14 v11 hE)
  have hL12_ : ∀ (n : Nat) (v1 : Int) (v2 : Int) (v3 : Int), vl_ok P (fn_X8_comeBest_L12 N m a1 a2 a3 κ n v1 v2 v3) → vl_V nc S sc kX8_comeBest d Post 12 [(0, .ref 23), (1, vl_iv a1), (2, vl_iv a2), (3, vl_iv a3), (4, vl_iv v1), (5, vl_jv v2), (7, vl_iv v3)] [] μ m := by
    intro n
    induction n with
    | zero => intro v1 v2 v3 hE; exact vl_no hE
    | succ n ih12_ =>
      intro v1 v2 v3 hE
      rw [fn_X8_comeBest_L12] at hE
      refine vl_iload 6 rfl dX8_comeBest_12 ?_
      refine vl_iload_n 1 rfl dX8_comeBest_14 ?_
      obtain ⟨g33, hE⟩ := vl_ok_gd hE
      obtain ⟨g34, hE⟩ := vl_ok_gd hE
      refine vl_icmp_ge (tgt := 96) dX8_comeBest_15 (by decide) g33 g34 hE (fun c53 hE => ?_) (fun c53 hE => ?_)
      · exact vl_wk [0, 2, 3, 4] rfl (hκL123 v1 v2 v3 hE)
      · refine vl_aload_n 0 rfl dX8_comeBest_18 ?_
        refine vl_getR (h := 23) (k0 := 31) (h2 := 38) iu_X8 n23 s23 rfl (by decide) fk_X8_56 rfl dX8_comeBest_19 ?_
        refine vl_iload 6 rfl dX8_comeBest_22 ?_
        refine vl_aldr (h := 38) (n := 11) (ni := 11) n38 (by decide) s38 (by decide) rfl dX8_comeBest_24 hE (fun g35 g36 hE => ?_)
        obtain ⟨g37, hE⟩ := vl_ok_gd hE
        refine vl_jnr (J := fun κ : Int → Int → Option (Int × vl_M) => ∀ (v38 : Int) (v39 : Int), vl_ok P (κ v38 v39) → vl_V nc S sc kX8_comeBest d Post 90 [(0, .ref 23), (1, vl_iv a1), (2, vl_iv a2), (3, vl_iv a3), (4, vl_iv v38), (5, vl_jv v39), (7, vl_iv v3)] [] μ m) ?_ hE (fun κ40 hκ40 hE => ?_)
        · intro v38 v39 hE
          refine vl_iinc 6 (fun v41 => [(7, vl_iv v41), (0, .ref 23), (1, vl_iv a1), (2, vl_iv a2), (3, vl_iv a3), (4, vl_iv v38), (5, vl_jv v39)]) dX8_comeBest_90 rfl (by decide) (fun _ => rfl) hE (fun v41 hE => ?_)
          refine vl_goto (tgt := 12) dX8_comeBest_93 (by decide) ?_
          exact vl_wk [1, 2, 3, 4, 5, 6, 0] rfl (ih12_ v38 v39 v41 hE)
        refine vl_if_ne (tgt := 90) dX8_comeBest_25 (by decide) g37  hE (fun c52 hE => ?_) (fun c52 hE => ?_)
        · exact (hκ40 v1 v2 hE)
        · refine vl_aload_n 0 rfl dX8_comeBest_28 ?_
          refine vl_iconst dX8_comeBest_29 ?_
          refine vl_iload_n 2 rfl dX8_comeBest_30 ?_
          refine vl_aload_n 0 rfl dX8_comeBest_31 ?_
          refine vl_getR (h := 23) (k0 := 30) (h2 := 37) iu_X8 n23 s23 rfl (by decide) fk_X8_53 rfl dX8_comeBest_32 ?_
          refine vl_iload 6 rfl dX8_comeBest_35 ?_
          refine vl_aldr1 (h := 37) (n := 11) (ni := 11) n37 (by decide) s37 (by decide) rfl g35 dX8_comeBest_37 ?_
          refine vl_VpJ (K' := kX8_growth) (d' := 2) (h := 23) (As := [vl_iv 1, vl_iv a2, vl_iv (m 37 v3)]) (st := []) lk_X8_165 (fun _ => rfl) (by omega) n23 s23 rfl rfl (Nat.le_of_ble_eq_true rfl) rfl (Nat.le_of_ble_eq_true rfl) dX8_comeBest_38 hE (fun _ h => vx_X8_growth hG (Nat.le_refl _) h) (fun b42 hE => ?_)
          refine vl_aload_n 0 rfl dX8_comeBest_41 ?_
          refine vl_iconst dX8_comeBest_42 ?_
          refine vl_iload_n 2 rfl dX8_comeBest_43 ?_
          refine vl_aload_n 0 rfl dX8_comeBest_44 ?_
          refine vl_getR (h := 23) (k0 := 30) (h2 := 37) iu_X8 n23 s23 rfl (by decide) fk_X8_53 rfl dX8_comeBest_45 ?_
          refine vl_iload 6 rfl dX8_comeBest_48 ?_
          refine vl_aldr1 (h := 37) (n := 11) (ni := 11) n37 (by decide) s37 (by decide) rfl g35 dX8_comeBest_50 ?_
          refine vl_VpJ (K' := kX8_growth) (d' := 2) (h := 23) (As := [vl_iv 2, vl_iv a2, vl_iv (m 37 v3)]) (st := [vl_jv b42]) lk_X8_165 (fun _ => rfl) (by omega) n23 s23 rfl rfl (Nat.le_of_ble_eq_true rfl) rfl (Nat.le_of_ble_eq_true rfl) dX8_comeBest_51 hE (fun _ h => vx_X8_growth hG (Nat.le_refl _) h) (fun b43 hE => ?_)
          refine vl_lsub dX8_comeBest_54 ?_
          refine vl_lstore (fun v44 => [(8, vl_jv v44), (0, .ref 23), (1, vl_iv a1), (2, vl_iv a2), (3, vl_iv a3), (4, vl_iv v1), (5, vl_jv v2), (7, vl_iv v3)]) dX8_comeBest_55 (by decide) (fun _ => rfl) hE (fun v44 hE => ?_)
          refine vl_lload 0 rfl dX8_comeBest_57 ?_
          refine vl_lconst (x := 0) rfl dX8_comeBest_59 ?_
          obtain ⟨g45, hE⟩ := vl_ok_gd hE
          refine vl_jnr (J := fun κ : Int → Option (Int × vl_M) => ∀ (v46 : Int), vl_ok P (κ v46) → vl_V nc S sc kX8_comeBest d Post 72 [(0, .ref 23), (1, vl_iv a1), (2, vl_iv a2), (3, vl_iv a3), (4, vl_iv v1), (5, vl_jv v2), (7, vl_iv v3)] [vl_jv v46] μ m) ?_ hE (fun κ47 hκ47 hE => ?_)
          · intro v46 hE
            refine vl_lstore0 (lv' := [(10, vl_jv v46), (0, .ref 23), (1, vl_iv a1), (2, vl_iv a2), (3, vl_iv a3), (4, vl_iv v1), (5, vl_jv v2), (7, vl_iv v3)]) dX8_comeBest_72 (by decide) rfl ?_
            refine vl_lload 0 rfl dX8_comeBest_74 ?_
            refine vl_lload 6 rfl dX8_comeBest_76 ?_
            obtain ⟨g48, hE⟩ := vl_ok_gd hE
            obtain ⟨g49, hE⟩ := vl_ok_gd hE
            refine vl_lif_le (tgt := 90) dX8_comeBest_78 dX8_comeBest_79 (by decide) g48 g49 hE (fun c50 hE => ?_) (fun c50 hE => ?_)
            · exact vl_wk [1, 2, 3, 4, 5, 6, 7] rfl (hκ40 v1 v2 hE)
            · refine vl_iload 7 rfl dX8_comeBest_82 ?_
              refine vl_istore0 (lv' := [(4, vl_iv v3), (10, vl_jv v46), (0, .ref 23), (1, vl_iv a1), (2, vl_iv a2), (3, vl_iv a3), (5, vl_jv v2), (7, vl_iv v3)]) dX8_comeBest_84 (by decide) rfl ?_
              refine vl_lload 1 rfl dX8_comeBest_86 ?_
              refine vl_lstore0 (lv' := [(5, vl_jv v46), (4, vl_iv v3), (10, vl_jv v46), (0, .ref 23), (1, vl_iv a1), (2, vl_iv a2), (3, vl_iv a3), (7, vl_iv v3)]) dX8_comeBest_88 (by decide) rfl ?_
              exact vl_wk [3, 4, 5, 6, 1, 0, 7] rfl (hκ40 v3 v46 hE)
          refine vl_lif_ge (tgt := 70) dX8_comeBest_60 dX8_comeBest_61 (by decide) g45 (by decide) hE (fun c51 hE => ?_) (fun c51 hE => ?_)
          · refine vl_lload 0 rfl dX8_comeBest_70 ?_
            exact vl_wk [1, 2, 3, 4, 5, 6, 7] rfl (hκ47 v44 hE)
          · refine vl_lload 0 rfl dX8_comeBest_64 ?_
            refine vl_lneg dX8_comeBest_66 ?_
            refine vl_goto (tgt := 72) dX8_comeBest_67 (by decide) ?_
            exact vl_wk [1, 2, 3, 4, 5, 6, 7] rfl (hκ47 (-v44) hE)
  exact vl_wk [3, 4, 5, 6, 2, 1, 0] rfl (hL12_ N (-2) (-1) 0 hE)
set_option maxRecDepth 100000 in
set_option maxHeartbeats 4000000 in
theorem vx_X8_pack {nc : Nat} {S : vl_Sh} {sc : Nat × (Nat → Int32)} (hG : vl_G3 nc S) {N : Nat} {d : Nat} (hd : 3 ≤ d) {Post : Int → vl_M → vl_M → Prop} {μ m : vl_M} (hE : vl_ok (fun b : Int × vl_M => Post b.1 μ b.2) (fn_X8_pack N m )) : vl_V nc S sc kX8_pack d Post 0 [(0, .ref 23)] [] μ m := by
  generalize hP : (fun b : Int × vl_M => Post b.1 μ b.2) = P at hE
  have hP' : ∀ b : Int × vl_M, P b → Post b.1 μ b.2 := fun b h => by rw [← hP] at h; exact h
  clear hP
  have s23 : S 23 = .inr (8, [0, 0, 0, 27, 28, 0, 29, 30, 31, 32, 33, 0, 0, 0, 0, 34, 35, 0, 36, 0, 0, 37, 38, 39, 0, 0, 0, 0, 0, 1, 40, 41, 42, 43, 44, 45, 46, 0, 47, 48, 49]) := hG.2 23 (by decide) (by decide)
  have n23 : 23 < nc := Nat.lt_of_lt_of_le (by decide) hG.1
  have s24 : S 24 = .inl 401 := hG.2 24 (by decide) (by decide)
  have n24 : 24 < nc := Nat.lt_of_lt_of_le (by decide) hG.1
  have s26 : S 26 = .inl 500 := hG.2 26 (by decide) (by decide)
  have n26 : 26 < nc := Nat.lt_of_lt_of_le (by decide) hG.1
  have s30 : S 30 = .inl 500 := hG.2 30 (by decide) (by decide)
  have n30 : 30 < nc := Nat.lt_of_lt_of_le (by decide) hG.1
  have s45 : S 45 = .inl 400 := hG.2 45 (by decide) (by decide)
  have n45 : 45 < nc := Nat.lt_of_lt_of_le (by decide) hG.1
  unfold fn_X8_pack at hE
  refine vl_aload_n 0 rfl dX8_pack_0 ?_
  refine vl_iconst dX8_pack_1 ?_
  refine vl_putIr (h := 23) (k0 := 20) (ki := 20) iu_X8 tyX8_ok nmX8 n23 (by decide) s23 rfl (by decide) fk_X8_184 rfl rfl rfl (vl_nZ (by decide)) dX8_pack_2 hE (fun m1 hE => ?_)
  refine vl_iconst dX8_pack_5 ?_
  refine vl_istore_n0 rfl (lv' := [(1, vl_iv 0), (0, .ref 23)]) dX8_pack_6 (by decide) rfl ?_
  refine vl_iconst dX8_pack_7 ?_
  refine vl_istore_n0 rfl (lv' := [(2, vl_iv 0), (1, vl_iv 0), (0, .ref 23)]) dX8_pack_8 (by decide) rfl ?_
  refine vl_lpr (F := fun κ : Int → Int → vl_M → Option (Int × vl_M) => fn_X8_pack_L9 N  κ N 0 0 m1) (J := fun κ => ∀ (v5 : Int) (v6 : Int) (m7 : vl_M), vl_ok P (κ v5 v6 m7) → vl_V nc S sc kX8_pack d Post 41 [(0, .ref 23), (1, vl_iv v5)] [] μ m7) ?_ hE (fun κ hκL94 hE => ?_)
  · intro v5 v6 m7 hE
    refine vl_iconst dX8_pack_41 ?_
    refine vl_istore_n0 rfl (lv' := [(2, vl_iv 0), (0, .ref 23), (1, vl_iv v5)]) dX8_pack_42 (by decide) rfl ?_
    refine vl_lpr (F := fun κ : Int → vl_M → Option (Int × vl_M) => fn_X8_pack_L43 N v5 κ N 0 m7) (J := fun κ => ∀ (v10 : Int) (m11 : vl_M), vl_ok P (κ v10 m11) → vl_V nc S sc kX8_pack d Post 64 [(0, .ref 23), (1, vl_iv v5)] [] μ m11) ?_ hE (fun κ hκL439 hE => ?_)
    · intro v10 m11 hE
      refine vl_iload_n 1 rfl dX8_pack_64 ?_
      obtain ⟨g12, hE⟩ := vl_ok_gd hE
      refine vl_if_ne (tgt := 79) dX8_pack_65 (by decide) g12  hE (fun c57 hE => ?_) (fun c57 hE => ?_)
      · refine vl_aload_n 0 rfl dX8_pack_79 ?_
        refine vl_iconst dX8_pack_80 ?_
        refine vl_iload_n 1 rfl dX8_pack_81 ?_
        refine vl_iconst dX8_pack_82 ?_
        refine vl_VrWV (K' := kX8_sort) (d' := 2) (h := 23) (As := [vl_iv 0, vl_iv v5, vl_iv 0]) (st := []) lk_X8_264 (fun _ => rfl) (by omega) n23 s23 rfl rfl (Nat.le_of_ble_eq_true rfl) rfl (Nat.le_of_ble_eq_true rfl) dX8_pack_83 hE (fun _ h => vx_X8_sort hG (Nat.le_refl _) h) (fun m14 hE => ?_)
        refine vl_iload_n 1 rfl dX8_pack_86 ?_
        refine vl_aload_n 0 rfl dX8_pack_87 ?_
        refine vl_getIr (h := 23) (k0 := 1) (ki := 1) iu_X8 n23 (by decide) s23 rfl (by decide) fk_X8_83 rfl rfl dX8_pack_88 ?_
        refine vl_iadd dX8_pack_91 ?_
        refine vl_iconst dX8_pack_92 ?_
        refine vl_isub dX8_pack_93 ?_
        refine vl_aload_n 0 rfl dX8_pack_94 ?_
        refine vl_getIr (h := 23) (k0 := 1) (ki := 1) iu_X8 n23 (by decide) s23 rfl (by decide) fk_X8_83 rfl rfl dX8_pack_95 ?_
        obtain ⟨g15, hE⟩ := vl_ok_gd hE
        obtain ⟨g16, hE⟩ := vl_ok_gd hE
        refine vl_idiv g15 g16 dX8_pack_98 ?_
        refine vl_istore_n rfl (fun v17 => [(2, vl_iv v17), (0, .ref 23), (1, vl_iv v5)]) dX8_pack_99 (by decide) (fun _ => rfl) hE (fun v17 hE => ?_)
        refine vl_iconst dX8_pack_100 ?_
        refine vl_istore_n0 rfl (lv' := [(3, vl_iv 1), (2, vl_iv v17), (0, .ref 23), (1, vl_iv v5)]) dX8_pack_101 (by decide) rfl ?_
        refine vl_lpr (F := fun κ : Int → Option (Int × vl_M) => fn_X8_pack_L102 N m14 v5 v17 κ N 1) (J := fun κ => ∀ (v19 : Int), vl_ok P (κ v19) → vl_V nc S sc kX8_pack d Post 115 [(0, .ref 23), (1, vl_iv v5), (3, vl_iv v19)] [] μ m14) ?_ hE (fun κ hκ10218 hE => ?_)
        · intro v19 hE
          refine vl_iconst dX8_pack_115 ?_
          refine vl_istore0 (lv' := [(4, vl_iv 0), (0, .ref 23), (1, vl_iv v5), (3, vl_iv v19)]) dX8_pack_116 (by decide) rfl ?_
          refine vl_lpr (F := fun κ : Int → vl_M → Option (Int × vl_M) => fn_X8_pack_L118 N v5 v19 κ N 0 m14) (J := fun κ => ∀ (v22 : Int) (m23 : vl_M), vl_ok P (κ v22 m23) → vl_V nc S sc kX8_pack d Post 158 [(0, .ref 23), (1, vl_iv v5)] [] μ m23) ?_ hE (fun κ hκ11821 hE => ?_)
          · intro v22 m23 hE
            refine vl_iconst dX8_pack_158 ?_
            refine vl_istore0 (lv' := [(4, vl_iv 0), (0, .ref 23), (1, vl_iv v5)]) dX8_pack_159 (by decide) rfl ?_
            refine vl_iconst dX8_pack_161 ?_
            refine vl_istore0 (lv' := [(5, vl_iv 0), (4, vl_iv 0), (0, .ref 23), (1, vl_iv v5)]) dX8_pack_162 (by decide) rfl ?_
            refine vl_iload_n 3 rfl dX8_pack_164 ?_
            refine vl_istore0 (lv' := [(6, vl_iv v5), (5, vl_iv 0), (4, vl_iv 0), (0, .ref 23), (1, vl_iv v5)]) dX8_pack_165 (by decide) rfl ?_
            refine vl_lpr (F := fun κ : Int → Int → Int → vl_M → Option (Int × vl_M) => fn_X8_pack_L167 N  κ N 0 0 v5 m23) (J := fun κ => ∀ (v28 : Int) (v29 : Int) (v30 : Int) (m31 : vl_M), vl_ok P (κ v28 v29 v30 m31) → vl_V nc S sc kX8_pack d Post 193 [(0, .ref 23), (4, vl_iv v28)] [] μ m31) ?_ hE (fun κ hκ16727 hE => ?_)
            · intro v28 v29 v30 m31 hE
              refine vl_aload_n 0 rfl dX8_pack_193 ?_
              refine vl_aload_n 0 rfl dX8_pack_194 ?_
              refine vl_getR (h := 23) (k0 := 39) (h2 := 45) iu_X8 n23 s23 rfl (by decide) fk_X8_77 rfl dX8_pack_195 ?_
              refine vl_iconst dX8_pack_198 ?_
              refine vl_aldr (h := 45) (n := 400) (ni := 400) n45 (by decide) s45 (by decide) rfl dX8_pack_199 hE (fun g32 g33 hE => ?_)
              refine vl_putIr (h := 23) (k0 := 11) (ki := 11) iu_X8 tyX8_ok nmX8 n23 (by decide) s23 rfl (by decide) fk_X8_93 rfl rfl rfl (vl_nI _) dX8_pack_200 hE (fun m34 hE => ?_)
              refine vl_aload_n 0 rfl dX8_pack_203 ?_
              refine vl_getR (h := 23) (k0 := 10) (h2 := 30) iu_X8 n23 s23 rfl (by decide) fk_X8_32 rfl dX8_pack_204 ?_
              refine vl_aload_n 0 rfl dX8_pack_207 ?_
              refine vl_getIr (h := 23) (k0 := 11) (ki := 11) iu_X8 n23 (by decide) s23 rfl (by decide) fk_X8_93 rfl rfl dX8_pack_208 ?_
              refine vl_bipush (by decide) dX8_pack_211 ?_
              refine vl_astr (h := 30) (n := 500) (ni := 500) n30 (by decide) s30 (by decide) rfl dX8_pack_213 hE (fun g36 g37 m35 hE => ?_)
              refine vl_iload 1 rfl dX8_pack_214 ?_
              exact vl_ret (r := v28) rfl dX8_pack_216 hE (hP' (v28, m35))
            have hL167_ : ∀ (n : Nat) (v24 : Int) (v25 : Int) (v26 : Int) (m27 : vl_M), vl_ok P (fn_X8_pack_L167 N  κ n v24 v25 v26 m27) → vl_V nc S sc kX8_pack d Post 167 [(0, .ref 23), (4, vl_iv v24), (5, vl_iv v25), (6, vl_iv v26)] [] μ m27 := by
              intro n
              induction n with
              | zero => intro v24 v25 v26 m27 hE; exact vl_no hE
              | succ n ih167_ =>
                intro v24 v25 v26 m27 hE
                rw [fn_X8_pack_L167] at hE
                refine vl_aload_n 0 rfl dX8_pack_167 ?_
                refine vl_iload 2 rfl dX8_pack_168 ?_
                refine vl_iload 3 rfl dX8_pack_170 ?_
                refine vl_VrWI (K' := kX8_layer) (d' := 2) (h := 23) (As := [vl_iv v25, vl_iv v26]) (st := []) lk_X8_268 (fun _ => rfl) (by omega) n23 s23 rfl rfl (Nat.le_of_ble_eq_true rfl) rfl (Nat.le_of_ble_eq_true rfl) dX8_pack_172 hE (fun _ h => vx_X8_layer hG (Nat.le_refl _) h) (fun b38 m39 hE => ?_)
                refine vl_istore0 (lv' := [(6, vl_iv b38), (0, .ref 23), (4, vl_iv v24), (5, vl_iv v25)]) dX8_pack_175 (by decide) rfl ?_
                refine vl_iload 2 rfl dX8_pack_177 ?_
                refine vl_iload 0 rfl dX8_pack_179 ?_
                refine vl_iadd dX8_pack_181 ?_
                refine vl_istore (fun v40 => [(4, vl_iv v40), (6, vl_iv b38), (0, .ref 23), (5, vl_iv v25)]) dX8_pack_182 (by decide) (fun _ => rfl) hE (fun v40 hE => ?_)
                refine vl_iinc 3 (fun v41 => [(5, vl_iv v41), (4, vl_iv v40), (6, vl_iv b38), (0, .ref 23)]) dX8_pack_184 rfl (by decide) (fun _ => rfl) hE (fun v41 hE => ?_)
                refine vl_iload 2 rfl dX8_pack_187 ?_
                refine vl_iconst dX8_pack_189 ?_
                obtain ⟨g42, hE⟩ := vl_ok_gd hE
                refine vl_icmp_gt (tgt := 167) dX8_pack_190 (by decide) g42 (by decide) hE (fun c43 hE => ?_) (fun c43 hE => ?_)
                · exact vl_wk [3, 1, 0, 2] rfl (ih167_ v40 v41 b38 m39 hE)
                · exact vl_wk [3, 1] rfl (hκ16727 v40 v41 b38 m39 hE)
            exact vl_wk [3, 2, 1, 0] rfl (hL167_ N 0 0 v5 m23 hE)
          have hL118_ : ∀ (n : Nat) (v20 : Int) (m21 : vl_M), vl_ok P (fn_X8_pack_L118 N v5 v19 κ n v20 m21) → vl_V nc S sc kX8_pack d Post 118 [(0, .ref 23), (1, vl_iv v5), (3, vl_iv v19), (4, vl_iv v20)] [] μ m21 := by
            intro n
            induction n with
            | zero => intro v20 m21 hE; exact vl_no hE
            | succ n ih118_ =>
              intro v20 m21 hE
              rw [fn_X8_pack_L118] at hE
              refine vl_iload 3 rfl dX8_pack_118 ?_
              refine vl_iload_n 1 rfl dX8_pack_120 ?_
              obtain ⟨g44, hE⟩ := vl_ok_gd hE
              refine vl_icmp_ge (tgt := 158) dX8_pack_121 (by decide) g44 g12 hE (fun c49 hE => ?_) (fun c49 hE => ?_)
              · exact vl_wk [0, 1] rfl (hκ11821 v20 m21 hE)
              · refine vl_aload_n 0 rfl dX8_pack_124 ?_
                refine vl_iload 3 rfl dX8_pack_125 ?_
                refine vl_iload_n 1 rfl dX8_pack_127 ?_
                refine vl_iload 3 rfl dX8_pack_128 ?_
                refine vl_iload_n 2 rfl dX8_pack_130 ?_
                refine vl_aload_n 0 rfl dX8_pack_131 ?_
                refine vl_getIr (h := 23) (k0 := 1) (ki := 1) iu_X8 n23 (by decide) s23 rfl (by decide) fk_X8_83 rfl rfl dX8_pack_132 ?_
                refine vl_imul dX8_pack_135 ?_
                refine vl_iadd dX8_pack_136 ?_
                refine vl_SpI (K' := kX8_lesser) (d' := 0) (As := [vl_iv v5, vl_iv (v20 + (v19 * (m21 23 1)))]) (st := [vl_iv v20, .ref 23]) lk_X8_104 (fun _ => rfl) (by omega) rfl (Nat.le_of_ble_eq_true rfl) rfl (Nat.le_of_ble_eq_true rfl) dX8_pack_137 hE (fun _ h => vx_X8_lesser hG (Nat.le_refl _) h) (fun b45 hE => ?_)
                refine vl_iconst dX8_pack_140 ?_
                refine vl_VrWV (K' := kX8_sort) (d' := 2) (h := 23) (As := [vl_iv v20, vl_iv b45, vl_iv 1]) (st := []) lk_X8_264 (fun _ => rfl) (by omega) n23 s23 rfl rfl (Nat.le_of_ble_eq_true rfl) rfl (Nat.le_of_ble_eq_true rfl) dX8_pack_141 hE (fun _ h => vx_X8_sort hG (Nat.le_refl _) h) (fun m47 hE => ?_)
                refine vl_iload 3 rfl dX8_pack_144 ?_
                refine vl_iload_n 2 rfl dX8_pack_146 ?_
                refine vl_aload_n 0 rfl dX8_pack_147 ?_
                refine vl_getIr (h := 23) (k0 := 1) (ki := 1) iu_X8 n23 (by decide) s23 rfl (by decide) fk_X8_83 rfl rfl dX8_pack_148 ?_
                refine vl_imul dX8_pack_151 ?_
                refine vl_iadd dX8_pack_152 ?_
                refine vl_istore (fun v48 => [(4, vl_iv v48), (0, .ref 23), (1, vl_iv v5), (3, vl_iv v19)]) dX8_pack_153 (by decide) (fun _ => rfl) hE (fun v48 hE => ?_)
                refine vl_goto (tgt := 118) dX8_pack_155 (by decide) ?_
                exact vl_wk [1, 2, 3, 0] rfl (ih118_ v48 m47 hE)
          exact vl_wk [1, 2, 3, 0] rfl (hL118_ N 0 m14 hE)
        have hL102_ : ∀ (n : Nat) (v18 : Int), vl_ok P (fn_X8_pack_L102 N m14 v5 v17 κ n v18) → vl_V nc S sc kX8_pack d Post 102 [(0, .ref 23), (1, vl_iv v5), (2, vl_iv v17), (3, vl_iv v18)] [] μ m14 := by
          intro n
          induction n with
          | zero => intro v18 hE; exact vl_no hE
          | succ n ih102_ =>
            intro v18 hE
            rw [fn_X8_pack_L102] at hE
            refine vl_iload_n 3 rfl dX8_pack_102 ?_
            refine vl_iload_n 3 rfl dX8_pack_103 ?_
            refine vl_imul dX8_pack_104 ?_
            refine vl_iload_n 2 rfl dX8_pack_105 ?_
            obtain ⟨g50, hE⟩ := vl_ok_gd hE
            obtain ⟨g51, hE⟩ := vl_ok_gd hE
            refine vl_icmp_ge (tgt := 115) dX8_pack_106 (by decide) g50 g51 hE (fun c53 hE => ?_) (fun c53 hE => ?_)
            · exact vl_wk [0, 1, 3] rfl (hκ10218 v18 hE)
            · refine vl_iinc 3 (fun v52 => [(3, vl_iv v52), (0, .ref 23), (1, vl_iv v5), (2, vl_iv v17)]) dX8_pack_109 rfl (by decide) (fun _ => rfl) hE (fun v52 hE => ?_)
              refine vl_goto (tgt := 102) dX8_pack_112 (by decide) ?_
              exact vl_wk [1, 2, 3, 0] rfl (ih102_ v52 hE)
        exact vl_wk [2, 3, 1, 0] rfl (hL102_ N 1 hE)
      · refine vl_aload_n 0 rfl dX8_pack_68 ?_
        refine vl_aload_n 0 rfl dX8_pack_69 ?_
        refine vl_iconst dX8_pack_70 ?_
        refine vl_VrWI (K' := kX8_node) (d' := 0) (h := 23) (As := [vl_iv 0]) (st := [.ref 23]) lk_X8_89 (fun _ => rfl) (by omega) n23 s23 rfl rfl (Nat.le_of_ble_eq_true rfl) rfl (Nat.le_of_ble_eq_true rfl) dX8_pack_71 hE (fun _ h => vx_X8_node hG (Nat.le_refl _) h) (fun b54 m55 hE => ?_)
        refine vl_putIr (h := 23) (k0 := 11) (ki := 11) iu_X8 tyX8_ok nmX8 n23 (by decide) s23 rfl (by decide) fk_X8_93 rfl rfl rfl (vl_nI _) dX8_pack_74 hE (fun m56 hE => ?_)
        refine vl_iconst dX8_pack_77 ?_
        exact vl_ret (r := 1) rfl dX8_pack_78 hE (hP' (1, m56))
    have hL43_ : ∀ (n : Nat) (v8 : Int) (m9 : vl_M), vl_ok P (fn_X8_pack_L43 N v5 κ n v8 m9) → vl_V nc S sc kX8_pack d Post 43 [(0, .ref 23), (1, vl_iv v5), (2, vl_iv v8)] [] μ m9 := by
      intro n
      induction n with
      | zero => intro v8 m9 hE; exact vl_no hE
      | succ n ih43_ =>
        intro v8 m9 hE
        rw [fn_X8_pack_L43] at hE
        refine vl_iload_n 2 rfl dX8_pack_43 ?_
        refine vl_sipush (by decide) dX8_pack_44 ?_
        obtain ⟨g58, hE⟩ := vl_ok_gd hE
        refine vl_icmp_ge (tgt := 64) dX8_pack_47 (by decide) g58 (by decide) hE (fun c63 hE => ?_) (fun c63 hE => ?_)
        · exact vl_wk [0, 1] rfl (hκL439 v8 m9 hE)
        · refine vl_aload_n 0 rfl dX8_pack_50 ?_
          refine vl_getR (h := 23) (k0 := 6) (h2 := 26) iu_X8 n23 s23 rfl (by decide) fk_X8_20 rfl dX8_pack_51 ?_
          refine vl_iload_n 2 rfl dX8_pack_54 ?_
          refine vl_bipush (by decide) dX8_pack_55 ?_
          refine vl_astr (h := 26) (n := 500) (ni := 500) n26 (by decide) s26 (by decide) rfl dX8_pack_57 hE (fun g60 g61 m59 hE => ?_)
          refine vl_iinc 2 (fun v62 => [(2, vl_iv v62), (0, .ref 23), (1, vl_iv v5)]) dX8_pack_58 rfl (by decide) (fun _ => rfl) hE (fun v62 hE => ?_)
          refine vl_goto (tgt := 43) dX8_pack_61 (by decide) ?_
          exact vl_wk [1, 2, 0] rfl (ih43_ v62 m59 hE)
    exact vl_wk [1, 2, 0] rfl (hL43_ N 0 m7 hE)
  have hL9_ : ∀ (n : Nat) (v2 : Int) (v3 : Int) (m4 : vl_M), vl_ok P (fn_X8_pack_L9 N  κ n v2 v3 m4) → vl_V nc S sc kX8_pack d Post 9 [(0, .ref 23), (1, vl_iv v2), (2, vl_iv v3)] [] μ m4 := by
    intro n
    induction n with
    | zero => intro v2 v3 m4 hE; exact vl_no hE
    | succ n ih9_ =>
      intro v2 v3 m4 hE
      rw [fn_X8_pack_L9] at hE
      refine vl_iload_n 2 rfl dX8_pack_9 ?_
      refine vl_sipush (by decide) dX8_pack_10 ?_
      obtain ⟨g64, hE⟩ := vl_ok_gd hE
      refine vl_icmp_ge (tgt := 41) dX8_pack_13 (by decide) g64 (by decide) hE (fun c77 hE => ?_) (fun c77 hE => ?_)
      · exact vl_wk [0, 1] rfl (hκL94 v2 v3 m4 hE)
      · refine vl_aload_n 0 rfl dX8_pack_16 ?_
        refine vl_getR (h := 23) (k0 := 3) (h2 := 24) iu_X8 n23 s23 rfl (by decide) fk_X8_13 rfl dX8_pack_17 ?_
        refine vl_iload_n 2 rfl dX8_pack_20 ?_
        refine vl_aldr (h := 24) (n := 401) (ni := 401) n24 (by decide) s24 (by decide) rfl dX8_pack_21 hE (fun g65 g66 hE => ?_)
        obtain ⟨g67, hE⟩ := vl_ok_gd hE
        refine vl_jnr (J := fun κ : Int → vl_M → Option (Int × vl_M) => ∀ (v68 : Int) (m69 : vl_M), vl_ok P (κ v68 m69) → vl_V nc S sc kX8_pack d Post 35 [(0, .ref 23), (1, vl_iv v68), (2, vl_iv v3)] [] μ m69) ?_ hE (fun κ70 hκ70 hE => ?_)
        · intro v68 m69 hE
          refine vl_iinc 2 (fun v71 => [(2, vl_iv v71), (0, .ref 23), (1, vl_iv v68)]) dX8_pack_35 rfl (by decide) (fun _ => rfl) hE (fun v71 hE => ?_)
          refine vl_goto (tgt := 9) dX8_pack_38 (by decide) ?_
          exact vl_wk [1, 2, 0] rfl (ih9_ v68 v71 m69 hE)
        refine vl_if_lt (tgt := 35) dX8_pack_22 (by decide) g67  hE (fun c76 hE => ?_) (fun c76 hE => ?_)
        · exact (hκ70 v2 m4 hE)
        · refine vl_aload_n 0 rfl dX8_pack_25 ?_
          refine vl_getR (h := 23) (k0 := 39) (h2 := 45) iu_X8 n23 s23 rfl (by decide) fk_X8_77 rfl dX8_pack_26 ?_
          refine vl_iload_n 1 rfl dX8_pack_29 ?_
          refine vl_iload_n 2 rfl dX8_pack_30 ?_
          refine vl_astr (h := 45) (n := 400) (ni := 400) n45 (by decide) s45 (by decide) rfl dX8_pack_31 hE (fun g73 g74 m72 hE => ?_)
          refine vl_iinc 1 (fun v75 => [(1, vl_iv v75), (0, .ref 23), (2, vl_iv v3)]) dX8_pack_32 rfl (by decide) (fun _ => rfl) hE (fun v75 hE => ?_)
          exact vl_wk [1, 0, 2] rfl (hκ70 v75 m72 hE)
  exact vl_wk [2, 1, 0] rfl (hL9_ N 0 0 m1 hE)
set_option maxRecDepth 100000 in
set_option maxHeartbeats 4000000 in
theorem vx_X8_split {nc : Nat} {S : vl_Sh} {sc : Nat × (Nat → Int32)} (hG : vl_G3 nc S) {N : Nat} {d : Nat} (hd : 4 ≤ d) {Post : Int → vl_M → vl_M → Prop} {μ m : vl_M} {a1 : Int} (hE : vl_ok (fun b : vl_M => Post 0 μ b) (fn_X8_split N m a1)) : vl_V nc S sc kX8_split d Post 0 [(0, .ref 23), (1, vl_iv a1)] [] μ m := by
  generalize hP : (fun b : vl_M => Post 0 μ b) = P at hE
  have hP' : ∀ b : vl_M, P b → Post 0 μ b := fun b h => by rw [← hP] at h; exact h
  clear hP
  have s23 : S 23 = .inr (8, [0, 0, 0, 27, 28, 0, 29, 30, 31, 32, 33, 0, 0, 0, 0, 34, 35, 0, 36, 0, 0, 37, 38, 39, 0, 0, 0, 0, 0, 1, 40, 41, 42, 43, 44, 45, 46, 0, 47, 48, 49]) := hG.2 23 (by decide) (by decide)
  have n23 : 23 < nc := Nat.lt_of_lt_of_le (by decide) hG.1
  have s26 : S 26 = .inl 500 := hG.2 26 (by decide) (by decide)
  have n26 : 26 < nc := Nat.lt_of_lt_of_le (by decide) hG.1
  have s27 : S 27 = .inl 500 := hG.2 27 (by decide) (by decide)
  have n27 : 27 < nc := Nat.lt_of_lt_of_le (by decide) hG.1
  have s28 : S 28 = .inl 5500 := hG.2 28 (by decide) (by decide)
  have n28 : 28 < nc := Nat.lt_of_lt_of_le (by decide) hG.1
  have s30 : S 30 = .inl 500 := hG.2 30 (by decide) (by decide)
  have n30 : 30 < nc := Nat.lt_of_lt_of_le (by decide) hG.1
  have s37 : S 37 = .inl 11 := hG.2 37 (by decide) (by decide)
  have n37 : 37 < nc := Nat.lt_of_lt_of_le (by decide) hG.1
  have s38 : S 38 = .inl 11 := hG.2 38 (by decide) (by decide)
  have n38 : 38 < nc := Nat.lt_of_lt_of_le (by decide) hG.1
  have s39 : S 39 = .inl 11 := hG.2 39 (by decide) (by decide)
  have n39 : 39 < nc := Nat.lt_of_lt_of_le (by decide) hG.1
  have s41 : S 41 = .inl 2 := hG.2 41 (by decide) (by decide)
  have n41 : 41 < nc := Nat.lt_of_lt_of_le (by decide) hG.1
  unfold fn_X8_split at hE
  refine vl_aload_n 0 rfl dX8_split_0 ?_
  refine vl_dup rfl dX8_split_1 ?_
  refine vl_getIr (h := 23) (k0 := 12) (ki := 12) iu_X8 n23 (by decide) s23 rfl (by decide) fk_X8_145 rfl rfl dX8_split_2 ?_
  refine vl_iconst dX8_split_5 ?_
  refine vl_iadd dX8_split_6 ?_
  refine vl_putIr (h := 23) (k0 := 12) (ki := 12) iu_X8 tyX8_ok nmX8 n23 (by decide) s23 rfl (by decide) fk_X8_145 rfl rfl rfl (vl_nI _) dX8_split_7 hE (fun m1 hE => ?_)
  refine vl_aload_n 0 rfl dX8_split_10 ?_
  refine vl_getR (h := 23) (k0 := 6) (h2 := 26) iu_X8 n23 s23 rfl (by decide) fk_X8_20 rfl dX8_split_11 ?_
  refine vl_iload_n 1 rfl dX8_split_14 ?_
  refine vl_aldr (h := 26) (n := 500) (ni := 500) n26 (by decide) s26 (by decide) rfl dX8_split_15 hE (fun g2 g3 hE => ?_)
  refine vl_iconst dX8_split_16 ?_
  refine vl_isub dX8_split_17 ?_
  refine vl_istore_n rfl (fun v4 => [(2, vl_iv v4), (0, .ref 23), (1, vl_iv a1)]) dX8_split_18 (by decide) (fun _ => rfl) hE (fun v4 hE => ?_)
  refine vl_aload_n 1 rfl dX8_split_19 ?_
  refine vl_getR (h := 23) (k0 := 7) (h2 := 27) iu_X8 n23 s23 rfl (by decide) fk_X8_23 rfl dX8_split_20 ?_
  refine vl_iload_n 2 rfl dX8_split_23 ?_
  refine vl_aldr1 (h := 27) (n := 500) (ni := 500) n27 (by decide) s27 (by decide) rfl g2 dX8_split_24 ?_
  refine vl_istore_n rfl (fun v5 => [(3, vl_iv v5), (2, vl_iv v4), (0, .ref 23), (1, vl_iv a1)]) dX8_split_25 (by decide) (fun _ => rfl) hE (fun v5 hE => ?_)
  refine vl_iconst dX8_split_26 ?_
  refine vl_istore0 (lv' := [(4, vl_iv 0), (3, vl_iv v5), (2, vl_iv v4), (0, .ref 23), (1, vl_iv a1)]) dX8_split_27 (by decide) rfl ?_
  refine vl_lpr (F := fun κ : Int → vl_M → Option (vl_M) => fn_X8_split_L29 N a1 v4 v5 κ N 0 m1) (J := fun κ => ∀ (v8 : Int) (m9 : vl_M), vl_ok P (κ v8 m9) → vl_V nc S sc kX8_split d Post 63 [(0, .ref 23), (1, vl_iv a1), (2, vl_iv v4), (3, vl_iv v5)] [] μ m9) ?_ hE (fun κ hκL297 hE => ?_)
  · intro v8 m9 hE
    refine vl_iconst dX8_split_63 ?_
    refine vl_istore0 (lv' := [(4, vl_iv 0), (0, .ref 23), (1, vl_iv a1), (2, vl_iv v4), (3, vl_iv v5)]) dX8_split_64 (by decide) rfl ?_
    refine vl_iconst dX8_split_66 ?_
    refine vl_istore0 (lv' := [(5, vl_iv 1), (4, vl_iv 0), (0, .ref 23), (1, vl_iv a1), (2, vl_iv v4), (3, vl_iv v5)]) dX8_split_67 (by decide) rfl ?_
    refine vl_ldc2 cst_X8_150 dX8_split_69 ?_
    refine vl_lstore0 (lv' := [(6, vl_jv (-9223372036854775808)), (5, vl_iv 1), (4, vl_iv 0), (0, .ref 23), (1, vl_iv a1), (2, vl_iv v4), (3, vl_iv v5)]) dX8_split_72 (by decide) rfl ?_
    refine vl_iconst dX8_split_74 ?_
    refine vl_istore0 (lv' := [(8, vl_iv 0), (6, vl_jv (-9223372036854775808)), (5, vl_iv 1), (4, vl_iv 0), (0, .ref 23), (1, vl_iv a1), (2, vl_iv v4), (3, vl_iv v5)]) dX8_split_75 (by decide) rfl ?_
    refine vl_lpr (F := fun κ : Int → Int → Int → Int → Option (vl_M) => fn_X8_split_L77 N m9 a1 v4 v5 κ N 0 1 (-9223372036854775808) 0) (J := fun κ => ∀ (v14 : Int) (v15 : Int) (v16 : Int) (v17 : Int), vl_ok P (κ v14 v15 v16 v17) → vl_V nc S sc kX8_split d Post 175 [(0, .ref 23), (1, vl_iv a1), (2, vl_iv v4), (3, vl_iv v5), (4, vl_iv v14), (5, vl_iv v15)] [] μ m9) ?_ hE (fun κ hκL7713 hE => ?_)
    · intro v14 v15 v16 v17 hE
      refine vl_aload_n 0 rfl dX8_split_175 ?_
      refine vl_getR (h := 23) (k0 := 34) (h2 := 41) iu_X8 n23 s23 rfl (by decide) fk_X8_65 rfl dX8_split_176 ?_
      refine vl_iconst dX8_split_179 ?_
      refine vl_iconst dX8_split_180 ?_
      refine vl_astr (h := 41) (n := 2) (ni := 2) n41 (by decide) s41 (by decide) rfl dX8_split_181 hE (fun g19 g20 m18 hE => ?_)
      refine vl_aload_n 0 rfl dX8_split_182 ?_
      refine vl_getR (h := 23) (k0 := 34) (h2 := 41) iu_X8 n23 s23 rfl (by decide) fk_X8_65 rfl dX8_split_183 ?_
      refine vl_iconst dX8_split_186 ?_
      refine vl_iconst dX8_split_187 ?_
      refine vl_astr (h := 41) (n := 2) (ni := 2) n41 (by decide) s41 (by decide) rfl dX8_split_188 hE (fun g22 g23 m21 hE => ?_)
      refine vl_iconst dX8_split_189 ?_
      refine vl_istore0 (lv' := [(8, vl_iv 0), (0, .ref 23), (1, vl_iv a1), (2, vl_iv v4), (3, vl_iv v5), (4, vl_iv v14), (5, vl_iv v15)]) dX8_split_190 (by decide) rfl ?_
      refine vl_aload_n 1 rfl dX8_split_192 ?_
      refine vl_iload 5 rfl dX8_split_193 ?_
      refine vl_iconst dX8_split_195 ?_
      refine vl_iload_n 3 rfl dX8_split_196 ?_
      refine vl_iload 0 rfl dX8_split_197 ?_
      refine vl_VrWI (K' := kX8_come) (d' := 1) (h := 23) (As := [vl_iv v14, vl_iv 1, vl_iv v4, vl_iv 0]) (st := []) lk_X8_152 (fun _ => rfl) (by omega) n23 s23 rfl rfl (Nat.le_of_ble_eq_true rfl) rfl (Nat.le_of_ble_eq_true rfl) dX8_split_199 hE (fun _ h => vx_X8_come hG (Nat.le_refl _) h) (fun b24 m25 hE => ?_)
      refine vl_istore0 (lv' := [(8, vl_iv b24), (0, .ref 23), (1, vl_iv a1), (2, vl_iv v4), (3, vl_iv v5), (4, vl_iv v14), (5, vl_iv v15)]) dX8_split_202 (by decide) rfl ?_
      refine vl_aload_n 1 rfl dX8_split_204 ?_
      refine vl_iload 6 rfl dX8_split_205 ?_
      refine vl_iconst dX8_split_207 ?_
      refine vl_iload_n 3 rfl dX8_split_208 ?_
      refine vl_iload 0 rfl dX8_split_209 ?_
      refine vl_VrWI (K' := kX8_come) (d' := 1) (h := 23) (As := [vl_iv v15, vl_iv 2, vl_iv v4, vl_iv b24]) (st := []) lk_X8_152 (fun _ => rfl) (by omega) n23 s23 rfl rfl (Nat.le_of_ble_eq_true rfl) rfl (Nat.le_of_ble_eq_true rfl) dX8_split_211 hE (fun _ h => vx_X8_come hG (Nat.le_refl _) h) (fun b26 m27 hE => ?_)
      refine vl_istore0 (lv' := [(8, vl_iv b26), (0, .ref 23), (1, vl_iv a1), (2, vl_iv v4), (3, vl_iv v5), (4, vl_iv v14), (5, vl_iv v15)]) dX8_split_214 (by decide) rfl ?_
      refine vl_lpr (F := fun κ : Int → vl_M → Option (vl_M) => fn_X8_split_L216 N a1 v4 v5 κ N b26 m27) (J := fun κ => ∀ (v30 : Int) (m31 : vl_M), vl_ok P (κ v30 m31) → vl_V nc S sc kX8_split d Post 342 [(0, .ref 23), (1, vl_iv a1), (3, vl_iv v5)] [] μ m31) ?_ hE (fun κ hκ21629 hE => ?_)
      · intro v30 m31 hE
        refine vl_aload_n 0 rfl dX8_split_342 ?_
        refine vl_aload_n 0 rfl dX8_split_343 ?_
        refine vl_getR (h := 23) (k0 := 6) (h2 := 26) iu_X8 n23 s23 rfl (by decide) fk_X8_20 rfl dX8_split_344 ?_
        refine vl_iload_n 1 rfl dX8_split_347 ?_
        refine vl_aldr1 (h := 26) (n := 500) (ni := 500) n26 (by decide) s26 (by decide) rfl g2 dX8_split_348 ?_
        refine vl_VrWI (K' := kX8_node) (d' := 0) (h := 23) (As := [vl_iv (m31 26 a1)]) (st := []) lk_X8_89 (fun _ => rfl) (by omega) n23 s23 rfl rfl (Nat.le_of_ble_eq_true rfl) rfl (Nat.le_of_ble_eq_true rfl) dX8_split_349 hE (fun _ h => vx_X8_node hG (Nat.le_refl _) h) (fun b32 m33 hE => ?_)
        refine vl_istore0 (lv' := [(9, vl_iv b32), (0, .ref 23), (1, vl_iv a1), (3, vl_iv v5)]) dX8_split_352 (by decide) rfl ?_
        refine vl_aload_n 1 rfl dX8_split_354 ?_
        refine vl_getR (h := 23) (k0 := 7) (h2 := 27) iu_X8 n23 s23 rfl (by decide) fk_X8_23 rfl dX8_split_355 ?_
        refine vl_iload_n 2 rfl dX8_split_358 ?_
        refine vl_iconst dX8_split_359 ?_
        refine vl_astr1 (h := 27) (n := 500) (ni := 500) n27 (by decide) s27 (by decide) rfl g2 dX8_split_360 hE (fun m34 hE => ?_)
        refine vl_iconst dX8_split_361 ?_
        refine vl_istore0 (lv' := [(10, vl_iv 0), (9, vl_iv b32), (0, .ref 23), (1, vl_iv a1), (3, vl_iv v5)]) dX8_split_362 (by decide) rfl ?_
        refine vl_lpr (F := fun κ : Int → vl_M → Option (vl_M) => fn_X8_split_L364 N a1 v5 b32 κ N 0 m34) (J := fun κ => ∀ (v37 : Int) (m38 : vl_M), vl_ok P (κ v37 m38) → vl_V nc S sc kX8_split d Post 414 [(0, .ref 23), (1, vl_iv a1), (9, vl_iv b32)] [] μ m38) ?_ hE (fun κ hκ36436 hE => ?_)
        · intro v37 m38 hE
          refine vl_aload_n 0 rfl dX8_split_414 ?_
          refine vl_iload_n 1 rfl dX8_split_415 ?_
          refine vl_VrWV (K' := kX8_measure) (d' := 1) (h := 23) (As := [vl_iv a1]) (st := []) lk_X8_118 (fun _ => rfl) (by omega) n23 s23 rfl rfl (Nat.le_of_ble_eq_true rfl) rfl (Nat.le_of_ble_eq_true rfl) dX8_split_416 hE (fun _ h => vx_X8_measure hG (Nat.le_refl _) h) (fun m40 hE => ?_)
          refine vl_aload_n 0 rfl dX8_split_419 ?_
          refine vl_iload 2 rfl dX8_split_420 ?_
          refine vl_VrWV (K' := kX8_measure) (d' := 1) (h := 23) (As := [vl_iv b32]) (st := []) lk_X8_118 (fun _ => rfl) (by omega) n23 s23 rfl rfl (Nat.le_of_ble_eq_true rfl) rfl (Nat.le_of_ble_eq_true rfl) dX8_split_422 hE (fun _ h => vx_X8_measure hG (Nat.le_refl _) h) (fun m42 hE => ?_)
          refine vl_iload_n 1 rfl dX8_split_425 ?_
          refine vl_aload_n 0 rfl dX8_split_426 ?_
          refine vl_getIr (h := 23) (k0 := 11) (ki := 11) iu_X8 n23 (by decide) s23 rfl (by decide) fk_X8_93 rfl rfl dX8_split_427 ?_
          obtain ⟨g43, hE⟩ := vl_ok_gd hE
          refine vl_icmp_ne (tgt := 477) dX8_split_430 (by decide) g3 g43 hE (fun c81 hE => ?_) (fun c81 hE => ?_)
          · refine vl_aload_n 0 rfl dX8_split_477 ?_
            refine vl_getR (h := 23) (k0 := 10) (h2 := 30) iu_X8 n23 s23 rfl (by decide) fk_X8_32 rfl dX8_split_478 ?_
            refine vl_iload_n 1 rfl dX8_split_481 ?_
            refine vl_aldr1 (h := 30) (n := 500) (ni := 500) n30 (by decide) s30 (by decide) rfl g2 dX8_split_482 ?_
            refine vl_istore (fun v44 => [(10, vl_iv v44), (0, .ref 23), (1, vl_iv a1), (9, vl_iv b32)]) dX8_split_483 (by decide) (fun _ => rfl) hE (fun v44 hE => ?_)
            refine vl_aload_n 1 rfl dX8_split_485 ?_
            refine vl_iload 0 rfl dX8_split_486 ?_
            refine vl_iload_n 2 rfl dX8_split_488 ?_
            refine vl_VpI (K' := kX8_placeIn) (d' := 1) (h := 23) (As := [vl_iv v44, vl_iv a1]) (st := []) lk_X8_122 (fun _ => rfl) (by omega) n23 s23 rfl rfl (Nat.le_of_ble_eq_true rfl) rfl (Nat.le_of_ble_eq_true rfl) dX8_split_489 hE (fun _ h => vx_X8_placeIn hG (Nat.le_refl _) h) (fun b45 hE => ?_)
            refine vl_iconst dX8_split_492 ?_
            refine vl_iadd dX8_split_493 ?_
            refine vl_istore (fun v46 => [(11, vl_iv v46), (10, vl_iv v44), (0, .ref 23), (1, vl_iv a1), (9, vl_iv b32)]) dX8_split_494 (by decide) (fun _ => rfl) hE (fun v46 hE => ?_)
            refine vl_aload_n 2 rfl dX8_split_496 ?_
            refine vl_getR (h := 23) (k0 := 7) (h2 := 27) iu_X8 n23 s23 rfl (by decide) fk_X8_23 rfl dX8_split_497 ?_
            refine vl_iload 1 rfl dX8_split_500 ?_
            refine vl_aldr (h := 27) (n := 500) (ni := 500) n27 (by decide) s27 (by decide) rfl dX8_split_502 hE (fun g47 g48 hE => ?_)
            refine vl_istore (fun v49 => [(12, vl_iv v49), (11, vl_iv v46), (10, vl_iv v44), (0, .ref 23), (1, vl_iv a1), (9, vl_iv b32)]) dX8_split_503 (by decide) (fun _ => rfl) hE (fun v49 hE => ?_)
            refine vl_lpr (F := fun κ : Int → vl_M → Option (vl_M) => fn_X8_split_L505 N b32 v44 v46 κ N v49 m42) (J := fun κ => ∀ (v52 : Int) (m53 : vl_M), vl_ok P (κ v52 m53) → vl_V nc S sc kX8_split d Post 546 [(0, .ref 23), (9, vl_iv b32), (10, vl_iv v44), (11, vl_iv v46)] [] μ m53) ?_ hE (fun κ hκ50551 hE => ?_)
            · intro v52 m53 hE
              refine vl_aload_n 0 rfl dX8_split_546 ?_
              refine vl_getR (h := 23) (k0 := 8) (h2 := 28) iu_X8 n23 s23 rfl (by decide) fk_X8_26 rfl dX8_split_547 ?_
              refine vl_bipush (by decide) dX8_split_550 ?_
              refine vl_iload 2 rfl dX8_split_552 ?_
              refine vl_imul dX8_split_554 ?_
              refine vl_iload 3 rfl dX8_split_555 ?_
              refine vl_iadd dX8_split_557 ?_
              refine vl_iload 1 rfl dX8_split_558 ?_
              refine vl_astr (h := 28) (n := 5500) (ni := 5500) n28 (by decide) s28 (by decide) rfl dX8_split_560 hE (fun g55 g56 m54 hE => ?_)
              refine vl_aload_n 0 rfl dX8_split_561 ?_
              refine vl_getR (h := 23) (k0 := 7) (h2 := 27) iu_X8 n23 s23 rfl (by decide) fk_X8_23 rfl dX8_split_562 ?_
              refine vl_iload 2 rfl dX8_split_565 ?_
              refine vl_dup2 rfl rfl dX8_split_567 ?_
              refine vl_aldr1 (h := 27) (n := 500) (ni := 500) n27 (by decide) s27 (by decide) rfl g47 dX8_split_568 ?_
              refine vl_iconst dX8_split_569 ?_
              refine vl_iadd dX8_split_570 ?_
              refine vl_astr1 (h := 27) (n := 500) (ni := 500) n27 (by decide) s27 (by decide) rfl g47 dX8_split_571 hE (fun m57 hE => ?_)
              refine vl_aload_n 0 rfl dX8_split_572 ?_
              refine vl_getR (h := 23) (k0 := 10) (h2 := 30) iu_X8 n23 s23 rfl (by decide) fk_X8_32 rfl dX8_split_573 ?_
              refine vl_iload 1 rfl dX8_split_576 ?_
              refine vl_iload 2 rfl dX8_split_578 ?_
              refine vl_astr (h := 30) (n := 500) (ni := 500) n30 (by decide) s30 (by decide) rfl dX8_split_580 hE (fun g59 g60 m58 hE => ?_)
              refine vl_aload_n 0 rfl dX8_split_581 ?_
              refine vl_iload 2 rfl dX8_split_582 ?_
              refine vl_VrWV (K' := kX8_measureUp) (d' := 2) (h := 23) (As := [vl_iv v44]) (st := []) lk_X8_139 (fun _ => rfl) (by omega) n23 s23 rfl rfl (Nat.le_of_ble_eq_true rfl) rfl (Nat.le_of_ble_eq_true rfl) dX8_split_584 hE (fun _ h => vx_X8_measureUp hG (Nat.le_refl _) h) (fun m62 hE => ?_)
              exact vl_ret (r := 0) rfl dX8_split_587 hE (hP' m62)
            have hL505_ : ∀ (n : Nat) (v50 : Int) (m51 : vl_M), vl_ok P (fn_X8_split_L505 N b32 v44 v46 κ n v50 m51) → vl_V nc S sc kX8_split d Post 505 [(0, .ref 23), (9, vl_iv b32), (10, vl_iv v44), (11, vl_iv v46), (12, vl_iv v50)] [] μ m51 := by
              intro n
              induction n with
              | zero => intro v50 m51 hE; exact vl_no hE
              | succ n ih505_ =>
                intro v50 m51 hE
                rw [fn_X8_split_L505] at hE
                refine vl_iload 4 rfl dX8_split_505 ?_
                refine vl_iload 3 rfl dX8_split_507 ?_
                obtain ⟨g63, hE⟩ := vl_ok_gd hE
                obtain ⟨g64, hE⟩ := vl_ok_gd hE
                refine vl_icmp_le (tgt := 546) dX8_split_509 (by decide) g63 g64 hE (fun c71 hE => ?_) (fun c71 hE => ?_)
                · exact vl_wk [0, 1, 2, 3] rfl (hκ50551 v50 m51 hE)
                · refine vl_aload_n 0 rfl dX8_split_512 ?_
                  refine vl_getR (h := 23) (k0 := 8) (h2 := 28) iu_X8 n23 s23 rfl (by decide) fk_X8_26 rfl dX8_split_513 ?_
                  refine vl_bipush (by decide) dX8_split_516 ?_
                  refine vl_iload 2 rfl dX8_split_518 ?_
                  refine vl_imul dX8_split_520 ?_
                  refine vl_iload 4 rfl dX8_split_521 ?_
                  refine vl_iadd dX8_split_523 ?_
                  refine vl_aload_n 0 rfl dX8_split_524 ?_
                  refine vl_getR (h := 23) (k0 := 8) (h2 := 28) iu_X8 n23 s23 rfl (by decide) fk_X8_26 rfl dX8_split_525 ?_
                  refine vl_bipush (by decide) dX8_split_528 ?_
                  refine vl_iload 2 rfl dX8_split_530 ?_
                  refine vl_imul dX8_split_532 ?_
                  refine vl_iload 4 rfl dX8_split_533 ?_
                  refine vl_iadd dX8_split_535 ?_
                  refine vl_iconst dX8_split_536 ?_
                  refine vl_isub dX8_split_537 ?_
                  refine vl_aldr (h := 28) (n := 5500) (ni := 5500) n28 (by decide) s28 (by decide) rfl dX8_split_538 hE (fun g65 g66 hE => ?_)
                  refine vl_astr (h := 28) (n := 5500) (ni := 5500) n28 (by decide) s28 (by decide) rfl dX8_split_539 hE (fun g68 g69 m67 hE => ?_)
                  refine vl_iinc 4 (fun v70 => [(12, vl_iv v70), (0, .ref 23), (9, vl_iv b32), (10, vl_iv v44), (11, vl_iv v46)]) dX8_split_540 rfl (by decide) (fun _ => rfl) hE (fun v70 hE => ?_)
                  refine vl_goto (tgt := 505) dX8_split_543 (by decide) ?_
                  exact vl_wk [1, 2, 3, 4, 0] rfl (ih505_ v70 m67 hE)
            exact vl_wk [3, 5, 2, 1, 0] rfl (hL505_ N v49 m42 hE)
          · refine vl_aload_n 0 rfl dX8_split_433 ?_
            refine vl_aload_n 0 rfl dX8_split_434 ?_
            refine vl_aload_n 0 rfl dX8_split_435 ?_
            refine vl_getR (h := 23) (k0 := 6) (h2 := 26) iu_X8 n23 s23 rfl (by decide) fk_X8_20 rfl dX8_split_436 ?_
            refine vl_iload_n 1 rfl dX8_split_439 ?_
            refine vl_aldr1 (h := 26) (n := 500) (ni := 500) n26 (by decide) s26 (by decide) rfl g2 dX8_split_440 ?_
            refine vl_iconst dX8_split_441 ?_
            refine vl_iadd dX8_split_442 ?_
            refine vl_VrWI (K' := kX8_node) (d' := 0) (h := 23) (As := [vl_iv ((m42 26 a1) + 1)]) (st := [.ref 23]) lk_X8_89 (fun _ => rfl) (by omega) n23 s23 rfl rfl (Nat.le_of_ble_eq_true rfl) rfl (Nat.le_of_ble_eq_true rfl) dX8_split_443 hE (fun _ h => vx_X8_node hG (Nat.le_refl _) h) (fun b72 m73 hE => ?_)
            refine vl_putIr (h := 23) (k0 := 11) (ki := 11) iu_X8 tyX8_ok nmX8 n23 (by decide) s23 rfl (by decide) fk_X8_93 rfl rfl rfl (vl_nI _) dX8_split_446 hE (fun m74 hE => ?_)
            refine vl_aload_n 0 rfl dX8_split_449 ?_
            refine vl_aload_n 0 rfl dX8_split_450 ?_
            refine vl_getIr (h := 23) (k0 := 11) (ki := 11) iu_X8 n23 (by decide) s23 rfl (by decide) fk_X8_93 rfl rfl dX8_split_451 ?_
            refine vl_iload_n 1 rfl dX8_split_454 ?_
            refine vl_VrWV (K' := kX8_hold) (d' := 0) (h := 23) (As := [vl_iv (m74 23 11), vl_iv a1]) (st := []) lk_X8_135 (fun _ => rfl) (by omega) n23 s23 rfl rfl (Nat.le_of_ble_eq_true rfl) rfl (Nat.le_of_ble_eq_true rfl) dX8_split_455 hE (fun _ h => vx_X8_hold hG (Nat.le_refl _) h) (fun m76 hE => ?_)
            refine vl_aload_n 0 rfl dX8_split_458 ?_
            refine vl_aload_n 0 rfl dX8_split_459 ?_
            refine vl_getIr (h := 23) (k0 := 11) (ki := 11) iu_X8 n23 (by decide) s23 rfl (by decide) fk_X8_93 rfl rfl dX8_split_460 ?_
            refine vl_iload 2 rfl dX8_split_463 ?_
            refine vl_VrWV (K' := kX8_hold) (d' := 0) (h := 23) (As := [vl_iv (m76 23 11), vl_iv b32]) (st := []) lk_X8_135 (fun _ => rfl) (by omega) n23 s23 rfl rfl (Nat.le_of_ble_eq_true rfl) rfl (Nat.le_of_ble_eq_true rfl) dX8_split_465 hE (fun _ h => vx_X8_hold hG (Nat.le_refl _) h) (fun m78 hE => ?_)
            refine vl_aload_n 0 rfl dX8_split_468 ?_
            refine vl_aload_n 0 rfl dX8_split_469 ?_
            refine vl_getIr (h := 23) (k0 := 11) (ki := 11) iu_X8 n23 (by decide) s23 rfl (by decide) fk_X8_93 rfl rfl dX8_split_470 ?_
            refine vl_VrWV (K' := kX8_measure) (d' := 1) (h := 23) (As := [vl_iv (m78 23 11)]) (st := []) lk_X8_118 (fun _ => rfl) (by omega) n23 s23 rfl rfl (Nat.le_of_ble_eq_true rfl) rfl (Nat.le_of_ble_eq_true rfl) dX8_split_473 hE (fun _ h => vx_X8_measure hG (Nat.le_refl _) h) (fun m80 hE => ?_)
            exact vl_ret (r := 0) rfl dX8_split_476 hE (hP' m80)
        have hL364_ : ∀ (n : Nat) (v35 : Int) (m36 : vl_M), vl_ok P (fn_X8_split_L364 N a1 v5 b32 κ n v35 m36) → vl_V nc S sc kX8_split d Post 364 [(0, .ref 23), (1, vl_iv a1), (3, vl_iv v5), (9, vl_iv b32), (10, vl_iv v35)] [] μ m36 := by
          intro n
          induction n with
          | zero => intro v35 m36 hE; exact vl_no hE
          | succ n ih364_ =>
            intro v35 m36 hE
            rw [fn_X8_split_L364] at hE
            refine vl_iload 4 rfl dX8_split_364 ?_
            refine vl_iload_n 2 rfl dX8_split_366 ?_
            obtain ⟨g82, hE⟩ := vl_ok_gd hE
            obtain ⟨g83, hE⟩ := vl_ok_gd hE
            refine vl_icmp_ge (tgt := 414) dX8_split_367 (by decide) g82 g83 hE (fun c95 hE => ?_) (fun c95 hE => ?_)
            · exact vl_wk [0, 1, 3] rfl (hκ36436 v35 m36 hE)
            · refine vl_aload_n 0 rfl dX8_split_370 ?_
              refine vl_aload_n 0 rfl dX8_split_371 ?_
              refine vl_getR (h := 23) (k0 := 31) (h2 := 38) iu_X8 n23 s23 rfl (by decide) fk_X8_56 rfl dX8_split_372 ?_
              refine vl_aload_n 0 rfl dX8_split_375 ?_
              refine vl_getR (h := 23) (k0 := 32) (h2 := 39) iu_X8 n23 s23 rfl (by decide) fk_X8_59 rfl dX8_split_376 ?_
              refine vl_iload 4 rfl dX8_split_379 ?_
              refine vl_aldr (h := 39) (n := 11) (ni := 11) n39 (by decide) s39 (by decide) rfl dX8_split_381 hE (fun g84 g85 hE => ?_)
              refine vl_aldr (h := 38) (n := 11) (ni := 11) n38 (by decide) s38 (by decide) rfl dX8_split_382 hE (fun g86 g87 hE => ?_)
              refine vl_iconst dX8_split_383 ?_
              obtain ⟨g88, hE⟩ := vl_ok_gd hE
              refine vl_jnr (J := fun κ : Int → Option (vl_M) => ∀ (v89 : Int), vl_ok P (κ v89) → vl_V nc S sc kX8_split d Post 393 [(0, .ref 23), (1, vl_iv a1), (3, vl_iv v5), (9, vl_iv b32), (10, vl_iv v35)] [vl_iv v89, .ref 23] μ m36) ?_ hE (fun κ90 hκ90 hE => ?_)
              · intro v89 hE
                refine vl_aload_n 0 rfl dX8_split_393 ?_
                refine vl_getR (h := 23) (k0 := 30) (h2 := 37) iu_X8 n23 s23 rfl (by decide) fk_X8_53 rfl dX8_split_394 ?_
                refine vl_aload_n 0 rfl dX8_split_397 ?_
                refine vl_getR (h := 23) (k0 := 32) (h2 := 39) iu_X8 n23 s23 rfl (by decide) fk_X8_59 rfl dX8_split_398 ?_
                refine vl_iload 4 rfl dX8_split_401 ?_
                refine vl_aldr1 (h := 39) (n := 11) (ni := 11) n39 (by decide) s39 (by decide) rfl g84 dX8_split_403 ?_
                refine vl_aldr1 (h := 37) (n := 11) (ni := 11) n37 (by decide) s37 (by decide) rfl g86 dX8_split_404 ?_
                refine vl_VrWV (K' := kX8_hold) (d' := 0) (h := 23) (As := [vl_iv v89, vl_iv (m36 37 (m36 39 v35))]) (st := []) lk_X8_135 (fun _ => rfl) (by omega) n23 s23 rfl rfl (Nat.le_of_ble_eq_true rfl) rfl (Nat.le_of_ble_eq_true rfl) dX8_split_405 hE (fun _ h => vx_X8_hold hG (Nat.le_refl _) h) (fun m92 hE => ?_)
                refine vl_iinc 4 (fun v93 => [(10, vl_iv v93), (0, .ref 23), (1, vl_iv a1), (3, vl_iv v5), (9, vl_iv b32)]) dX8_split_408 rfl (by decide) (fun _ => rfl) hE (fun v93 hE => ?_)
                refine vl_goto (tgt := 364) dX8_split_411 (by decide) ?_
                exact vl_wk [1, 2, 3, 4, 0] rfl (ih364_ v93 m92 hE)
              refine vl_icmp_ne (tgt := 391) dX8_split_384 (by decide) g88 (by decide) hE (fun c94 hE => ?_) (fun c94 hE => ?_)
              · refine vl_iload 3 rfl dX8_split_391 ?_
                exact (hκ90 b32 hE)
              · refine vl_iload_n 1 rfl dX8_split_387 ?_
                refine vl_goto (tgt := 393) dX8_split_388 (by decide) ?_
                exact (hκ90 a1 hE)
        exact vl_wk [2, 3, 4, 1, 0] rfl (hL364_ N 0 m34 hE)
      have hL216_ : ∀ (n : Nat) (v28 : Int) (m29 : vl_M), vl_ok P (fn_X8_split_L216 N a1 v4 v5 κ n v28 m29) → vl_V nc S sc kX8_split d Post 216 [(0, .ref 23), (1, vl_iv a1), (2, vl_iv v4), (3, vl_iv v5), (8, vl_iv v28)] [] μ m29 := by
        intro n
        induction n with
        | zero => intro v28 m29 hE; exact vl_no hE
        | succ n ih216_ =>
          intro v28 m29 hE
          rw [fn_X8_split_L216] at hE
          refine vl_iload 4 rfl dX8_split_216 ?_
          refine vl_iload_n 3 rfl dX8_split_218 ?_
          obtain ⟨g96, hE⟩ := vl_ok_gd hE
          obtain ⟨g97, hE⟩ := vl_ok_gd hE
          refine vl_icmp_ge (tgt := 342) dX8_split_219 (by decide) g96 g97 hE (fun c131 hE => ?_) (fun c131 hE => ?_)
          · exact vl_wk [0, 1, 3] rfl (hκ21629 v28 m29 hE)
          · refine vl_aload_n 0 rfl dX8_split_222 ?_
            refine vl_getR (h := 23) (k0 := 34) (h2 := 41) iu_X8 n23 s23 rfl (by decide) fk_X8_65 rfl dX8_split_223 ?_
            refine vl_iconst dX8_split_226 ?_
            refine vl_aldr1 (h := 41) (n := 2) (ni := 2) n41 (by decide) s41 (by decide) rfl g19 dX8_split_227 ?_
            refine vl_iload_n 3 rfl dX8_split_228 ?_
            refine vl_iadd dX8_split_229 ?_
            refine vl_iload 4 rfl dX8_split_230 ?_
            refine vl_isub dX8_split_232 ?_
            refine vl_aload_n 0 rfl dX8_split_233 ?_
            refine vl_getIr (h := 23) (k0 := 2) (ki := 2) iu_X8 n23 (by decide) s23 rfl (by decide) fk_X8_86 rfl rfl dX8_split_234 ?_
            obtain ⟨g98, hE⟩ := vl_ok_gd hE
            obtain ⟨g99, hE⟩ := vl_ok_gd hE
            refine vl_jnr (J := fun κ : Int → vl_M → Option (vl_M) => ∀ (v100 : Int) (m101 : vl_M), vl_ok P (κ v100 m101) → vl_V nc S sc kX8_split d Post 258 [(0, .ref 23), (1, vl_iv a1), (2, vl_iv v4), (3, vl_iv v5), (8, vl_iv v100)] [] μ m101) ?_ hE (fun κ102 hκ102 hE => ?_)
            · intro v100 m101 hE
              refine vl_aload_n 0 rfl dX8_split_258 ?_
              refine vl_getR (h := 23) (k0 := 34) (h2 := 41) iu_X8 n23 s23 rfl (by decide) fk_X8_65 rfl dX8_split_259 ?_
              refine vl_iconst dX8_split_262 ?_
              refine vl_aldr1 (h := 41) (n := 2) (ni := 2) n41 (by decide) s41 (by decide) rfl g19 dX8_split_263 ?_
              refine vl_iload_n 3 rfl dX8_split_264 ?_
              refine vl_iadd dX8_split_265 ?_
              refine vl_iload 4 rfl dX8_split_266 ?_
              refine vl_isub dX8_split_268 ?_
              refine vl_aload_n 0 rfl dX8_split_269 ?_
              refine vl_getIr (h := 23) (k0 := 2) (ki := 2) iu_X8 n23 (by decide) s23 rfl (by decide) fk_X8_86 rfl rfl dX8_split_270 ?_
              obtain ⟨g103, hE⟩ := vl_ok_gd hE
              obtain ⟨g104, hE⟩ := vl_ok_gd hE
              refine vl_jnr (J := fun κ : Int → Option (vl_M) => ∀ (v105 : Int), vl_ok P (κ v105) → vl_V nc S sc kX8_split d Post 281 [(0, .ref 23), (1, vl_iv a1), (2, vl_iv v4), (3, vl_iv v5), (8, vl_iv v100)] [vl_iv v105] μ m101) ?_ hE (fun κ106 hκ106 hE => ?_)
              · intro v105 hE
                refine vl_istore0 (lv' := [(9, vl_iv v105), (0, .ref 23), (1, vl_iv a1), (2, vl_iv v4), (3, vl_iv v5), (8, vl_iv v100)]) dX8_split_281 (by decide) rfl ?_
                refine vl_iconst dX8_split_283 ?_
                refine vl_istore0 (lv' := [(10, vl_iv 0), (9, vl_iv v105), (0, .ref 23), (1, vl_iv a1), (2, vl_iv v4), (3, vl_iv v5), (8, vl_iv v100)]) dX8_split_284 (by decide) rfl ?_
                refine vl_lpr (F := fun κ : Int → Int → vl_M → Option (vl_M) => fn_X8_split_L286 N a1 v4 v5 v105 κ N v100 0 m101) (J := fun κ => ∀ (v110 : Int) (v111 : Int) (m112 : vl_M), vl_ok P (κ v110 v111 m112) → vl_V nc S sc kX8_split d Post 326 [(0, .ref 23), (1, vl_iv a1), (2, vl_iv v4), (3, vl_iv v5), (8, vl_iv v110)] [] μ m112) ?_ hE (fun κ hκ286109 hE => ?_)
                · intro v110 v111 m112 hE
                  refine vl_goto (tgt := 216) dX8_split_326 (by decide) ?_
                  exact (ih216_ v110 m112 hE)
                have hL286_ : ∀ (n : Nat) (v107 : Int) (v108 : Int) (m109 : vl_M), vl_ok P (fn_X8_split_L286 N a1 v4 v5 v105 κ n v107 v108 m109) → vl_V nc S sc kX8_split d Post 286 [(0, .ref 23), (1, vl_iv a1), (2, vl_iv v4), (3, vl_iv v5), (8, vl_iv v107), (9, vl_iv v105), (10, vl_iv v108)] [] μ m109 := by
                  intro n
                  induction n with
                  | zero => intro v107 v108 m109 hE; exact vl_no hE
                  | succ n ih286_ =>
                    intro v107 v108 m109 hE
                    rw [fn_X8_split_L286] at hE
                    refine vl_iload 6 rfl dX8_split_286 ?_
                    refine vl_iload_n 3 rfl dX8_split_288 ?_
                    obtain ⟨g113, hE⟩ := vl_ok_gd hE
                    refine vl_icmp_ge (tgt := 326) dX8_split_289 (by decide) g113 g97 hE (fun c124 hE => ?_) (fun c124 hE => ?_)
                    · exact vl_wk [0, 1, 2, 3, 4] rfl (hκ286109 v107 v108 m109 hE)
                    · refine vl_aload_n 0 rfl dX8_split_292 ?_
                      refine vl_getR (h := 23) (k0 := 31) (h2 := 38) iu_X8 n23 s23 rfl (by decide) fk_X8_56 rfl dX8_split_293 ?_
                      refine vl_iload 6 rfl dX8_split_296 ?_
                      refine vl_aldr (h := 38) (n := 11) (ni := 11) n38 (by decide) s38 (by decide) rfl dX8_split_298 hE (fun g114 g115 hE => ?_)
                      obtain ⟨g116, hE⟩ := vl_ok_gd hE
                      refine vl_jnr (J := fun κ : Int → vl_M → Option (vl_M) => ∀ (v117 : Int) (m118 : vl_M), vl_ok P (κ v117 m118) → vl_V nc S sc kX8_split d Post 318 [(0, .ref 23), (1, vl_iv a1), (2, vl_iv v4), (3, vl_iv v5), (9, vl_iv v105), (10, vl_iv v108)] [vl_iv v117] μ m118) ?_ hE (fun κ119 hκ119 hE => ?_)
                      · intro v117 m118 hE
                        refine vl_istore0 (lv' := [(8, vl_iv v117), (0, .ref 23), (1, vl_iv a1), (2, vl_iv v4), (3, vl_iv v5), (9, vl_iv v105), (10, vl_iv v108)]) dX8_split_318 (by decide) rfl ?_
                        refine vl_iinc 6 (fun v120 => [(10, vl_iv v120), (8, vl_iv v117), (0, .ref 23), (1, vl_iv a1), (2, vl_iv v4), (3, vl_iv v5), (9, vl_iv v105)]) dX8_split_320 rfl (by decide) (fun _ => rfl) hE (fun v120 hE => ?_)
                        refine vl_goto (tgt := 286) dX8_split_323 (by decide) ?_
                        exact vl_wk [2, 3, 4, 5, 1, 6, 0] rfl (ih286_ v117 v120 m118 hE)
                      refine vl_if_ne (tgt := 316) dX8_split_299 (by decide) g116  hE (fun c123 hE => ?_) (fun c123 hE => ?_)
                      · refine vl_iload 4 rfl dX8_split_316 ?_
                        exact vl_wk [0, 1, 2, 3, 5, 6] rfl (hκ119 v107 m109 hE)
                      · refine vl_aload_n 0 rfl dX8_split_302 ?_
                        refine vl_iload 6 rfl dX8_split_303 ?_
                        refine vl_iload 5 rfl dX8_split_305 ?_
                        refine vl_iload_n 2 rfl dX8_split_307 ?_
                        refine vl_iload 4 rfl dX8_split_308 ?_
                        refine vl_VrWI (K' := kX8_come) (d' := 1) (h := 23) (As := [vl_iv v108, vl_iv v105, vl_iv v4, vl_iv v107]) (st := []) lk_X8_152 (fun _ => rfl) (by omega) n23 s23 rfl rfl (Nat.le_of_ble_eq_true rfl) rfl (Nat.le_of_ble_eq_true rfl) dX8_split_310 hE (fun _ h => vx_X8_come hG (Nat.le_refl _) h) (fun b121 m122 hE => ?_)
                        refine vl_goto (tgt := 318) dX8_split_313 (by decide) ?_
                        exact vl_wk [0, 1, 2, 3, 5, 6] rfl (hκ119 b121 m122 hE)
                exact vl_wk [2, 3, 4, 5, 6, 1, 0] rfl (hL286_ N v100 0 m101 hE)
              refine vl_icmp_ne (tgt := 280) dX8_split_273 (by decide) g103 g104 hE (fun c125 hE => ?_) (fun c125 hE => ?_)
              · refine vl_iconst dX8_split_280 ?_
                exact (hκ106 2 hE)
              · refine vl_iconst dX8_split_276 ?_
                refine vl_goto (tgt := 281) dX8_split_277 (by decide) ?_
                exact (hκ106 1 hE)
            refine vl_icmp_eq (tgt := 258) dX8_split_237 (by decide) g98 g99 hE (fun c130 hE => ?_) (fun c130 hE => ?_)
            · exact (hκ102 v28 m29 hE)
            · refine vl_aload_n 0 rfl dX8_split_240 ?_
              refine vl_getR (h := 23) (k0 := 34) (h2 := 41) iu_X8 n23 s23 rfl (by decide) fk_X8_65 rfl dX8_split_241 ?_
              refine vl_iconst dX8_split_244 ?_
              refine vl_aldr1 (h := 41) (n := 2) (ni := 2) n41 (by decide) s41 (by decide) rfl g22 dX8_split_245 ?_
              refine vl_iload_n 3 rfl dX8_split_246 ?_
              refine vl_iadd dX8_split_247 ?_
              refine vl_iload 4 rfl dX8_split_248 ?_
              refine vl_isub dX8_split_250 ?_
              refine vl_aload_n 0 rfl dX8_split_251 ?_
              refine vl_getIr (h := 23) (k0 := 2) (ki := 2) iu_X8 n23 (by decide) s23 rfl (by decide) fk_X8_86 rfl rfl dX8_split_252 ?_
              obtain ⟨g126, hE⟩ := vl_ok_gd hE
              refine vl_icmp_ne (tgt := 329) dX8_split_255 (by decide) g126 g99 hE (fun c129 hE => ?_) (fun c129 hE => ?_)
              · refine vl_aload_n 0 rfl dX8_split_329 ?_
                refine vl_iload_n 3 rfl dX8_split_330 ?_
                refine vl_iload_n 2 rfl dX8_split_331 ?_
                refine vl_iload 4 rfl dX8_split_332 ?_
                refine vl_VrWI (K' := kX8_comeBest) (d' := 3) (h := 23) (As := [vl_iv v5, vl_iv v4, vl_iv v28]) (st := []) lk_X8_156 (fun _ => rfl) (by omega) n23 s23 rfl rfl (Nat.le_of_ble_eq_true rfl) rfl (Nat.le_of_ble_eq_true rfl) dX8_split_334 hE (fun _ h => vx_X8_comeBest hG (Nat.le_refl _) h) (fun b127 m128 hE => ?_)
                refine vl_istore0 (lv' := [(8, vl_iv b127), (0, .ref 23), (1, vl_iv a1), (2, vl_iv v4), (3, vl_iv v5)]) dX8_split_337 (by decide) rfl ?_
                refine vl_goto (tgt := 216) dX8_split_339 (by decide) ?_
                exact vl_wk [1, 2, 3, 4, 0] rfl (ih216_ b127 m128 hE)
              · exact (hκ102 v28 m29 hE)
      exact vl_wk [1, 2, 3, 4, 0] rfl (hL216_ N b26 m27 hE)
    have hL77_ : ∀ (n : Nat) (v10 : Int) (v11 : Int) (v12 : Int) (v13 : Int), vl_ok P (fn_X8_split_L77 N m9 a1 v4 v5 κ n v10 v11 v12 v13) → vl_V nc S sc kX8_split d Post 77 [(0, .ref 23), (1, vl_iv a1), (2, vl_iv v4), (3, vl_iv v5), (4, vl_iv v10), (5, vl_iv v11), (6, vl_jv v12), (8, vl_iv v13)] [] μ m9 := by
      intro n
      induction n with
      | zero => intro v10 v11 v12 v13 hE; exact vl_no hE
      | succ n ih77_ =>
        intro v10 v11 v12 v13 hE
        rw [fn_X8_split_L77] at hE
        refine vl_iload 7 rfl dX8_split_77 ?_
        refine vl_iload_n 3 rfl dX8_split_79 ?_
        obtain ⟨g132, hE⟩ := vl_ok_gd hE
        obtain ⟨g133, hE⟩ := vl_ok_gd hE
        refine vl_icmp_ge (tgt := 175) dX8_split_80 (by decide) g132 g133 hE (fun c162 hE => ?_) (fun c162 hE => ?_)
        · exact vl_wk [0, 1, 2, 3, 4, 5] rfl (hκL7713 v10 v11 v12 v13 hE)
        · refine vl_iload 7 rfl dX8_split_83 ?_
          refine vl_iconst dX8_split_85 ?_
          refine vl_iadd dX8_split_86 ?_
          refine vl_istore (fun v134 => [(9, vl_iv v134), (0, .ref 23), (1, vl_iv a1), (2, vl_iv v4), (3, vl_iv v5), (4, vl_iv v10), (5, vl_iv v11), (6, vl_jv v12), (8, vl_iv v13)]) dX8_split_87 (by decide) (fun _ => rfl) hE (fun v134 hE => ?_)
          refine vl_lpr (F := fun κ : Int → Int → Int → Int → Option (vl_M) => fn_X8_split_L89 N m9 a1 v4 v5 v13 κ N v10 v11 v12 v134) (J := fun κ => ∀ (v139 : Int) (v140 : Int) (v141 : Int) (v142 : Int), vl_ok P (κ v139 v140 v141 v142) → vl_V nc S sc kX8_split d Post 169 [(0, .ref 23), (1, vl_iv a1), (2, vl_iv v4), (3, vl_iv v5), (4, vl_iv v139), (5, vl_iv v140), (6, vl_jv v141), (8, vl_iv v13)] [] μ m9) ?_ hE (fun κ hκL89138 hE => ?_)
          · intro v139 v140 v141 v142 hE
            refine vl_iinc 7 (fun v143 => [(8, vl_iv v143), (0, .ref 23), (1, vl_iv a1), (2, vl_iv v4), (3, vl_iv v5), (4, vl_iv v139), (5, vl_iv v140), (6, vl_jv v141)]) dX8_split_169 rfl (by decide) (fun _ => rfl) hE (fun v143 hE => ?_)
            refine vl_goto (tgt := 77) dX8_split_172 (by decide) ?_
            exact vl_wk [1, 2, 3, 4, 5, 6, 7, 0] rfl (ih77_ v139 v140 v141 v143 hE)
          have hL89_ : ∀ (n : Nat) (v135 : Int) (v136 : Int) (v137 : Int) (v138 : Int), vl_ok P (fn_X8_split_L89 N m9 a1 v4 v5 v13 κ n v135 v136 v137 v138) → vl_V nc S sc kX8_split d Post 89 [(0, .ref 23), (1, vl_iv a1), (2, vl_iv v4), (3, vl_iv v5), (4, vl_iv v135), (5, vl_iv v136), (6, vl_jv v137), (8, vl_iv v13), (9, vl_iv v138)] [] μ m9 := by
            intro n
            induction n with
            | zero => intro v135 v136 v137 v138 hE; exact vl_no hE
            | succ n ih89_ =>
              intro v135 v136 v137 v138 hE
              rw [fn_X8_split_L89] at hE
              refine vl_iload 8 rfl dX8_split_89 ?_
              refine vl_iload_n 3 rfl dX8_split_91 ?_
              obtain ⟨g144, hE⟩ := vl_ok_gd hE
              refine vl_icmp_ge (tgt := 169) dX8_split_92 (by decide) g144 g133 hE (fun c161 hE => ?_) (fun c161 hE => ?_)
              · exact vl_wk [0, 1, 2, 3, 4, 5, 6, 7] rfl (hκL89138 v135 v136 v137 v138 hE)
              · refine vl_aload_n 0 rfl dX8_split_95 ?_
                refine vl_iload_n 2 rfl dX8_split_96 ?_
                refine vl_aload_n 0 rfl dX8_split_97 ?_
                refine vl_getR (h := 23) (k0 := 30) (h2 := 37) iu_X8 n23 s23 rfl (by decide) fk_X8_53 rfl dX8_split_98 ?_
                refine vl_iload 7 rfl dX8_split_101 ?_
                refine vl_aldr (h := 37) (n := 11) (ni := 11) n37 (by decide) s37 (by decide) rfl dX8_split_103 hE (fun g145 g146 hE => ?_)
                refine vl_iload_n 2 rfl dX8_split_104 ?_
                refine vl_aload_n 0 rfl dX8_split_105 ?_
                refine vl_getR (h := 23) (k0 := 30) (h2 := 37) iu_X8 n23 s23 rfl (by decide) fk_X8_53 rfl dX8_split_106 ?_
                refine vl_iload 8 rfl dX8_split_109 ?_
                refine vl_aldr (h := 37) (n := 11) (ni := 11) n37 (by decide) s37 (by decide) rfl dX8_split_111 hE (fun g147 g148 hE => ?_)
                refine vl_VpJ (K' := kX8_areaBoth) (d' := 1) (h := 23) (As := [vl_iv v4, vl_iv (m9 37 v13), vl_iv v4, vl_iv (m9 37 v138)]) (st := []) lk_X8_129 (fun _ => rfl) (by omega) n23 s23 rfl rfl (Nat.le_of_ble_eq_true rfl) rfl (Nat.le_of_ble_eq_true rfl) dX8_split_112 hE (fun _ h => vx_X8_areaBoth hG (Nat.le_refl _) h) (fun b149 hE => ?_)
                refine vl_aload_n 0 rfl dX8_split_115 ?_
                refine vl_iload_n 2 rfl dX8_split_116 ?_
                refine vl_aload_n 0 rfl dX8_split_117 ?_
                refine vl_getR (h := 23) (k0 := 30) (h2 := 37) iu_X8 n23 s23 rfl (by decide) fk_X8_53 rfl dX8_split_118 ?_
                refine vl_iload 7 rfl dX8_split_121 ?_
                refine vl_aldr1 (h := 37) (n := 11) (ni := 11) n37 (by decide) s37 (by decide) rfl g145 dX8_split_123 ?_
                refine vl_VpJ (K' := kX8_areaOf) (d' := 1) (h := 23) (As := [vl_iv v4, vl_iv (m9 37 v13)]) (st := [vl_jv b149]) lk_X8_125 (fun _ => rfl) (by omega) n23 s23 rfl rfl (Nat.le_of_ble_eq_true rfl) rfl (Nat.le_of_ble_eq_true rfl) dX8_split_124 hE (fun _ h => vx_X8_areaOf hG (Nat.le_refl _) h) (fun b150 hE => ?_)
                refine vl_lsub dX8_split_127 ?_
                refine vl_aload_n 0 rfl dX8_split_128 ?_
                refine vl_iload_n 2 rfl dX8_split_129 ?_
                refine vl_aload_n 0 rfl dX8_split_130 ?_
                refine vl_getR (h := 23) (k0 := 30) (h2 := 37) iu_X8 n23 s23 rfl (by decide) fk_X8_53 rfl dX8_split_131 ?_
                refine vl_iload 8 rfl dX8_split_134 ?_
                refine vl_aldr1 (h := 37) (n := 11) (ni := 11) n37 (by decide) s37 (by decide) rfl g147 dX8_split_136 ?_
                refine vl_VpJ (K' := kX8_areaOf) (d' := 1) (h := 23) (As := [vl_iv v4, vl_iv (m9 37 v138)]) (st := [vl_jv (b149 - b150)]) lk_X8_125 (fun _ => rfl) (by omega) n23 s23 rfl rfl (Nat.le_of_ble_eq_true rfl) rfl (Nat.le_of_ble_eq_true rfl) dX8_split_137 hE (fun _ h => vx_X8_areaOf hG (Nat.le_refl _) h) (fun b151 hE => ?_)
                refine vl_lsub dX8_split_140 ?_
                refine vl_lstore (fun v152 => [(10, vl_jv v152), (0, .ref 23), (1, vl_iv a1), (2, vl_iv v4), (3, vl_iv v5), (4, vl_iv v135), (5, vl_iv v136), (6, vl_jv v137), (8, vl_iv v13), (9, vl_iv v138)]) dX8_split_141 (by decide) (fun _ => rfl) hE (fun v152 hE => ?_)
                refine vl_lload 0 rfl dX8_split_143 ?_
                refine vl_lload 7 rfl dX8_split_145 ?_
                obtain ⟨g153, hE⟩ := vl_ok_gd hE
                obtain ⟨g154, hE⟩ := vl_ok_gd hE
                refine vl_jnr (J := fun κ : Int → Int → Int → Option (vl_M) => ∀ (v155 : Int) (v156 : Int) (v157 : Int), vl_ok P (κ v155 v156 v157) → vl_V nc S sc kX8_split d Post 163 [(0, .ref 23), (1, vl_iv a1), (2, vl_iv v4), (3, vl_iv v5), (4, vl_iv v155), (5, vl_iv v156), (6, vl_jv v157), (8, vl_iv v13), (9, vl_iv v138)] [] μ m9) ?_ hE (fun κ158 hκ158 hE => ?_)
                · intro v155 v156 v157 hE
                  refine vl_iinc 8 (fun v159 => [(9, vl_iv v159), (0, .ref 23), (1, vl_iv a1), (2, vl_iv v4), (3, vl_iv v5), (4, vl_iv v155), (5, vl_iv v156), (6, vl_jv v157), (8, vl_iv v13)]) dX8_split_163 rfl (by decide) (fun _ => rfl) hE (fun v159 hE => ?_)
                  refine vl_goto (tgt := 89) dX8_split_166 (by decide) ?_
                  exact vl_wk [1, 2, 3, 4, 5, 6, 7, 8, 0] rfl (ih89_ v155 v156 v157 v159 hE)
                refine vl_lif_le (tgt := 163) dX8_split_147 dX8_split_148 (by decide) g153 g154 hE (fun c160 hE => ?_) (fun c160 hE => ?_)
                · exact vl_wk [1, 2, 3, 4, 5, 6, 7, 8, 9] rfl (hκ158 v135 v136 v137 hE)
                · refine vl_lload 0 rfl dX8_split_151 ?_
                  refine vl_lstore0 (lv' := [(6, vl_jv v152), (10, vl_jv v152), (0, .ref 23), (1, vl_iv a1), (2, vl_iv v4), (3, vl_iv v5), (4, vl_iv v135), (5, vl_iv v136), (8, vl_iv v13), (9, vl_iv v138)]) dX8_split_153 (by decide) rfl ?_
                  refine vl_iload 8 rfl dX8_split_155 ?_
                  refine vl_istore0 (lv' := [(4, vl_iv v13), (6, vl_jv v152), (10, vl_jv v152), (0, .ref 23), (1, vl_iv a1), (2, vl_iv v4), (3, vl_iv v5), (5, vl_iv v136), (8, vl_iv v13), (9, vl_iv v138)]) dX8_split_157 (by decide) rfl ?_
                  refine vl_iload 9 rfl dX8_split_159 ?_
                  refine vl_istore0 (lv' := [(5, vl_iv v138), (4, vl_iv v13), (6, vl_jv v152), (10, vl_jv v152), (0, .ref 23), (1, vl_iv a1), (2, vl_iv v4), (3, vl_iv v5), (8, vl_iv v13), (9, vl_iv v138)]) dX8_split_161 (by decide) rfl ?_
                  exact vl_wk [4, 5, 6, 7, 1, 0, 2, 8, 9] rfl (hκ158 v13 v138 v152 hE)
          exact vl_wk [1, 2, 3, 4, 5, 6, 7, 8, 0] rfl (hL89_ N v10 v11 v12 v134 hE)
    exact vl_wk [4, 5, 6, 7, 3, 2, 1, 0] rfl (hL77_ N 0 1 (-9223372036854775808) 0 hE)
  have hL29_ : ∀ (n : Nat) (v6 : Int) (m7 : vl_M), vl_ok P (fn_X8_split_L29 N a1 v4 v5 κ n v6 m7) → vl_V nc S sc kX8_split d Post 29 [(0, .ref 23), (1, vl_iv a1), (2, vl_iv v4), (3, vl_iv v5), (4, vl_iv v6)] [] μ m7 := by
    intro n
    induction n with
    | zero => intro v6 m7 hE; exact vl_no hE
    | succ n ih29_ =>
      intro v6 m7 hE
      rw [fn_X8_split_L29] at hE
      refine vl_iload 4 rfl dX8_split_29 ?_
      refine vl_iload_n 3 rfl dX8_split_31 ?_
      obtain ⟨g163, hE⟩ := vl_ok_gd hE
      obtain ⟨g164, hE⟩ := vl_ok_gd hE
      refine vl_icmp_ge (tgt := 63) dX8_split_32 (by decide) g163 g164 hE (fun c171 hE => ?_) (fun c171 hE => ?_)
      · exact vl_wk [0, 1, 2, 3] rfl (hκL297 v6 m7 hE)
      · refine vl_aload_n 0 rfl dX8_split_35 ?_
        refine vl_getR (h := 23) (k0 := 30) (h2 := 37) iu_X8 n23 s23 rfl (by decide) fk_X8_53 rfl dX8_split_36 ?_
        refine vl_iload 4 rfl dX8_split_39 ?_
        refine vl_aload_n 0 rfl dX8_split_41 ?_
        refine vl_iload_n 1 rfl dX8_split_42 ?_
        refine vl_iload 4 rfl dX8_split_43 ?_
        refine vl_VpI (K' := kX8_heldBy) (d' := 0) (h := 23) (As := [vl_iv a1, vl_iv v6]) (st := [vl_iv v6, .ref 37]) lk_X8_115 (fun _ => rfl) (by omega) n23 s23 rfl rfl (Nat.le_of_ble_eq_true rfl) rfl (Nat.le_of_ble_eq_true rfl) dX8_split_45 hE (fun _ h => vx_X8_heldBy hG (Nat.le_refl _) h) (fun b165 hE => ?_)
        refine vl_astr (h := 37) (n := 11) (ni := 11) n37 (by decide) s37 (by decide) rfl dX8_split_48 hE (fun g167 g168 m166 hE => ?_)
        refine vl_aload_n 0 rfl dX8_split_49 ?_
        refine vl_getR (h := 23) (k0 := 31) (h2 := 38) iu_X8 n23 s23 rfl (by decide) fk_X8_56 rfl dX8_split_50 ?_
        refine vl_iload 4 rfl dX8_split_53 ?_
        refine vl_iconst dX8_split_55 ?_
        refine vl_astr1 (h := 38) (n := 11) (ni := 11) n38 (by decide) s38 (by decide) rfl g167 dX8_split_56 hE (fun m169 hE => ?_)
        refine vl_iinc 4 (fun v170 => [(4, vl_iv v170), (0, .ref 23), (1, vl_iv a1), (2, vl_iv v4), (3, vl_iv v5)]) dX8_split_57 rfl (by decide) (fun _ => rfl) hE (fun v170 hE => ?_)
        refine vl_goto (tgt := 29) dX8_split_60 (by decide) ?_
        exact vl_wk [1, 2, 3, 4, 0] rfl (ih29_ v170 m169 hE)
  exact vl_wk [3, 4, 2, 1, 0] rfl (hL29_ N 0 m1 hE)
set_option maxRecDepth 100000 in
set_option maxHeartbeats 4000000 in
theorem vx_X8_put {nc : Nat} {S : vl_Sh} {sc : Nat × (Nat → Int32)} (hG : vl_G3 nc S) {N : Nat} {d : Nat} (hd : 5 ≤ d) {Post : Int → vl_M → vl_M → Prop} {μ m : vl_M} {a1 a2 : Int} (hE : vl_ok (fun b : vl_M => Post 0 μ b) (fn_X8_put N m a1 a2)) : vl_V nc S sc kX8_put d Post 0 [(0, .ref 23), (1, vl_iv a1), (2, vl_iv a2)] [] μ m := by
  generalize hP : (fun b : vl_M => Post 0 μ b) = P at hE
  have hP' : ∀ b : vl_M, P b → Post 0 μ b := fun b h => by rw [← hP] at h; exact h
  clear hP
  have s23 : S 23 = .inr (8, [0, 0, 0, 27, 28, 0, 29, 30, 31, 32, 33, 0, 0, 0, 0, 34, 35, 0, 36, 0, 0, 37, 38, 39, 0, 0, 0, 0, 0, 1, 40, 41, 42, 43, 44, 45, 46, 0, 47, 48, 49]) := hG.2 23 (by decide) (by decide)
  have n23 : 23 < nc := Nat.lt_of_lt_of_le (by decide) hG.1
  have s26 : S 26 = .inl 500 := hG.2 26 (by decide) (by decide)
  have n26 : 26 < nc := Nat.lt_of_lt_of_le (by decide) hG.1
  have s27 : S 27 = .inl 500 := hG.2 27 (by decide) (by decide)
  have n27 : 27 < nc := Nat.lt_of_lt_of_le (by decide) hG.1
  have s30 : S 30 = .inl 500 := hG.2 30 (by decide) (by decide)
  have n30 : 30 < nc := Nat.lt_of_lt_of_le (by decide) hG.1
  unfold fn_X8_put at hE
  refine vl_aload_n 0 rfl dX8_put_0 ?_
  refine vl_getIr (h := 23) (k0 := 11) (ki := 11) iu_X8 n23 (by decide) s23 rfl (by decide) fk_X8_93 rfl rfl dX8_put_1 ?_
  refine vl_istore_n rfl (fun v1 => [(3, vl_iv v1), (0, .ref 23), (1, vl_iv a1), (2, vl_iv a2)]) dX8_put_4 (by decide) (fun _ => rfl) hE (fun v1 hE => ?_)
  refine vl_lpr (F := fun κ : Int → Option (vl_M) => fn_X8_put_L5 N m a1 a2 κ N v1) (J := fun κ => ∀ (v3 : Int), vl_ok P (κ v3) → vl_V nc S sc kX8_put d Post 28 [(0, .ref 23), (2, vl_iv a2), (3, vl_iv v3)] [] μ m) ?_ hE (fun κ hκL52 hE => ?_)
  · intro v3 hE
    refine vl_aload_n 0 rfl dX8_put_28 ?_
    refine vl_iload_n 2 rfl dX8_put_29 ?_
    refine vl_iload_n 1 rfl dX8_put_30 ?_
    refine vl_VrWV (K' := kX8_hold) (d' := 0) (h := 23) (As := [vl_iv v3, vl_iv a2]) (st := []) lk_X8_135 (fun _ => rfl) (by omega) n23 s23 rfl rfl (Nat.le_of_ble_eq_true rfl) rfl (Nat.le_of_ble_eq_true rfl) dX8_put_31 hE (fun _ h => vx_X8_hold hG (Nat.le_refl _) h) (fun m5 hE => ?_)
    refine vl_aload_n 0 rfl dX8_put_34 ?_
    refine vl_iload_n 2 rfl dX8_put_35 ?_
    refine vl_VrWV (K' := kX8_measureUp) (d' := 2) (h := 23) (As := [vl_iv v3]) (st := []) lk_X8_139 (fun _ => rfl) (by omega) n23 s23 rfl rfl (Nat.le_of_ble_eq_true rfl) rfl (Nat.le_of_ble_eq_true rfl) dX8_put_36 hE (fun _ h => vx_X8_measureUp hG (Nat.le_refl _) h) (fun m7 hE => ?_)
    refine vl_lpr (F := fun κ : Int → vl_M → Option (vl_M) => fn_X8_put_L39 N  κ N v3 m7) (J := fun κ => ∀ (v10 : Int) (m11 : vl_M), vl_ok P (κ v10 m11) → vl_V nc S sc kX8_put d Post 75 [] [] μ m11) ?_ hE (fun κ hκL399 hE => ?_)
    · intro v10 m11 hE
      exact vl_ret (r := 0) rfl dX8_put_75 hE (hP' m11)
    have hL39_ : ∀ (n : Nat) (v8 : Int) (m9 : vl_M), vl_ok P (fn_X8_put_L39 N  κ n v8 m9) → vl_V nc S sc kX8_put d Post 39 [(0, .ref 23), (3, vl_iv v8)] [] μ m9 := by
      intro n
      induction n with
      | zero => intro v8 m9 hE; exact vl_no hE
      | succ n ih39_ =>
        intro v8 m9 hE
        rw [fn_X8_put_L39] at hE
        refine vl_iload_n 1 rfl dX8_put_39 ?_
        obtain ⟨g12, hE⟩ := vl_ok_gd hE
        refine vl_if_lt (tgt := 75) dX8_put_40 (by decide) g12  hE (fun c23 hE => ?_) (fun c23 hE => ?_)
        · exact vl_wk [] rfl (hκL399 v8 m9 hE)
        · refine vl_aload_n 0 rfl dX8_put_43 ?_
          refine vl_getR (h := 23) (k0 := 10) (h2 := 30) iu_X8 n23 s23 rfl (by decide) fk_X8_32 rfl dX8_put_44 ?_
          refine vl_iload_n 1 rfl dX8_put_47 ?_
          refine vl_aldr (h := 30) (n := 500) (ni := 500) n30 (by decide) s30 (by decide) rfl dX8_put_48 hE (fun g13 g14 hE => ?_)
          refine vl_istore (fun v15 => [(4, vl_iv v15), (0, .ref 23), (3, vl_iv v8)]) dX8_put_49 (by decide) (fun _ => rfl) hE (fun v15 hE => ?_)
          refine vl_aload_n 1 rfl dX8_put_51 ?_
          refine vl_getR (h := 23) (k0 := 7) (h2 := 27) iu_X8 n23 s23 rfl (by decide) fk_X8_23 rfl dX8_put_52 ?_
          refine vl_iload_n 2 rfl dX8_put_55 ?_
          refine vl_aldr1 (h := 27) (n := 500) (ni := 500) n27 (by decide) s27 (by decide) rfl g13 dX8_put_56 ?_
          refine vl_aload_n 1 rfl dX8_put_57 ?_
          refine vl_getIr (h := 23) (k0 := 1) (ki := 1) iu_X8 n23 (by decide) s23 rfl (by decide) fk_X8_83 rfl rfl dX8_put_58 ?_
          obtain ⟨g16, hE⟩ := vl_ok_gd hE
          obtain ⟨g17, hE⟩ := vl_ok_gd hE
          refine vl_jnr (J := fun κ : vl_M → Option (vl_M) => ∀ (m18 : vl_M), vl_ok P (κ m18) → vl_V nc S sc kX8_put d Post 69 [(0, .ref 23), (4, vl_iv v15)] [] μ m18) ?_ hE (fun κ19 hκ19 hE => ?_)
          · intro m18 hE
            refine vl_iload 1 rfl dX8_put_69 ?_
            refine vl_istore_n0 rfl (lv' := [(3, vl_iv v15), (0, .ref 23), (4, vl_iv v15)]) dX8_put_71 (by decide) rfl ?_
            refine vl_goto (tgt := 39) dX8_put_72 (by decide) ?_
            exact vl_wk [1, 0] rfl (ih39_ v15 m18 hE)
          refine vl_icmp_le (tgt := 69) dX8_put_61 (by decide) g16 g17 hE (fun c22 hE => ?_) (fun c22 hE => ?_)
          · exact vl_wk [1, 0] rfl (hκ19 m9 hE)
          · refine vl_aload_n 1 rfl dX8_put_64 ?_
            refine vl_iload_n 2 rfl dX8_put_65 ?_
            refine vl_VrWV (K' := kX8_split) (d' := 4) (h := 23) (As := [vl_iv v8]) (st := []) lk_X8_142 (fun _ => rfl) (by omega) n23 s23 rfl rfl (Nat.le_of_ble_eq_true rfl) rfl (Nat.le_of_ble_eq_true rfl) dX8_put_66 hE (fun _ h => vx_X8_split hG (Nat.le_refl _) h) (fun m21 hE => ?_)
            exact vl_wk [1, 0] rfl (hκ19 m21 hE)
    exact vl_wk [0, 2] rfl (hL39_ N v3 m7 hE)
  have hL5_ : ∀ (n : Nat) (v2 : Int), vl_ok P (fn_X8_put_L5 N m a1 a2 κ n v2) → vl_V nc S sc kX8_put d Post 5 [(0, .ref 23), (1, vl_iv a1), (2, vl_iv a2), (3, vl_iv v2)] [] μ m := by
    intro n
    induction n with
    | zero => intro v2 hE; exact vl_no hE
    | succ n ih5_ =>
      intro v2 hE
      rw [fn_X8_put_L5] at hE
      refine vl_aload_n 0 rfl dX8_put_5 ?_
      refine vl_getR (h := 23) (k0 := 6) (h2 := 26) iu_X8 n23 s23 rfl (by decide) fk_X8_20 rfl dX8_put_6 ?_
      refine vl_iload_n 3 rfl dX8_put_9 ?_
      refine vl_aldr (h := 26) (n := 500) (ni := 500) n26 (by decide) s26 (by decide) rfl dX8_put_10 hE (fun g24 g25 hE => ?_)
      refine vl_iload_n 1 rfl dX8_put_11 ?_
      refine vl_iconst dX8_put_12 ?_
      refine vl_iadd dX8_put_13 ?_
      obtain ⟨g26, hE⟩ := vl_ok_gd hE
      obtain ⟨g27, hE⟩ := vl_ok_gd hE
      refine vl_icmp_le (tgt := 28) dX8_put_14 (by decide) g26 g27 hE (fun c29 hE => ?_) (fun c29 hE => ?_)
      · exact vl_wk [0, 2, 3] rfl (hκL52 v2 hE)
      · refine vl_aload_n 0 rfl dX8_put_17 ?_
        refine vl_iload_n 3 rfl dX8_put_18 ?_
        refine vl_iload_n 1 rfl dX8_put_19 ?_
        refine vl_iload_n 2 rfl dX8_put_20 ?_
        refine vl_VpI (K' := kX8_choose) (d' := 2) (h := 23) (As := [vl_iv v2, vl_iv a1, vl_iv a2]) (st := []) lk_X8_132 (fun _ => rfl) (by omega) n23 s23 rfl rfl (Nat.le_of_ble_eq_true rfl) rfl (Nat.le_of_ble_eq_true rfl) dX8_put_21 hE (fun _ h => vx_X8_choose hG (Nat.le_refl _) h) (fun b28 hE => ?_)
        refine vl_istore_n0 rfl (lv' := [(3, vl_iv b28), (0, .ref 23), (1, vl_iv a1), (2, vl_iv a2)]) dX8_put_24 (by decide) rfl ?_
        refine vl_goto (tgt := 5) dX8_put_25 (by decide) ?_
        exact vl_wk [1, 2, 3, 0] rfl (ih5_ b28 hE)
  exact vl_wk [1, 2, 3, 0] rfl (hL5_ N v1 hE)
set_option maxRecDepth 100000 in
set_option maxHeartbeats 4000000 in
theorem vx_X8_insert {nc : Nat} {S : vl_Sh} {sc : Nat × (Nat → Int32)} (hG : vl_G3 nc S) {N : Nat} {d : Nat} (hd : 6 ≤ d) {Post : Int → vl_M → vl_M → Prop} {μ m : vl_M} {a1 a2 a3 a4 a5 : Int} (hE : vl_ok (fun b : Int × vl_M => Post b.1 μ b.2) (fn_X8_insert N m a1 a2 a3 a4 a5)) : vl_V nc S sc kX8_insert d Post 0 [(0, .ref 23), (1, vl_iv a1), (2, vl_iv a2), (3, vl_iv a3), (4, vl_iv a4), (5, vl_iv a5)] [] μ m := by
  generalize hP : (fun b : Int × vl_M => Post b.1 μ b.2) = P at hE
  have hP' : ∀ b : Int × vl_M, P b → Post b.1 μ b.2 := fun b h => by rw [← hP] at h; exact h
  clear hP
  have s23 : S 23 = .inr (8, [0, 0, 0, 27, 28, 0, 29, 30, 31, 32, 33, 0, 0, 0, 0, 34, 35, 0, 36, 0, 0, 37, 38, 39, 0, 0, 0, 0, 0, 1, 40, 41, 42, 43, 44, 45, 46, 0, 47, 48, 49]) := hG.2 23 (by decide) (by decide)
  have n23 : 23 < nc := Nat.lt_of_lt_of_le (by decide) hG.1
  have s24 : S 24 = .inl 401 := hG.2 24 (by decide) (by decide)
  have n24 : 24 < nc := Nat.lt_of_lt_of_le (by decide) hG.1
  have s25 : S 25 = .inl 1604 := hG.2 25 (by decide) (by decide)
  have n25 : 25 < nc := Nat.lt_of_lt_of_le (by decide) hG.1
  unfold fn_X8_insert at hE
  refine vl_iload_n 1 rfl dX8_insert_0 ?_
  refine vl_iload_n 2 rfl dX8_insert_1 ?_
  refine vl_iload_n 3 rfl dX8_insert_2 ?_
  refine vl_iload 4 rfl dX8_insert_3 ?_
  refine vl_iload 5 rfl dX8_insert_5 ?_
  refine vl_SpI (K' := kX8_isEntry) (d' := 2) (As := [vl_iv a1, vl_iv a2, vl_iv a3, vl_iv a4, vl_iv a5]) (st := []) lk_X8_173 (fun _ => rfl) (by omega) rfl (Nat.le_of_ble_eq_true rfl) rfl (Nat.le_of_ble_eq_true rfl) dX8_insert_7 hE (fun _ h => vx_X8_isEntry hG (Nat.le_refl _) h) (fun b1 hE => ?_)
  obtain ⟨g2, hE⟩ := vl_ok_gd hE
  refine vl_if_ne (tgt := 15) dX8_insert_10 (by decide) g2  hE (fun c34 hE => ?_) (fun c34 hE => ?_)
  · refine vl_aload_n 0 rfl dX8_insert_15 ?_
    refine vl_iload_n 1 rfl dX8_insert_16 ?_
    refine vl_iload_n 2 rfl dX8_insert_17 ?_
    refine vl_iload_n 3 rfl dX8_insert_18 ?_
    refine vl_iload 4 rfl dX8_insert_19 ?_
    refine vl_iload 5 rfl dX8_insert_21 ?_
    refine vl_VpI (K' := kX8_find) (d' := 0) (h := 23) (As := [vl_iv a1, vl_iv a2, vl_iv a3, vl_iv a4, vl_iv a5]) (st := []) lk_X8_177 (fun _ => rfl) (by omega) n23 s23 rfl rfl (Nat.le_of_ble_eq_true rfl) rfl (Nat.le_of_ble_eq_true rfl) dX8_insert_23 hE (fun _ h => vx_X8_find hG (Nat.le_refl _) h) (fun b3 hE => ?_)
    obtain ⟨g4, hE⟩ := vl_ok_gd hE
    refine vl_if_lt (tgt := 32) dX8_insert_26 (by decide) g4  hE (fun c33 hE => ?_) (fun c33 hE => ?_)
    · refine vl_aload_n 0 rfl dX8_insert_32 ?_
      refine vl_getIr (h := 23) (k0 := 5) (ki := 5) iu_X8 n23 (by decide) s23 rfl (by decide) fk_X8_181 rfl rfl dX8_insert_33 ?_
      refine vl_sipush (by decide) dX8_insert_36 ?_
      obtain ⟨g5, hE⟩ := vl_ok_gd hE
      refine vl_icmp_ne (tgt := 45) dX8_insert_39 (by decide) g5 (by decide) hE (fun c32 hE => ?_) (fun c32 hE => ?_)
      · refine vl_iconst dX8_insert_45 ?_
        refine vl_istore0 (lv' := [(6, vl_iv 0), (0, .ref 23), (1, vl_iv a1), (2, vl_iv a2), (3, vl_iv a3), (4, vl_iv a4), (5, vl_iv a5)]) dX8_insert_46 (by decide) rfl ?_
        refine vl_lpr (F := fun κ : Int → Option (Int × vl_M) => fn_X8_insert_L48 N m a1 a2 a3 a4 a5 κ N 0) (J := fun κ => ∀ (v7 : Int), vl_ok P (κ v7) → vl_V nc S sc kX8_insert d Post 64 [(0, .ref 23), (1, vl_iv a1), (2, vl_iv a2), (3, vl_iv a3), (4, vl_iv a4), (5, vl_iv a5), (6, vl_iv v7)] [] μ m) ?_ hE (fun κ hκL486 hE => ?_)
        · intro v7 hE
          refine vl_aload_n 0 rfl dX8_insert_64 ?_
          refine vl_getR (h := 23) (k0 := 3) (h2 := 24) iu_X8 n23 s23 rfl (by decide) fk_X8_13 rfl dX8_insert_65 ?_
          refine vl_iload 6 rfl dX8_insert_68 ?_
          refine vl_iload_n 1 rfl dX8_insert_70 ?_
          refine vl_astr (h := 24) (n := 401) (ni := 401) n24 (by decide) s24 (by decide) rfl dX8_insert_71 hE (fun g9 g10 m8 hE => ?_)
          refine vl_aload_n 0 rfl dX8_insert_72 ?_
          refine vl_getR (h := 23) (k0 := 4) (h2 := 25) iu_X8 n23 s23 rfl (by decide) fk_X8_17 rfl dX8_insert_73 ?_
          refine vl_iconst dX8_insert_76 ?_
          refine vl_iload 6 rfl dX8_insert_77 ?_
          refine vl_imul dX8_insert_79 ?_
          refine vl_iload_n 2 rfl dX8_insert_80 ?_
          refine vl_astr (h := 25) (n := 1604) (ni := 1604) n25 (by decide) s25 (by decide) rfl dX8_insert_81 hE (fun g12 g13 m11 hE => ?_)
          refine vl_aload_n 0 rfl dX8_insert_82 ?_
          refine vl_getR (h := 23) (k0 := 4) (h2 := 25) iu_X8 n23 s23 rfl (by decide) fk_X8_17 rfl dX8_insert_83 ?_
          refine vl_iconst dX8_insert_86 ?_
          refine vl_iload 6 rfl dX8_insert_87 ?_
          refine vl_imul dX8_insert_89 ?_
          refine vl_iconst dX8_insert_90 ?_
          refine vl_iadd dX8_insert_91 ?_
          refine vl_iload_n 3 rfl dX8_insert_92 ?_
          refine vl_astr (h := 25) (n := 1604) (ni := 1604) n25 (by decide) s25 (by decide) rfl dX8_insert_93 hE (fun g15 g16 m14 hE => ?_)
          refine vl_aload_n 0 rfl dX8_insert_94 ?_
          refine vl_getR (h := 23) (k0 := 4) (h2 := 25) iu_X8 n23 s23 rfl (by decide) fk_X8_17 rfl dX8_insert_95 ?_
          refine vl_iconst dX8_insert_98 ?_
          refine vl_iload 6 rfl dX8_insert_99 ?_
          refine vl_imul dX8_insert_101 ?_
          refine vl_iconst dX8_insert_102 ?_
          refine vl_iadd dX8_insert_103 ?_
          refine vl_iload 4 rfl dX8_insert_104 ?_
          refine vl_astr (h := 25) (n := 1604) (ni := 1604) n25 (by decide) s25 (by decide) rfl dX8_insert_106 hE (fun g18 g19 m17 hE => ?_)
          refine vl_aload_n 0 rfl dX8_insert_107 ?_
          refine vl_getR (h := 23) (k0 := 4) (h2 := 25) iu_X8 n23 s23 rfl (by decide) fk_X8_17 rfl dX8_insert_108 ?_
          refine vl_iconst dX8_insert_111 ?_
          refine vl_iload 6 rfl dX8_insert_112 ?_
          refine vl_imul dX8_insert_114 ?_
          refine vl_iconst dX8_insert_115 ?_
          refine vl_iadd dX8_insert_116 ?_
          refine vl_iload 5 rfl dX8_insert_117 ?_
          refine vl_astr (h := 25) (n := 1604) (ni := 1604) n25 (by decide) s25 (by decide) rfl dX8_insert_119 hE (fun g21 g22 m20 hE => ?_)
          refine vl_aload_n 0 rfl dX8_insert_120 ?_
          refine vl_dup rfl dX8_insert_121 ?_
          refine vl_getIr (h := 23) (k0 := 5) (ki := 5) iu_X8 n23 (by decide) s23 rfl (by decide) fk_X8_181 rfl rfl dX8_insert_122 ?_
          refine vl_iconst dX8_insert_125 ?_
          refine vl_iadd dX8_insert_126 ?_
          refine vl_putIr (h := 23) (k0 := 5) (ki := 5) iu_X8 tyX8_ok nmX8 n23 (by decide) s23 rfl (by decide) fk_X8_181 rfl rfl rfl (vl_nI _) dX8_insert_127 hE (fun m23 hE => ?_)
          refine vl_aload_n 0 rfl dX8_insert_130 ?_
          refine vl_iconst dX8_insert_131 ?_
          refine vl_putIr (h := 23) (k0 := 20) (ki := 20) iu_X8 tyX8_ok nmX8 n23 (by decide) s23 rfl (by decide) fk_X8_184 rfl rfl rfl (vl_nZ (by decide)) dX8_insert_132 hE (fun m24 hE => ?_)
          refine vl_aload_n 0 rfl dX8_insert_135 ?_
          refine vl_iconst dX8_insert_136 ?_
          refine vl_iload 6 rfl dX8_insert_137 ?_
          refine vl_VrWV (K' := kX8_put) (d' := 5) (h := 23) (As := [vl_iv (-1), vl_iv v7]) (st := []) lk_X8_188 (fun _ => rfl) (by omega) n23 s23 rfl rfl (Nat.le_of_ble_eq_true rfl) rfl (Nat.le_of_ble_eq_true rfl) dX8_insert_139 hE (fun _ h => vx_X8_put hG (Nat.le_refl _) h) (fun m26 hE => ?_)
          refine vl_aload_n 0 rfl dX8_insert_142 ?_
          refine vl_getIr (h := 23) (k0 := 5) (ki := 5) iu_X8 n23 (by decide) s23 rfl (by decide) fk_X8_181 rfl rfl dX8_insert_143 ?_
          exact vl_ret (r := (m26 23 5)) rfl dX8_insert_146 hE (hP' ((m26 23 5), m26))
        have hL48_ : ∀ (n : Nat) (v6 : Int), vl_ok P (fn_X8_insert_L48 N m a1 a2 a3 a4 a5 κ n v6) → vl_V nc S sc kX8_insert d Post 48 [(0, .ref 23), (1, vl_iv a1), (2, vl_iv a2), (3, vl_iv a3), (4, vl_iv a4), (5, vl_iv a5), (6, vl_iv v6)] [] μ m := by
          intro n
          induction n with
          | zero => intro v6 hE; exact vl_no hE
          | succ n ih48_ =>
            intro v6 hE
            rw [fn_X8_insert_L48] at hE
            refine vl_aload_n 0 rfl dX8_insert_48 ?_
            refine vl_getR (h := 23) (k0 := 3) (h2 := 24) iu_X8 n23 s23 rfl (by decide) fk_X8_13 rfl dX8_insert_49 ?_
            refine vl_iload 6 rfl dX8_insert_52 ?_
            refine vl_aldr (h := 24) (n := 401) (ni := 401) n24 (by decide) s24 (by decide) rfl dX8_insert_54 hE (fun g27 g28 hE => ?_)
            obtain ⟨g29, hE⟩ := vl_ok_gd hE
            refine vl_if_lt (tgt := 64) dX8_insert_55 (by decide) g29  hE (fun c31 hE => ?_) (fun c31 hE => ?_)
            · exact (hκL486 v6 hE)
            · refine vl_iinc 6 (fun v30 => [(6, vl_iv v30), (0, .ref 23), (1, vl_iv a1), (2, vl_iv a2), (3, vl_iv a3), (4, vl_iv a4), (5, vl_iv a5)]) dX8_insert_58 rfl (by decide) (fun _ => rfl) hE (fun v30 hE => ?_)
              refine vl_goto (tgt := 48) dX8_insert_61 (by decide) ?_
              exact vl_wk [1, 2, 3, 4, 5, 6, 0] rfl (ih48_ v30 hE)
        exact vl_wk [1, 2, 3, 4, 5, 6, 0] rfl (hL48_ N 0 hE)
      · refine vl_bipush (by decide) dX8_insert_42 ?_
        exact vl_ret (r := (-3)) rfl dX8_insert_44 hE (hP' ((-3), m))
    · refine vl_bipush (by decide) dX8_insert_29 ?_
      exact vl_ret (r := (-2)) rfl dX8_insert_31 hE (hP' ((-2), m))
  · refine vl_iconst dX8_insert_13 ?_
    exact vl_ret (r := (-1)) rfl dX8_insert_14 hE (hP' ((-1), m))
set_option maxRecDepth 100000 in
set_option maxHeartbeats 4000000 in
theorem vx_X8_remove {nc : Nat} {S : vl_Sh} {sc : Nat × (Nat → Int32)} (hG : vl_G3 nc S) {N : Nat} {d : Nat} (hd : 6 ≤ d) {Post : Int → vl_M → vl_M → Prop} {μ m : vl_M} {a1 a2 a3 a4 a5 : Int} (hE : vl_ok (fun b : Int × vl_M => Post b.1 μ b.2) (fn_X8_remove N m a1 a2 a3 a4 a5)) : vl_V nc S sc kX8_remove d Post 0 [(0, .ref 23), (1, vl_iv a1), (2, vl_iv a2), (3, vl_iv a3), (4, vl_iv a4), (5, vl_iv a5)] [] μ m := by
  generalize hP : (fun b : Int × vl_M => Post b.1 μ b.2) = P at hE
  have hP' : ∀ b : Int × vl_M, P b → Post b.1 μ b.2 := fun b h => by rw [← hP] at h; exact h
  clear hP
  have s23 : S 23 = .inr (8, [0, 0, 0, 27, 28, 0, 29, 30, 31, 32, 33, 0, 0, 0, 0, 34, 35, 0, 36, 0, 0, 37, 38, 39, 0, 0, 0, 0, 0, 1, 40, 41, 42, 43, 44, 45, 46, 0, 47, 48, 49]) := hG.2 23 (by decide) (by decide)
  have n23 : 23 < nc := Nat.lt_of_lt_of_le (by decide) hG.1
  have s24 : S 24 = .inl 401 := hG.2 24 (by decide) (by decide)
  have n24 : 24 < nc := Nat.lt_of_lt_of_le (by decide) hG.1
  have s26 : S 26 = .inl 500 := hG.2 26 (by decide) (by decide)
  have n26 : 26 < nc := Nat.lt_of_lt_of_le (by decide) hG.1
  have s27 : S 27 = .inl 500 := hG.2 27 (by decide) (by decide)
  have n27 : 27 < nc := Nat.lt_of_lt_of_le (by decide) hG.1
  have s30 : S 30 = .inl 500 := hG.2 30 (by decide) (by decide)
  have n30 : 30 < nc := Nat.lt_of_lt_of_le (by decide) hG.1
  have s31 : S 31 = .inl 64 := hG.2 31 (by decide) (by decide)
  have n31 : 31 < nc := Nat.lt_of_lt_of_le (by decide) hG.1
  have s32 : S 32 = .inl 64 := hG.2 32 (by decide) (by decide)
  have n32 : 32 < nc := Nat.lt_of_lt_of_le (by decide) hG.1
  unfold fn_X8_remove at hE
  refine vl_iload_n 1 rfl dX8_remove_0 ?_
  refine vl_iload_n 2 rfl dX8_remove_1 ?_
  refine vl_iload_n 3 rfl dX8_remove_2 ?_
  refine vl_iload 4 rfl dX8_remove_3 ?_
  refine vl_iload 5 rfl dX8_remove_5 ?_
  refine vl_SpI (K' := kX8_isEntry) (d' := 2) (As := [vl_iv a1, vl_iv a2, vl_iv a3, vl_iv a4, vl_iv a5]) (st := []) lk_X8_173 (fun _ => rfl) (by omega) rfl (Nat.le_of_ble_eq_true rfl) rfl (Nat.le_of_ble_eq_true rfl) dX8_remove_7 hE (fun _ h => vx_X8_isEntry hG (Nat.le_refl _) h) (fun b1 hE => ?_)
  obtain ⟨g2, hE⟩ := vl_ok_gd hE
  refine vl_if_ne (tgt := 15) dX8_remove_10 (by decide) g2  hE (fun c82 hE => ?_) (fun c82 hE => ?_)
  · refine vl_aload_n 0 rfl dX8_remove_15 ?_
    refine vl_iload_n 1 rfl dX8_remove_16 ?_
    refine vl_iload_n 2 rfl dX8_remove_17 ?_
    refine vl_iload_n 3 rfl dX8_remove_18 ?_
    refine vl_iload 4 rfl dX8_remove_19 ?_
    refine vl_iload 5 rfl dX8_remove_21 ?_
    refine vl_VpI (K' := kX8_find) (d' := 0) (h := 23) (As := [vl_iv a1, vl_iv a2, vl_iv a3, vl_iv a4, vl_iv a5]) (st := []) lk_X8_177 (fun _ => rfl) (by omega) n23 s23 rfl rfl (Nat.le_of_ble_eq_true rfl) rfl (Nat.le_of_ble_eq_true rfl) dX8_remove_23 hE (fun _ h => vx_X8_find hG (Nat.le_refl _) h) (fun b3 hE => ?_)
    refine vl_istore0 (lv' := [(6, vl_iv b3), (0, .ref 23), (1, vl_iv a1), (2, vl_iv a2), (3, vl_iv a3), (4, vl_iv a4), (5, vl_iv a5)]) dX8_remove_26 (by decide) rfl ?_
    refine vl_iload 0 rfl dX8_remove_28 ?_
    obtain ⟨g4, hE⟩ := vl_ok_gd hE
    refine vl_if_ge (tgt := 36) dX8_remove_30 (by decide) g4  hE (fun c81 hE => ?_) (fun c81 hE => ?_)
    · refine vl_aload_n 1 rfl dX8_remove_36 ?_
      refine vl_iconst dX8_remove_37 ?_
      refine vl_putIr (h := 23) (k0 := 20) (ki := 20) iu_X8 tyX8_ok nmX8 n23 (by decide) s23 rfl (by decide) fk_X8_184 rfl rfl rfl (vl_nZ (by decide)) dX8_remove_38 hE (fun m5 hE => ?_)
      refine vl_aload_n 1 rfl dX8_remove_41 ?_
      refine vl_iload 0 rfl dX8_remove_42 ?_
      refine vl_VpI (K' := kX8_leafOf) (d' := 1) (h := 23) (As := [vl_iv b3]) (st := []) lk_X8_191 (fun _ => rfl) (by omega) n23 s23 rfl rfl (Nat.le_of_ble_eq_true rfl) rfl (Nat.le_of_ble_eq_true rfl) dX8_remove_44 hE (fun _ h => vx_X8_leafOf hG (Nat.le_refl _) h) (fun b6 hE => ?_)
      refine vl_istore0 (lv' := [(7, vl_iv b6), (6, vl_iv b3), (0, .ref 23), (1, vl_iv a1), (2, vl_iv a2), (3, vl_iv a3), (4, vl_iv a4), (5, vl_iv a5)]) dX8_remove_47 (by decide) rfl ?_
      refine vl_aload_n 2 rfl dX8_remove_49 ?_
      refine vl_iload 0 rfl dX8_remove_50 ?_
      refine vl_iload 1 rfl dX8_remove_52 ?_
      refine vl_VrWV (K' := kX8_takeFrom) (d' := 2) (h := 23) (As := [vl_iv b6, vl_iv b3]) (st := []) lk_X8_194 (fun _ => rfl) (by omega) n23 s23 rfl rfl (Nat.le_of_ble_eq_true rfl) rfl (Nat.le_of_ble_eq_true rfl) dX8_remove_54 hE (fun _ h => vx_X8_takeFrom hG (Nat.le_refl _) h) (fun m8 hE => ?_)
      refine vl_aload_n 2 rfl dX8_remove_57 ?_
      refine vl_getR (h := 23) (k0 := 3) (h2 := 24) iu_X8 n23 s23 rfl (by decide) fk_X8_13 rfl dX8_remove_58 ?_
      refine vl_iload 1 rfl dX8_remove_61 ?_
      refine vl_bipush (by decide) dX8_remove_63 ?_
      refine vl_astr (h := 24) (n := 401) (ni := 401) n24 (by decide) s24 (by decide) rfl dX8_remove_65 hE (fun g10 g11 m9 hE => ?_)
      refine vl_aload_n 2 rfl dX8_remove_66 ?_
      refine vl_dup rfl dX8_remove_67 ?_
      refine vl_getIr (h := 23) (k0 := 5) (ki := 5) iu_X8 n23 (by decide) s23 rfl (by decide) fk_X8_181 rfl rfl dX8_remove_68 ?_
      refine vl_iconst dX8_remove_71 ?_
      refine vl_isub dX8_remove_72 ?_
      refine vl_putIr (h := 23) (k0 := 5) (ki := 5) iu_X8 tyX8_ok nmX8 n23 (by decide) s23 rfl (by decide) fk_X8_181 rfl rfl rfl (vl_nI _) dX8_remove_73 hE (fun m12 hE => ?_)
      refine vl_aload_n 2 rfl dX8_remove_76 ?_
      refine vl_iconst dX8_remove_77 ?_
      refine vl_putIr (h := 23) (k0 := 17) (ki := 17) iu_X8 tyX8_ok nmX8 n23 (by decide) s23 rfl (by decide) fk_X8_197 rfl rfl rfl (vl_nI _) dX8_remove_78 hE (fun m13 hE => ?_)
      refine vl_lpr (F := fun κ : Int → vl_M → Option (Int × vl_M) => fn_X8_remove_L81 N  κ N b6 m13) (J := fun κ => ∀ (v16 : Int) (m17 : vl_M), vl_ok P (κ v16 m17) → vl_V nc S sc kX8_remove d Post 227 [(0, .ref 23)] [] μ m17) ?_ hE (fun κ hκL8115 hE => ?_)
      · intro v16 m17 hE
        refine vl_aload_n 0 rfl dX8_remove_227 ?_
        refine vl_dup rfl dX8_remove_228 ?_
        refine vl_getIr (h := 23) (k0 := 14) (ki := 14) iu_X8 n23 (by decide) s23 rfl (by decide) fk_X8_203 rfl rfl dX8_remove_229 ?_
        refine vl_aload_n 0 rfl dX8_remove_232 ?_
        refine vl_getIr (h := 23) (k0 := 17) (ki := 17) iu_X8 n23 (by decide) s23 rfl (by decide) fk_X8_197 rfl rfl dX8_remove_233 ?_
        refine vl_iadd dX8_remove_236 ?_
        refine vl_putIr (h := 23) (k0 := 14) (ki := 14) iu_X8 tyX8_ok nmX8 n23 (by decide) s23 rfl (by decide) fk_X8_203 rfl rfl rfl (vl_nI _) dX8_remove_237 hE (fun m18 hE => ?_)
        refine vl_iconst dX8_remove_240 ?_
        refine vl_istore0 (lv' := [(8, vl_iv 0), (0, .ref 23)]) dX8_remove_241 (by decide) rfl ?_
        refine vl_lpr (F := fun κ : Int → vl_M → Option (Int × vl_M) => fn_X8_remove_L243 N  κ N 0 m18) (J := fun κ => ∀ (v21 : Int) (m22 : vl_M), vl_ok P (κ v21 m22) → vl_V nc S sc kX8_remove d Post 276 [(0, .ref 23)] [] μ m22) ?_ hE (fun κ hκ24320 hE => ?_)
        · intro v21 m22 hE
          refine vl_lpr (F := fun κ : vl_M → Option (Int × vl_M) => fn_X8_remove_L276 N  κ N m22) (J := fun κ => ∀ (m24 : vl_M), vl_ok P (κ m24) → vl_V nc S sc kX8_remove d Post 343 [(0, .ref 23)] [] μ m24) ?_ hE (fun κ hκ27623 hE => ?_)
          · intro m24 hE
            refine vl_aload_n 0 rfl dX8_remove_343 ?_
            refine vl_getIr (h := 23) (k0 := 5) (ki := 5) iu_X8 n23 (by decide) s23 rfl (by decide) fk_X8_181 rfl rfl dX8_remove_344 ?_
            exact vl_ret (r := (m24 23 5)) rfl dX8_remove_347 hE (hP' ((m24 23 5), m24))
          have hL276_ : ∀ (n : Nat) (m23 : vl_M), vl_ok P (fn_X8_remove_L276 N  κ n m23) → vl_V nc S sc kX8_remove d Post 276 [(0, .ref 23)] [] μ m23 := by
            intro n
            induction n with
            | zero => intro m23 hE; exact vl_no hE
            | succ n ih276_ =>
              intro m23 hE
              rw [fn_X8_remove_L276] at hE
              refine vl_aload_n 0 rfl dX8_remove_276 ?_
              refine vl_getR (h := 23) (k0 := 6) (h2 := 26) iu_X8 n23 s23 rfl (by decide) fk_X8_20 rfl dX8_remove_277 ?_
              refine vl_aload_n 0 rfl dX8_remove_280 ?_
              refine vl_getIr (h := 23) (k0 := 11) (ki := 11) iu_X8 n23 (by decide) s23 rfl (by decide) fk_X8_93 rfl rfl dX8_remove_281 ?_
              refine vl_aldr (h := 26) (n := 500) (ni := 500) n26 (by decide) s26 (by decide) rfl dX8_remove_284 hE (fun g25 g26 hE => ?_)
              obtain ⟨g27, hE⟩ := vl_ok_gd hE
              refine vl_if_le (tgt := 343) dX8_remove_285 (by decide) g27  hE (fun c36 hE => ?_) (fun c36 hE => ?_)
              · exact (hκ27623 m23 hE)
              · refine vl_aload_n 0 rfl dX8_remove_288 ?_
                refine vl_getR (h := 23) (k0 := 7) (h2 := 27) iu_X8 n23 s23 rfl (by decide) fk_X8_23 rfl dX8_remove_289 ?_
                refine vl_aload_n 0 rfl dX8_remove_292 ?_
                refine vl_getIr (h := 23) (k0 := 11) (ki := 11) iu_X8 n23 (by decide) s23 rfl (by decide) fk_X8_93 rfl rfl dX8_remove_293 ?_
                refine vl_aldr1 (h := 27) (n := 500) (ni := 500) n27 (by decide) s27 (by decide) rfl g25 dX8_remove_296 ?_
                refine vl_iconst dX8_remove_297 ?_
                obtain ⟨g28, hE⟩ := vl_ok_gd hE
                refine vl_icmp_ne (tgt := 343) dX8_remove_298 (by decide) g28 (by decide) hE (fun c35 hE => ?_) (fun c35 hE => ?_)
                · exact (hκ27623 m23 hE)
                · refine vl_aload_n 0 rfl dX8_remove_301 ?_
                  refine vl_aload_n 0 rfl dX8_remove_302 ?_
                  refine vl_getIr (h := 23) (k0 := 11) (ki := 11) iu_X8 n23 (by decide) s23 rfl (by decide) fk_X8_93 rfl rfl dX8_remove_303 ?_
                  refine vl_iconst dX8_remove_306 ?_
                  refine vl_VpI (K' := kX8_heldBy) (d' := 0) (h := 23) (As := [vl_iv (m23 23 11), vl_iv 0]) (st := []) lk_X8_115 (fun _ => rfl) (by omega) n23 s23 rfl rfl (Nat.le_of_ble_eq_true rfl) rfl (Nat.le_of_ble_eq_true rfl) dX8_remove_307 hE (fun _ h => vx_X8_heldBy hG (Nat.le_refl _) h) (fun b29 hE => ?_)
                  refine vl_istore0 (lv' := [(8, vl_iv b29), (0, .ref 23)]) dX8_remove_310 (by decide) rfl ?_
                  refine vl_aload_n 1 rfl dX8_remove_312 ?_
                  refine vl_getR (h := 23) (k0 := 6) (h2 := 26) iu_X8 n23 s23 rfl (by decide) fk_X8_20 rfl dX8_remove_313 ?_
                  refine vl_aload_n 1 rfl dX8_remove_316 ?_
                  refine vl_getIr (h := 23) (k0 := 11) (ki := 11) iu_X8 n23 (by decide) s23 rfl (by decide) fk_X8_93 rfl rfl dX8_remove_317 ?_
                  refine vl_bipush (by decide) dX8_remove_320 ?_
                  refine vl_astr1 (h := 26) (n := 500) (ni := 500) n26 (by decide) s26 (by decide) rfl g25 dX8_remove_322 hE (fun m30 hE => ?_)
                  refine vl_aload_n 1 rfl dX8_remove_323 ?_
                  refine vl_iload 0 rfl dX8_remove_324 ?_
                  refine vl_putIr (h := 23) (k0 := 11) (ki := 11) iu_X8 tyX8_ok nmX8 n23 (by decide) s23 rfl (by decide) fk_X8_93 rfl rfl rfl (vl_nI _) dX8_remove_326 hE (fun m31 hE => ?_)
                  refine vl_aload_n 1 rfl dX8_remove_329 ?_
                  refine vl_getR (h := 23) (k0 := 10) (h2 := 30) iu_X8 n23 s23 rfl (by decide) fk_X8_32 rfl dX8_remove_330 ?_
                  refine vl_aload_n 1 rfl dX8_remove_333 ?_
                  refine vl_getIr (h := 23) (k0 := 11) (ki := 11) iu_X8 n23 (by decide) s23 rfl (by decide) fk_X8_93 rfl rfl dX8_remove_334 ?_
                  refine vl_bipush (by decide) dX8_remove_337 ?_
                  refine vl_astr (h := 30) (n := 500) (ni := 500) n30 (by decide) s30 (by decide) rfl dX8_remove_339 hE (fun g33 g34 m32 hE => ?_)
                  refine vl_goto (tgt := 276) dX8_remove_340 (by decide) ?_
                  exact vl_wk [1] rfl (ih276_ m32 hE)
          exact (hL276_ N m22 hE)
        have hL243_ : ∀ (n : Nat) (v19 : Int) (m20 : vl_M), vl_ok P (fn_X8_remove_L243 N  κ n v19 m20) → vl_V nc S sc kX8_remove d Post 243 [(0, .ref 23), (8, vl_iv v19)] [] μ m20 := by
          intro n
          induction n with
          | zero => intro v19 m20 hE; exact vl_no hE
          | succ n ih243_ =>
            intro v19 m20 hE
            rw [fn_X8_remove_L243] at hE
            refine vl_iload 1 rfl dX8_remove_243 ?_
            refine vl_aload_n 0 rfl dX8_remove_245 ?_
            refine vl_getIr (h := 23) (k0 := 17) (ki := 17) iu_X8 n23 (by decide) s23 rfl (by decide) fk_X8_197 rfl rfl dX8_remove_246 ?_
            obtain ⟨g37, hE⟩ := vl_ok_gd hE
            obtain ⟨g38, hE⟩ := vl_ok_gd hE
            refine vl_icmp_ge (tgt := 276) dX8_remove_249 (by decide) g37 g38 hE (fun c44 hE => ?_) (fun c44 hE => ?_)
            · exact vl_wk [0] rfl (hκ24320 v19 m20 hE)
            · refine vl_aload_n 0 rfl dX8_remove_252 ?_
              refine vl_aload_n 0 rfl dX8_remove_253 ?_
              refine vl_getR (h := 23) (k0 := 16) (h2 := 32) iu_X8 n23 s23 rfl (by decide) fk_X8_38 rfl dX8_remove_254 ?_
              refine vl_iload 1 rfl dX8_remove_257 ?_
              refine vl_aldr (h := 32) (n := 64) (ni := 64) n32 (by decide) s32 (by decide) rfl dX8_remove_259 hE (fun g39 g40 hE => ?_)
              refine vl_aload_n 0 rfl dX8_remove_260 ?_
              refine vl_getR (h := 23) (k0 := 15) (h2 := 31) iu_X8 n23 s23 rfl (by decide) fk_X8_35 rfl dX8_remove_261 ?_
              refine vl_iload 1 rfl dX8_remove_264 ?_
              refine vl_aldr1 (h := 31) (n := 64) (ni := 64) n31 (by decide) s31 (by decide) rfl g39 dX8_remove_266 ?_
              refine vl_VrWV (K' := kX8_put) (d' := 5) (h := 23) (As := [vl_iv (m20 32 v19), vl_iv (m20 31 v19)]) (st := []) lk_X8_188 (fun _ => rfl) (by omega) n23 s23 rfl rfl (Nat.le_of_ble_eq_true rfl) rfl (Nat.le_of_ble_eq_true rfl) dX8_remove_267 hE (fun _ h => vx_X8_put hG (Nat.le_refl _) h) (fun m42 hE => ?_)
              refine vl_iinc 1 (fun v43 => [(8, vl_iv v43), (0, .ref 23)]) dX8_remove_270 rfl (by decide) (fun _ => rfl) hE (fun v43 hE => ?_)
              refine vl_goto (tgt := 243) dX8_remove_273 (by decide) ?_
              exact vl_wk [1, 0] rfl (ih243_ v43 m42 hE)
        exact vl_wk [1, 0] rfl (hL243_ N 0 m18 hE)
      have hL81_ : ∀ (n : Nat) (v14 : Int) (m15 : vl_M), vl_ok P (fn_X8_remove_L81 N  κ n v14 m15) → vl_V nc S sc kX8_remove d Post 81 [(0, .ref 23), (7, vl_iv v14)] [] μ m15 := by
        intro n
        induction n with
        | zero => intro v14 m15 hE; exact vl_no hE
        | succ n ih81_ =>
          intro v14 m15 hE
          rw [fn_X8_remove_L81] at hE
          refine vl_iload 1 rfl dX8_remove_81 ?_
          obtain ⟨g45, hE⟩ := vl_ok_gd hE
          refine vl_if_lt (tgt := 227) dX8_remove_83 (by decide) g45  hE (fun c80 hE => ?_) (fun c80 hE => ?_)
          · exact vl_wk [0] rfl (hκL8115 v14 m15 hE)
          · refine vl_aload_n 0 rfl dX8_remove_86 ?_
            refine vl_getR (h := 23) (k0 := 10) (h2 := 30) iu_X8 n23 s23 rfl (by decide) fk_X8_32 rfl dX8_remove_87 ?_
            refine vl_iload 1 rfl dX8_remove_90 ?_
            refine vl_aldr (h := 30) (n := 500) (ni := 500) n30 (by decide) s30 (by decide) rfl dX8_remove_92 hE (fun g46 g47 hE => ?_)
            refine vl_istore (fun v48 => [(8, vl_iv v48), (0, .ref 23), (7, vl_iv v14)]) dX8_remove_93 (by decide) (fun _ => rfl) hE (fun v48 hE => ?_)
            refine vl_iload 2 rfl dX8_remove_95 ?_
            refine vl_aload_n 1 rfl dX8_remove_97 ?_
            refine vl_getIr (h := 23) (k0 := 11) (ki := 11) iu_X8 n23 (by decide) s23 rfl (by decide) fk_X8_93 rfl rfl dX8_remove_98 ?_
            obtain ⟨g49, hE⟩ := vl_ok_gd hE
            refine vl_jnr (J := fun κ : vl_M → Option (Int × vl_M) => ∀ (m50 : vl_M), vl_ok P (κ m50) → vl_V nc S sc kX8_remove d Post 220 [(0, .ref 23), (8, vl_iv v48)] [] μ m50) ?_ hE (fun κ51 hκ51 hE => ?_)
            · intro m50 hE
              refine vl_iload 1 rfl dX8_remove_220 ?_
              refine vl_istore0 (lv' := [(7, vl_iv v48), (0, .ref 23), (8, vl_iv v48)]) dX8_remove_222 (by decide) rfl ?_
              refine vl_goto (tgt := 81) dX8_remove_224 (by decide) ?_
              exact vl_wk [1, 0] rfl (ih81_ v48 m50 hE)
            refine vl_icmp_eq (tgt := 214) dX8_remove_101 (by decide) g45 g49 hE (fun c79 hE => ?_) (fun c79 hE => ?_)
            · refine vl_aload_n 1 rfl dX8_remove_214 ?_
              refine vl_iload 2 rfl dX8_remove_215 ?_
              refine vl_VrWV (K' := kX8_measure) (d' := 1) (h := 23) (As := [vl_iv v14]) (st := []) lk_X8_118 (fun _ => rfl) (by omega) n23 s23 rfl rfl (Nat.le_of_ble_eq_true rfl) rfl (Nat.le_of_ble_eq_true rfl) dX8_remove_217 hE (fun _ h => vx_X8_measure hG (Nat.le_refl _) h) (fun m53 hE => ?_)
              exact vl_wk [1, 0] rfl (hκ51 m53 hE)
            · refine vl_aload_n 1 rfl dX8_remove_104 ?_
              refine vl_getR (h := 23) (k0 := 7) (h2 := 27) iu_X8 n23 s23 rfl (by decide) fk_X8_23 rfl dX8_remove_105 ?_
              refine vl_iload 2 rfl dX8_remove_108 ?_
              refine vl_aldr1 (h := 27) (n := 500) (ni := 500) n27 (by decide) s27 (by decide) rfl g46 dX8_remove_110 ?_
              refine vl_aload_n 1 rfl dX8_remove_111 ?_
              refine vl_getIr (h := 23) (k0 := 2) (ki := 2) iu_X8 n23 (by decide) s23 rfl (by decide) fk_X8_86 rfl rfl dX8_remove_112 ?_
              obtain ⟨g54, hE⟩ := vl_ok_gd hE
              obtain ⟨g55, hE⟩ := vl_ok_gd hE
              refine vl_icmp_ge (tgt := 214) dX8_remove_115 (by decide) g54 g55 hE (fun c78 hE => ?_) (fun c78 hE => ?_)
              · refine vl_aload_n 1 rfl dX8_remove_214 ?_
                refine vl_iload 2 rfl dX8_remove_215 ?_
                refine vl_VrWV (K' := kX8_measure) (d' := 1) (h := 23) (As := [vl_iv v14]) (st := []) lk_X8_118 (fun _ => rfl) (by omega) n23 s23 rfl rfl (Nat.le_of_ble_eq_true rfl) rfl (Nat.le_of_ble_eq_true rfl) dX8_remove_217 hE (fun _ h => vx_X8_measure hG (Nat.le_refl _) h) (fun m57 hE => ?_)
                exact vl_wk [1, 0] rfl (hκ51 m57 hE)
              · refine vl_iconst dX8_remove_118 ?_
                refine vl_istore0 (lv' := [(9, vl_iv 0), (8, vl_iv v48), (0, .ref 23), (7, vl_iv v14)]) dX8_remove_119 (by decide) rfl ?_
                refine vl_lpr (F := fun κ : Int → vl_M → Option (Int × vl_M) => fn_X8_remove_L121 N v14 v48 κ N 0 m15) (J := fun κ => ∀ (v60 : Int) (m61 : vl_M), vl_ok P (κ v60 m61) → vl_V nc S sc kX8_remove d Post 184 [(0, .ref 23), (7, vl_iv v14), (8, vl_iv v48)] [] μ m61) ?_ hE (fun κ hκ12159 hE => ?_)
                · intro v60 m61 hE
                  refine vl_aload_n 0 rfl dX8_remove_184 ?_
                  refine vl_iload 2 rfl dX8_remove_185 ?_
                  refine vl_iload 1 rfl dX8_remove_187 ?_
                  refine vl_VrWV (K' := kX8_takeFrom) (d' := 2) (h := 23) (As := [vl_iv v48, vl_iv v14]) (st := []) lk_X8_194 (fun _ => rfl) (by omega) n23 s23 rfl rfl (Nat.le_of_ble_eq_true rfl) rfl (Nat.le_of_ble_eq_true rfl) dX8_remove_189 hE (fun _ h => vx_X8_takeFrom hG (Nat.le_refl _) h) (fun m63 hE => ?_)
                  refine vl_aload_n 0 rfl dX8_remove_192 ?_
                  refine vl_getR (h := 23) (k0 := 6) (h2 := 26) iu_X8 n23 s23 rfl (by decide) fk_X8_20 rfl dX8_remove_193 ?_
                  refine vl_iload 1 rfl dX8_remove_196 ?_
                  refine vl_bipush (by decide) dX8_remove_198 ?_
                  refine vl_astr1 (h := 26) (n := 500) (ni := 500) n26 (by decide) s26 (by decide) rfl g46 dX8_remove_200 hE (fun m64 hE => ?_)
                  refine vl_aload_n 0 rfl dX8_remove_201 ?_
                  refine vl_dup rfl dX8_remove_202 ?_
                  refine vl_getIr (h := 23) (k0 := 13) (ki := 13) iu_X8 n23 (by decide) s23 rfl (by decide) fk_X8_200 rfl rfl dX8_remove_203 ?_
                  refine vl_iconst dX8_remove_206 ?_
                  refine vl_iadd dX8_remove_207 ?_
                  refine vl_putIr (h := 23) (k0 := 13) (ki := 13) iu_X8 tyX8_ok nmX8 n23 (by decide) s23 rfl (by decide) fk_X8_200 rfl rfl rfl (vl_nI _) dX8_remove_208 hE (fun m65 hE => ?_)
                  refine vl_goto (tgt := 220) dX8_remove_211 (by decide) ?_
                  exact vl_wk [0, 2] rfl (hκ51 m65 hE)
                have hL121_ : ∀ (n : Nat) (v58 : Int) (m59 : vl_M), vl_ok P (fn_X8_remove_L121 N v14 v48 κ n v58 m59) → vl_V nc S sc kX8_remove d Post 121 [(0, .ref 23), (7, vl_iv v14), (8, vl_iv v48), (9, vl_iv v58)] [] μ m59 := by
                  intro n
                  induction n with
                  | zero => intro v58 m59 hE; exact vl_no hE
                  | succ n ih121_ =>
                    intro v58 m59 hE
                    rw [fn_X8_remove_L121] at hE
                    refine vl_iload 3 rfl dX8_remove_121 ?_
                    refine vl_aload_n 0 rfl dX8_remove_123 ?_
                    refine vl_getR (h := 23) (k0 := 7) (h2 := 27) iu_X8 n23 s23 rfl (by decide) fk_X8_23 rfl dX8_remove_124 ?_
                    refine vl_iload 1 rfl dX8_remove_127 ?_
                    refine vl_aldr1 (h := 27) (n := 500) (ni := 500) n27 (by decide) s27 (by decide) rfl g46 dX8_remove_129 ?_
                    obtain ⟨g66, hE⟩ := vl_ok_gd hE
                    obtain ⟨g67, hE⟩ := vl_ok_gd hE
                    refine vl_icmp_ge (tgt := 184) dX8_remove_130 (by decide) g66 g67 hE (fun c77 hE => ?_) (fun c77 hE => ?_)
                    · exact vl_wk [0, 1, 2] rfl (hκ12159 v58 m59 hE)
                    · refine vl_aload_n 0 rfl dX8_remove_133 ?_
                      refine vl_getR (h := 23) (k0 := 15) (h2 := 31) iu_X8 n23 s23 rfl (by decide) fk_X8_35 rfl dX8_remove_134 ?_
                      refine vl_aload_n 0 rfl dX8_remove_137 ?_
                      refine vl_getIr (h := 23) (k0 := 17) (ki := 17) iu_X8 n23 (by decide) s23 rfl (by decide) fk_X8_197 rfl rfl dX8_remove_138 ?_
                      refine vl_aload_n 0 rfl dX8_remove_141 ?_
                      refine vl_iload 1 rfl dX8_remove_142 ?_
                      refine vl_iload 3 rfl dX8_remove_144 ?_
                      refine vl_VpI (K' := kX8_heldBy) (d' := 0) (h := 23) (As := [vl_iv v14, vl_iv v58]) (st := [vl_iv (m59 23 17), .ref 31]) lk_X8_115 (fun _ => rfl) (by omega) n23 s23 rfl rfl (Nat.le_of_ble_eq_true rfl) rfl (Nat.le_of_ble_eq_true rfl) dX8_remove_146 hE (fun _ h => vx_X8_heldBy hG (Nat.le_refl _) h) (fun b68 hE => ?_)
                      refine vl_astr (h := 31) (n := 64) (ni := 64) n31 (by decide) s31 (by decide) rfl dX8_remove_149 hE (fun g70 g71 m69 hE => ?_)
                      refine vl_aload_n 0 rfl dX8_remove_150 ?_
                      refine vl_getR (h := 23) (k0 := 16) (h2 := 32) iu_X8 n23 s23 rfl (by decide) fk_X8_38 rfl dX8_remove_151 ?_
                      refine vl_aload_n 0 rfl dX8_remove_154 ?_
                      refine vl_getIr (h := 23) (k0 := 17) (ki := 17) iu_X8 n23 (by decide) s23 rfl (by decide) fk_X8_197 rfl rfl dX8_remove_155 ?_
                      refine vl_aload_n 0 rfl dX8_remove_158 ?_
                      refine vl_getR (h := 23) (k0 := 6) (h2 := 26) iu_X8 n23 s23 rfl (by decide) fk_X8_20 rfl dX8_remove_159 ?_
                      refine vl_iload 1 rfl dX8_remove_162 ?_
                      refine vl_aldr1 (h := 26) (n := 500) (ni := 500) n26 (by decide) s26 (by decide) rfl g46 dX8_remove_164 ?_
                      refine vl_iconst dX8_remove_165 ?_
                      refine vl_isub dX8_remove_166 ?_
                      refine vl_astr (h := 32) (n := 64) (ni := 64) n32 (by decide) s32 (by decide) rfl dX8_remove_167 hE (fun g73 g74 m72 hE => ?_)
                      refine vl_aload_n 0 rfl dX8_remove_168 ?_
                      refine vl_dup rfl dX8_remove_169 ?_
                      refine vl_getIr (h := 23) (k0 := 17) (ki := 17) iu_X8 n23 (by decide) s23 rfl (by decide) fk_X8_197 rfl rfl dX8_remove_170 ?_
                      refine vl_iconst dX8_remove_173 ?_
                      refine vl_iadd dX8_remove_174 ?_
                      refine vl_putIr (h := 23) (k0 := 17) (ki := 17) iu_X8 tyX8_ok nmX8 n23 (by decide) s23 rfl (by decide) fk_X8_197 rfl rfl rfl (vl_nI _) dX8_remove_175 hE (fun m75 hE => ?_)
                      refine vl_iinc 3 (fun v76 => [(9, vl_iv v76), (0, .ref 23), (7, vl_iv v14), (8, vl_iv v48)]) dX8_remove_178 rfl (by decide) (fun _ => rfl) hE (fun v76 hE => ?_)
                      refine vl_goto (tgt := 121) dX8_remove_181 (by decide) ?_
                      exact vl_wk [1, 2, 3, 0] rfl (ih121_ v76 m75 hE)
                exact vl_wk [2, 3, 1, 0] rfl (hL121_ N 0 m15 hE)
      exact vl_wk [2, 0] rfl (hL81_ N b6 m13 hE)
    · refine vl_bipush (by decide) dX8_remove_33 ?_
      exact vl_ret (r := (-2)) rfl dX8_remove_35 hE (hP' ((-2), m))
  · refine vl_iconst dX8_remove_13 ?_
    exact vl_ret (r := (-1)) rfl dX8_remove_14 hE (hP' ((-1), m))
set_option maxRecDepth 100000 in
set_option maxHeartbeats 4000000 in
theorem vx_X8_walk {nc : Nat} {S : vl_Sh} {sc : Nat × (Nat → Int32)} (hG : vl_G3 nc S) {N : Nat} : ∀ (rr : Nat) {d : Nat} (hd : 1 + rr ≤ d) {Post : Int → vl_M → vl_M → Prop} {μ m : vl_M} {a1 : Int} (hE : vl_ok (fun b : vl_M => Post 0 μ b) (fn_X8_walk N rr m a1)), vl_V nc S sc kX8_walk d Post 0 [(0, .ref 23), (1, vl_iv a1)] [] μ m := by
  intro rr
  induction rr with
  | zero => intro d hd Post μ m a1 hE; exact vl_no hE
  | succ rr ih =>
    intro d hd Post μ m a1 hE
    generalize hP : (fun b : vl_M => Post 0 μ b) = P at hE
    have hP' : ∀ b : vl_M, P b → Post 0 μ b := fun b h => by rw [← hP] at h; exact h
    clear hP
    have s23 : S 23 = .inr (8, [0, 0, 0, 27, 28, 0, 29, 30, 31, 32, 33, 0, 0, 0, 0, 34, 35, 0, 36, 0, 0, 37, 38, 39, 0, 0, 0, 0, 0, 1, 40, 41, 42, 43, 44, 45, 46, 0, 47, 48, 49]) := hG.2 23 (by decide) (by decide)
    have n23 : 23 < nc := Nat.lt_of_lt_of_le (by decide) hG.1
    have s26 : S 26 = .inl 500 := hG.2 26 (by decide) (by decide)
    have n26 : 26 < nc := Nat.lt_of_lt_of_le (by decide) hG.1
    have s27 : S 27 = .inl 500 := hG.2 27 (by decide) (by decide)
    have n27 : 27 < nc := Nat.lt_of_lt_of_le (by decide) hG.1
    have s33 : S 33 = .inl 500 := hG.2 33 (by decide) (by decide)
    have n33 : 33 < nc := Nat.lt_of_lt_of_le (by decide) hG.1
    rw [fn_X8_walk] at hE
    refine vl_aload_n 0 rfl dX8_walk_0 ?_
    refine vl_getR (h := 23) (k0 := 18) (h2 := 33) iu_X8 n23 s23 rfl (by decide) fk_X8_41 rfl dX8_walk_1 ?_
    refine vl_aload_n 0 rfl dX8_walk_4 ?_
    refine vl_getIr (h := 23) (k0 := 19) (ki := 19) iu_X8 n23 (by decide) s23 rfl (by decide) fk_X8_222 rfl rfl dX8_walk_5 ?_
    refine vl_iload_n 1 rfl dX8_walk_8 ?_
    refine vl_astr (h := 33) (n := 500) (ni := 500) n33 (by decide) s33 (by decide) rfl dX8_walk_9 hE (fun g2 g3 m1 hE => ?_)
    refine vl_aload_n 0 rfl dX8_walk_10 ?_
    refine vl_dup rfl dX8_walk_11 ?_
    refine vl_getIr (h := 23) (k0 := 19) (ki := 19) iu_X8 n23 (by decide) s23 rfl (by decide) fk_X8_222 rfl rfl dX8_walk_12 ?_
    refine vl_iconst dX8_walk_15 ?_
    refine vl_iadd dX8_walk_16 ?_
    refine vl_putIr (h := 23) (k0 := 19) (ki := 19) iu_X8 tyX8_ok nmX8 n23 (by decide) s23 rfl (by decide) fk_X8_222 rfl rfl rfl (vl_nI _) dX8_walk_17 hE (fun m4 hE => ?_)
    refine vl_iconst dX8_walk_20 ?_
    refine vl_istore_n0 rfl (lv' := [(2, vl_iv 0), (0, .ref 23), (1, vl_iv a1)]) dX8_walk_21 (by decide) rfl ?_
    refine vl_lpr (F := fun κ : Int → vl_M → Option (vl_M) => fn_X8_walk_L22 N (fn_X8_walk N rr) a1 κ N 0 m4) (J := fun κ => ∀ (v7 : Int) (m8 : vl_M), vl_ok P (κ v7 m8) → vl_V nc S sc kX8_walk d Post 57 [] [] μ m8) ?_ hE (fun κ hκL226 hE => ?_)
    · intro v7 m8 hE
      exact vl_ret (r := 0) rfl dX8_walk_57 hE (hP' m8)
    have hL22_ : ∀ (n : Nat) (v5 : Int) (m6 : vl_M), vl_ok P (fn_X8_walk_L22 N (fn_X8_walk N rr) a1 κ n v5 m6) → vl_V nc S sc kX8_walk d Post 22 [(0, .ref 23), (1, vl_iv a1), (2, vl_iv v5)] [] μ m6 := by
      intro n
      induction n with
      | zero => intro v5 m6 hE; exact vl_no hE
      | succ n ih22_ =>
        intro v5 m6 hE
        rw [fn_X8_walk_L22] at hE
        refine vl_aload_n 0 rfl dX8_walk_22 ?_
        refine vl_getR (h := 23) (k0 := 6) (h2 := 26) iu_X8 n23 s23 rfl (by decide) fk_X8_20 rfl dX8_walk_23 ?_
        refine vl_iload_n 1 rfl dX8_walk_26 ?_
        refine vl_aldr (h := 26) (n := 500) (ni := 500) n26 (by decide) s26 (by decide) rfl dX8_walk_27 hE (fun g9 g10 hE => ?_)
        obtain ⟨g11, hE⟩ := vl_ok_gd hE
        refine vl_if_le (tgt := 57) dX8_walk_28 (by decide) g11  hE (fun c19 hE => ?_) (fun c19 hE => ?_)
        · exact vl_wk [] rfl (hκL226 v5 m6 hE)
        · refine vl_iload_n 2 rfl dX8_walk_31 ?_
          refine vl_aload_n 0 rfl dX8_walk_32 ?_
          refine vl_getR (h := 23) (k0 := 7) (h2 := 27) iu_X8 n23 s23 rfl (by decide) fk_X8_23 rfl dX8_walk_33 ?_
          refine vl_iload_n 1 rfl dX8_walk_36 ?_
          refine vl_aldr1 (h := 27) (n := 500) (ni := 500) n27 (by decide) s27 (by decide) rfl g9 dX8_walk_37 ?_
          obtain ⟨g12, hE⟩ := vl_ok_gd hE
          obtain ⟨g13, hE⟩ := vl_ok_gd hE
          refine vl_icmp_ge (tgt := 57) dX8_walk_38 (by decide) g12 g13 hE (fun c18 hE => ?_) (fun c18 hE => ?_)
          · exact vl_wk [] rfl (hκL226 v5 m6 hE)
          · refine vl_aload_n 0 rfl dX8_walk_41 ?_
            refine vl_aload_n 0 rfl dX8_walk_42 ?_
            refine vl_iload_n 1 rfl dX8_walk_43 ?_
            refine vl_iload_n 2 rfl dX8_walk_44 ?_
            refine vl_VpI (K' := kX8_heldBy) (d' := 0) (h := 23) (As := [vl_iv a1, vl_iv v5]) (st := [.ref 23]) lk_X8_115 (fun _ => rfl) (by omega) n23 s23 rfl rfl (Nat.le_of_ble_eq_true rfl) rfl (Nat.le_of_ble_eq_true rfl) dX8_walk_45 hE (fun _ h => vx_X8_heldBy hG (Nat.le_refl _) h) (fun b14 hE => ?_)
            refine vl_VrWV (K' := kX8_walk) (d' := (1 + rr)) (h := 23) (As := [vl_iv b14]) (st := []) lk_X8_225 (fun _ => rfl) (by omega) n23 s23 rfl rfl (Nat.le_of_ble_eq_true rfl) rfl (Nat.le_of_ble_eq_true rfl) dX8_walk_48 hE (fun _ h => ih (Nat.le_refl _) h) (fun m16 hE => ?_)
            refine vl_iinc 2 (fun v17 => [(2, vl_iv v17), (0, .ref 23), (1, vl_iv a1)]) dX8_walk_51 rfl (by decide) (fun _ => rfl) hE (fun v17 hE => ?_)
            refine vl_goto (tgt := 22) dX8_walk_54 (by decide) ?_
            exact vl_wk [1, 2, 0] rfl (ih22_ v17 m16 hE)
    exact vl_wk [1, 2, 0] rfl (hL22_ N 0 m4 hE)
set_option maxRecDepth 100000 in
set_option maxHeartbeats 4000000 in
theorem vx_X8_findOrder {nc : Nat} {S : vl_Sh} {sc : Nat × (Nat → Int32)} (hG : vl_G3 nc S) {N : Nat} {d : Nat} (hd : 62 ≤ d) {Post : Int → vl_M → vl_M → Prop} {μ m : vl_M} (hE : vl_ok (fun b : vl_M => Post 0 μ b) (fn_X8_findOrder N m )) : vl_V nc S sc kX8_findOrder d Post 0 [(0, .ref 23)] [] μ m := by
  generalize hP : (fun b : vl_M => Post 0 μ b) = P at hE
  have hP' : ∀ b : vl_M, P b → Post 0 μ b := fun b h => by rw [← hP] at h; exact h
  clear hP
  have s23 : S 23 = .inr (8, [0, 0, 0, 27, 28, 0, 29, 30, 31, 32, 33, 0, 0, 0, 0, 34, 35, 0, 36, 0, 0, 37, 38, 39, 0, 0, 0, 0, 0, 1, 40, 41, 42, 43, 44, 45, 46, 0, 47, 48, 49]) := hG.2 23 (by decide) (by decide)
  have n23 : 23 < nc := Nat.lt_of_lt_of_le (by decide) hG.1
  have s33 : S 33 = .inl 500 := hG.2 33 (by decide) (by decide)
  have n33 : 33 < nc := Nat.lt_of_lt_of_le (by decide) hG.1
  have s44 : S 44 = .inl 500 := hG.2 44 (by decide) (by decide)
  have n44 : 44 < nc := Nat.lt_of_lt_of_le (by decide) hG.1
  unfold fn_X8_findOrder at hE
  refine vl_aload_n 0 rfl dX8_findOrder_0 ?_
  refine vl_iconst dX8_findOrder_1 ?_
  refine vl_putIr (h := 23) (k0 := 19) (ki := 19) iu_X8 tyX8_ok nmX8 n23 (by decide) s23 rfl (by decide) fk_X8_222 rfl rfl rfl (vl_nI _) dX8_findOrder_2 hE (fun m1 hE => ?_)
  refine vl_aload_n 0 rfl dX8_findOrder_5 ?_
  refine vl_aload_n 0 rfl dX8_findOrder_6 ?_
  refine vl_getIr (h := 23) (k0 := 11) (ki := 11) iu_X8 n23 (by decide) s23 rfl (by decide) fk_X8_93 rfl rfl dX8_findOrder_7 ?_
  refine vl_VrWV (K' := kX8_walk) (d' := (1 + 60)) (h := 23) (As := [vl_iv (m1 23 11)]) (st := []) lk_X8_225 (fun _ => rfl) (by omega) n23 s23 rfl rfl (Nat.le_of_ble_eq_true rfl) rfl (Nat.le_of_ble_eq_true rfl) dX8_findOrder_10 hE (fun _ h => vx_X8_walk hG 60 (Nat.le_refl _) h) (fun m3 hE => ?_)
  refine vl_iconst dX8_findOrder_13 ?_
  refine vl_istore_n0 rfl (lv' := [(1, vl_iv 0), (0, .ref 23)]) dX8_findOrder_14 (by decide) rfl ?_
  refine vl_lpr (F := fun κ : Int → vl_M → Option (vl_M) => fn_X8_findOrder_L15 N  κ N 0 m3) (J := fun κ => ∀ (v6 : Int) (m7 : vl_M), vl_ok P (κ v6 m7) → vl_V nc S sc kX8_findOrder d Post 41 [] [] μ m7) ?_ hE (fun κ hκL155 hE => ?_)
  · intro v6 m7 hE
    exact vl_ret (r := 0) rfl dX8_findOrder_41 hE (hP' m7)
  have hL15_ : ∀ (n : Nat) (v4 : Int) (m5 : vl_M), vl_ok P (fn_X8_findOrder_L15 N  κ n v4 m5) → vl_V nc S sc kX8_findOrder d Post 15 [(0, .ref 23), (1, vl_iv v4)] [] μ m5 := by
    intro n
    induction n with
    | zero => intro v4 m5 hE; exact vl_no hE
    | succ n ih15_ =>
      intro v4 m5 hE
      rw [fn_X8_findOrder_L15] at hE
      refine vl_iload_n 1 rfl dX8_findOrder_15 ?_
      refine vl_aload_n 0 rfl dX8_findOrder_16 ?_
      refine vl_getIr (h := 23) (k0 := 19) (ki := 19) iu_X8 n23 (by decide) s23 rfl (by decide) fk_X8_222 rfl rfl dX8_findOrder_17 ?_
      obtain ⟨g8, hE⟩ := vl_ok_gd hE
      obtain ⟨g9, hE⟩ := vl_ok_gd hE
      refine vl_icmp_ge (tgt := 41) dX8_findOrder_20 (by decide) g8 g9 hE (fun c16 hE => ?_) (fun c16 hE => ?_)
      · exact vl_wk [] rfl (hκL155 v4 m5 hE)
      · refine vl_aload_n 0 rfl dX8_findOrder_23 ?_
        refine vl_getR (h := 23) (k0 := 38) (h2 := 44) iu_X8 n23 s23 rfl (by decide) fk_X8_74 rfl dX8_findOrder_24 ?_
        refine vl_aload_n 0 rfl dX8_findOrder_27 ?_
        refine vl_getR (h := 23) (k0 := 18) (h2 := 33) iu_X8 n23 s23 rfl (by decide) fk_X8_41 rfl dX8_findOrder_28 ?_
        refine vl_iload_n 1 rfl dX8_findOrder_31 ?_
        refine vl_aldr (h := 33) (n := 500) (ni := 500) n33 (by decide) s33 (by decide) rfl dX8_findOrder_32 hE (fun g10 g11 hE => ?_)
        refine vl_iload_n 1 rfl dX8_findOrder_33 ?_
        refine vl_astr (h := 44) (n := 500) (ni := 500) n44 (by decide) s44 (by decide) rfl dX8_findOrder_34 hE (fun g13 g14 m12 hE => ?_)
        refine vl_iinc 1 (fun v15 => [(1, vl_iv v15), (0, .ref 23)]) dX8_findOrder_35 rfl (by decide) (fun _ => rfl) hE (fun v15 hE => ?_)
        refine vl_goto (tgt := 15) dX8_findOrder_38 (by decide) ?_
        exact vl_wk [1, 0] rfl (ih15_ v15 m12 hE)
  exact vl_wk [1, 0] rfl (hL15_ N 0 m3 hE)
set_option maxRecDepth 100000 in
set_option maxHeartbeats 4000000 in
theorem vx_X8_pairsOf {nc : Nat} {S : vl_Sh} {sc : Nat × (Nat → Int32)} (hG : vl_G3 nc S) {N : Nat} : ∀ (rr : Nat) {d : Nat} (hd : 2 + rr ≤ d) {Post : Int → vl_M → vl_M → Prop} {μ m : vl_M} {a1 a2 : Int} (hE : vl_ok (fun r : Int => Post r μ m) (fn_X8_pairsOf N rr m a1 a2)), vl_V nc S sc kX8_pairsOf d Post 0 [(0, .ref 23), (1, vl_iv a1), (2, vl_iv a2)] [] μ m := by
  intro rr
  induction rr with
  | zero => intro d hd Post μ m a1 a2 hE; exact vl_no hE
  | succ rr ih =>
    intro d hd Post μ m a1 a2 hE
    generalize hP : (fun r : Int => Post r μ m) = P at hE
    have hP' : ∀ r : Int, P r → Post r μ m := fun b h => by rw [← hP] at h; exact h
    clear hP
    have s23 : S 23 = .inr (8, [0, 0, 0, 27, 28, 0, 29, 30, 31, 32, 33, 0, 0, 0, 0, 34, 35, 0, 36, 0, 0, 37, 38, 39, 0, 0, 0, 0, 0, 1, 40, 41, 42, 43, 44, 45, 46, 0, 47, 48, 49]) := hG.2 23 (by decide) (by decide)
    have n23 : 23 < nc := Nat.lt_of_lt_of_le (by decide) hG.1
    have s26 : S 26 = .inl 500 := hG.2 26 (by decide) (by decide)
    have n26 : 26 < nc := Nat.lt_of_lt_of_le (by decide) hG.1
    have s27 : S 27 = .inl 500 := hG.2 27 (by decide) (by decide)
    have n27 : 27 < nc := Nat.lt_of_lt_of_le (by decide) hG.1
    rw [fn_X8_pairsOf] at hE
    refine vl_iconst dX8_pairsOf_0 ?_
    refine vl_istore_n0 rfl (lv' := [(3, vl_iv 1), (0, .ref 23), (1, vl_iv a1), (2, vl_iv a2)]) dX8_pairsOf_1 (by decide) rfl ?_
    refine vl_iconst dX8_pairsOf_2 ?_
    refine vl_istore0 (lv' := [(4, vl_iv 0), (3, vl_iv 1), (0, .ref 23), (1, vl_iv a1), (2, vl_iv a2)]) dX8_pairsOf_3 (by decide) rfl ?_
    refine vl_lpr (F := fun κ : Int → Int → Option (Int) => fn_X8_pairsOf_L5 N (fn_X8_pairsOf N rr) m a1 a2 κ N 1 0) (J := fun κ => ∀ (v3 : Int) (v4 : Int), vl_ok P (κ v3 v4) → vl_V nc S sc kX8_pairsOf d Post 126 [(3, vl_iv v3)] [] μ m) ?_ hE (fun κ hκL52 hE => ?_)
    · intro v3 v4 hE
      refine vl_iload_n 0 rfl dX8_pairsOf_126 ?_
      exact vl_ret (r := v3) rfl dX8_pairsOf_127 hE (hP' (v3))
    have hL5_ : ∀ (n : Nat) (v1 : Int) (v2 : Int), vl_ok P (fn_X8_pairsOf_L5 N (fn_X8_pairsOf N rr) m a1 a2 κ n v1 v2) → vl_V nc S sc kX8_pairsOf d Post 5 [(0, .ref 23), (1, vl_iv a1), (2, vl_iv a2), (3, vl_iv v1), (4, vl_iv v2)] [] μ m := by
      intro n
      induction n with
      | zero => intro v1 v2 hE; exact vl_no hE
      | succ n ih5_ =>
        intro v1 v2 hE
        rw [fn_X8_pairsOf_L5] at hE
        refine vl_aload_n 0 rfl dX8_pairsOf_5 ?_
        refine vl_getR (h := 23) (k0 := 6) (h2 := 26) iu_X8 n23 s23 rfl (by decide) fk_X8_20 rfl dX8_pairsOf_6 ?_
        refine vl_iload_n 1 rfl dX8_pairsOf_9 ?_
        refine vl_aldr (h := 26) (n := 500) (ni := 500) n26 (by decide) s26 (by decide) rfl dX8_pairsOf_10 hE (fun g5 g6 hE => ?_)
        obtain ⟨g7, hE⟩ := vl_ok_gd hE
        refine vl_if_le (tgt := 126) dX8_pairsOf_11 (by decide) g7  hE (fun c43 hE => ?_) (fun c43 hE => ?_)
        · exact vl_wk [3] rfl (hκL52 v1 v2 hE)
        · refine vl_iload 4 rfl dX8_pairsOf_14 ?_
          refine vl_aload_n 0 rfl dX8_pairsOf_16 ?_
          refine vl_getR (h := 23) (k0 := 7) (h2 := 27) iu_X8 n23 s23 rfl (by decide) fk_X8_23 rfl dX8_pairsOf_17 ?_
          refine vl_iload_n 1 rfl dX8_pairsOf_20 ?_
          refine vl_aldr1 (h := 27) (n := 500) (ni := 500) n27 (by decide) s27 (by decide) rfl g5 dX8_pairsOf_21 ?_
          obtain ⟨g8, hE⟩ := vl_ok_gd hE
          obtain ⟨g9, hE⟩ := vl_ok_gd hE
          refine vl_icmp_ge (tgt := 126) dX8_pairsOf_22 (by decide) g8 g9 hE (fun c42 hE => ?_) (fun c42 hE => ?_)
          · exact vl_wk [3] rfl (hκL52 v1 v2 hE)
          · refine vl_iload_n 1 rfl dX8_pairsOf_25 ?_
            refine vl_iload_n 2 rfl dX8_pairsOf_26 ?_
            obtain ⟨g10, hE⟩ := vl_ok_gd hE
            refine vl_jnr (J := fun κ : Int → Option (Int) => ∀ (v11 : Int), vl_ok P (κ v11) → vl_V nc S sc kX8_pairsOf d Post 36 [(0, .ref 23), (1, vl_iv a1), (2, vl_iv a2), (3, vl_iv v1), (4, vl_iv v2)] [vl_iv v11] μ m) ?_ hE (fun κ12 hκ12 hE => ?_)
            · intro v11 hE
              refine vl_istore0 (lv' := [(5, vl_iv v11), (0, .ref 23), (1, vl_iv a1), (2, vl_iv a2), (3, vl_iv v1), (4, vl_iv v2)]) dX8_pairsOf_36 (by decide) rfl ?_
              refine vl_lpr (F := fun κ : Int → Int → Option (Int) => fn_X8_pairsOf_L38 N (fn_X8_pairsOf N rr) m a1 a2 v2 κ N v1 v11) (J := fun κ => ∀ (v15 : Int) (v16 : Int), vl_ok P (κ v15 v16) → vl_V nc S sc kX8_pairsOf d Post 120 [(0, .ref 23), (1, vl_iv a1), (2, vl_iv a2), (3, vl_iv v15), (4, vl_iv v2)] [] μ m) ?_ hE (fun κ hκL3814 hE => ?_)
              · intro v15 v16 hE
                refine vl_iinc 4 (fun v17 => [(4, vl_iv v17), (0, .ref 23), (1, vl_iv a1), (2, vl_iv a2), (3, vl_iv v15)]) dX8_pairsOf_120 rfl (by decide) (fun _ => rfl) hE (fun v17 hE => ?_)
                refine vl_goto (tgt := 5) dX8_pairsOf_123 (by decide) ?_
                exact vl_wk [1, 2, 3, 4, 0] rfl (ih5_ v15 v17 hE)
              have hL38_ : ∀ (n : Nat) (v13 : Int) (v14 : Int), vl_ok P (fn_X8_pairsOf_L38 N (fn_X8_pairsOf N rr) m a1 a2 v2 κ n v13 v14) → vl_V nc S sc kX8_pairsOf d Post 38 [(0, .ref 23), (1, vl_iv a1), (2, vl_iv a2), (3, vl_iv v13), (4, vl_iv v2), (5, vl_iv v14)] [] μ m := by
                intro n
                induction n with
                | zero => intro v13 v14 hE; exact vl_no hE
                | succ n ih38_ =>
                  intro v13 v14 hE
                  rw [fn_X8_pairsOf_L38] at hE
                  refine vl_iload 5 rfl dX8_pairsOf_38 ?_
                  refine vl_aload_n 0 rfl dX8_pairsOf_40 ?_
                  refine vl_getR (h := 23) (k0 := 7) (h2 := 27) iu_X8 n23 s23 rfl (by decide) fk_X8_23 rfl dX8_pairsOf_41 ?_
                  refine vl_iload_n 2 rfl dX8_pairsOf_44 ?_
                  refine vl_aldr (h := 27) (n := 500) (ni := 500) n27 (by decide) s27 (by decide) rfl dX8_pairsOf_45 hE (fun g18 g19 hE => ?_)
                  obtain ⟨g20, hE⟩ := vl_ok_gd hE
                  obtain ⟨g21, hE⟩ := vl_ok_gd hE
                  refine vl_icmp_ge (tgt := 120) dX8_pairsOf_46 (by decide) g20 g21 hE (fun c40 hE => ?_) (fun c40 hE => ?_)
                  · exact vl_wk [0, 1, 2, 3, 4] rfl (hκL3814 v13 v14 hE)
                  · refine vl_aload_n 0 rfl dX8_pairsOf_49 ?_
                    refine vl_iload_n 1 rfl dX8_pairsOf_50 ?_
                    refine vl_iload 4 rfl dX8_pairsOf_51 ?_
                    refine vl_VpI (K' := kX8_heldBy) (d' := 0) (h := 23) (As := [vl_iv a1, vl_iv v2]) (st := []) lk_X8_115 (fun _ => rfl) (by omega) n23 s23 rfl rfl (Nat.le_of_ble_eq_true rfl) rfl (Nat.le_of_ble_eq_true rfl) dX8_pairsOf_53 hE (fun _ h => vx_X8_heldBy hG (Nat.le_refl _) h) (fun b22 hE => ?_)
                    refine vl_istore0 (lv' := [(6, vl_iv b22), (0, .ref 23), (1, vl_iv a1), (2, vl_iv a2), (3, vl_iv v13), (4, vl_iv v2), (5, vl_iv v14)]) dX8_pairsOf_56 (by decide) rfl ?_
                    refine vl_aload_n 1 rfl dX8_pairsOf_58 ?_
                    refine vl_iload_n 3 rfl dX8_pairsOf_59 ?_
                    refine vl_iload 6 rfl dX8_pairsOf_60 ?_
                    refine vl_VpI (K' := kX8_heldBy) (d' := 0) (h := 23) (As := [vl_iv a2, vl_iv v14]) (st := []) lk_X8_115 (fun _ => rfl) (by omega) n23 s23 rfl rfl (Nat.le_of_ble_eq_true rfl) rfl (Nat.le_of_ble_eq_true rfl) dX8_pairsOf_62 hE (fun _ h => vx_X8_heldBy hG (Nat.le_refl _) h) (fun b23 hE => ?_)
                    refine vl_istore0 (lv' := [(7, vl_iv b23), (6, vl_iv b22), (0, .ref 23), (1, vl_iv a1), (2, vl_iv a2), (3, vl_iv v13), (4, vl_iv v2), (5, vl_iv v14)]) dX8_pairsOf_65 (by decide) rfl ?_
                    refine vl_iload_n 5 rfl dX8_pairsOf_67 ?_
                    refine vl_iload 1 rfl dX8_pairsOf_68 ?_
                    refine vl_iload 0 rfl dX8_pairsOf_70 ?_
                    obtain ⟨g24, hE⟩ := vl_ok_gd hE
                    obtain ⟨g25, hE⟩ := vl_ok_gd hE
                    refine vl_jnr (J := fun κ : Int → Option (Int) => ∀ (v26 : Int), vl_ok P (κ v26) → vl_V nc S sc kX8_pairsOf d Post 112 [(0, .ref 23), (1, vl_iv a1), (2, vl_iv a2), (4, vl_iv v2), (5, vl_iv v14)] [vl_iv v26, vl_iv v13] μ m) ?_ hE (fun κ27 hκ27 hE => ?_)
                    · intro v26 hE
                      refine vl_iadd dX8_pairsOf_112 ?_
                      refine vl_istore_n rfl (fun v28 => [(3, vl_iv v28), (0, .ref 23), (1, vl_iv a1), (2, vl_iv a2), (4, vl_iv v2), (5, vl_iv v14)]) dX8_pairsOf_113 (by decide) (fun _ => rfl) hE (fun v28 hE => ?_)
                      refine vl_iinc 5 (fun v29 => [(5, vl_iv v29), (3, vl_iv v28), (0, .ref 23), (1, vl_iv a1), (2, vl_iv a2), (4, vl_iv v2)]) dX8_pairsOf_114 rfl (by decide) (fun _ => rfl) hE (fun v29 hE => ?_)
                      refine vl_goto (tgt := 38) dX8_pairsOf_117 (by decide) ?_
                      exact vl_wk [2, 3, 4, 1, 5, 0] rfl (ih38_ v28 v29 hE)
                    refine vl_icmp_eq (tgt := 100) dX8_pairsOf_72 (by decide) g24 g25 hE (fun c39 hE => ?_) (fun c39 hE => ?_)
                    · refine vl_aload_n 2 rfl dX8_pairsOf_100 ?_
                      refine vl_iload 1 rfl dX8_pairsOf_101 ?_
                      refine vl_iload 0 rfl dX8_pairsOf_103 ?_
                      refine vl_VpI (K' := kX8_pairsOf) (d' := (2 + rr)) (h := 23) (As := [vl_iv b22, vl_iv b23]) (st := [vl_iv v13]) lk_X8_257 (fun _ => rfl) (by omega) n23 s23 rfl rfl (Nat.le_of_ble_eq_true rfl) rfl (Nat.le_of_ble_eq_true rfl) dX8_pairsOf_105 hE (fun _ h => ih (Nat.le_refl _) h) (fun b30 hE => ?_)
                      refine vl_goto (tgt := 112) dX8_pairsOf_108 (by decide) ?_
                      exact vl_wk [2, 3, 4, 6, 7] rfl (hκ27 b30 hE)
                    · refine vl_aload_n 2 rfl dX8_pairsOf_75 ?_
                      refine vl_aload_n 2 rfl dX8_pairsOf_76 ?_
                      refine vl_getR (h := 23) (k0 := 6) (h2 := 26) iu_X8 n23 s23 rfl (by decide) fk_X8_20 rfl dX8_pairsOf_77 ?_
                      refine vl_iload 1 rfl dX8_pairsOf_80 ?_
                      refine vl_aldr (h := 26) (n := 500) (ni := 500) n26 (by decide) s26 (by decide) rfl dX8_pairsOf_82 hE (fun g31 g32 hE => ?_)
                      refine vl_iload 1 rfl dX8_pairsOf_83 ?_
                      refine vl_aload_n 2 rfl dX8_pairsOf_85 ?_
                      refine vl_getR (h := 23) (k0 := 6) (h2 := 26) iu_X8 n23 s23 rfl (by decide) fk_X8_20 rfl dX8_pairsOf_86 ?_
                      refine vl_iload 0 rfl dX8_pairsOf_89 ?_
                      refine vl_aldr (h := 26) (n := 500) (ni := 500) n26 (by decide) s26 (by decide) rfl dX8_pairsOf_91 hE (fun g33 g34 hE => ?_)
                      refine vl_iload 0 rfl dX8_pairsOf_92 ?_
                      refine vl_VpI (K' := kX8_meet) (d' := 1) (h := 23) (As := [vl_iv (m 26 b22), vl_iv b22, vl_iv (m 26 b23), vl_iv b23]) (st := [vl_iv v13]) lk_X8_254 (fun _ => rfl) (by omega) n23 s23 rfl rfl (Nat.le_of_ble_eq_true rfl) rfl (Nat.le_of_ble_eq_true rfl) dX8_pairsOf_94 hE (fun _ h => vx_X8_meet hG (Nat.le_refl _) h) (fun b35 hE => ?_)
                      obtain ⟨g36, hE⟩ := vl_ok_gd hE
                      refine vl_if_eq (tgt := 111) dX8_pairsOf_97 (by decide) g36  hE (fun c38 hE => ?_) (fun c38 hE => ?_)
                      · refine vl_iconst dX8_pairsOf_111 ?_
                        exact vl_wk [2, 3, 4, 6, 7] rfl (hκ27 0 hE)
                      · refine vl_aload_n 2 rfl dX8_pairsOf_100 ?_
                        refine vl_iload 1 rfl dX8_pairsOf_101 ?_
                        refine vl_iload 0 rfl dX8_pairsOf_103 ?_
                        refine vl_VpI (K' := kX8_pairsOf) (d' := (2 + rr)) (h := 23) (As := [vl_iv b22, vl_iv b23]) (st := [vl_iv v13]) lk_X8_257 (fun _ => rfl) (by omega) n23 s23 rfl rfl (Nat.le_of_ble_eq_true rfl) rfl (Nat.le_of_ble_eq_true rfl) dX8_pairsOf_105 hE (fun _ h => ih (Nat.le_refl _) h) (fun b37 hE => ?_)
                        refine vl_goto (tgt := 112) dX8_pairsOf_108 (by decide) ?_
                        exact vl_wk [2, 3, 4, 6, 7] rfl (hκ27 b37 hE)
              exact vl_wk [1, 2, 3, 4, 5, 0] rfl (hL38_ N v1 v11 hE)
            refine vl_icmp_ne (tgt := 35) dX8_pairsOf_27 (by decide) g6 g10 hE (fun c41 hE => ?_) (fun c41 hE => ?_)
            · refine vl_iconst dX8_pairsOf_35 ?_
              exact (hκ12 0 hE)
            · refine vl_iload 4 rfl dX8_pairsOf_30 ?_
              refine vl_goto (tgt := 36) dX8_pairsOf_32 (by decide) ?_
              exact (hκ12 v2 hE)
    exact vl_wk [2, 3, 4, 1, 0] rfl (hL5_ N 1 0 hE)
set_option maxRecDepth 100000 in
set_option maxHeartbeats 4000000 in
theorem vx_X8_audit {nc : Nat} {S : vl_Sh} {sc : Nat × (Nat → Int32)} (hG : vl_G3 nc S) {N : Nat} {d : Nat} (hd : 63 ≤ d) {Post : Int → vl_M → vl_M → Prop} {μ m : vl_M} (hE : vl_ok (fun b : Int × vl_M => Post b.1 μ b.2) (fn_X8_audit N m )) : vl_V nc S sc kX8_audit d Post 0 [(0, .ref 23)] [] μ m := by
  generalize hP : (fun b : Int × vl_M => Post b.1 μ b.2) = P at hE
  have hP' : ∀ b : Int × vl_M, P b → Post b.1 μ b.2 := fun b h => by rw [← hP] at h; exact h
  clear hP
  have s23 : S 23 = .inr (8, [0, 0, 0, 27, 28, 0, 29, 30, 31, 32, 33, 0, 0, 0, 0, 34, 35, 0, 36, 0, 0, 37, 38, 39, 0, 0, 0, 0, 0, 1, 40, 41, 42, 43, 44, 45, 46, 0, 47, 48, 49]) := hG.2 23 (by decide) (by decide)
  have n23 : 23 < nc := Nat.lt_of_lt_of_le (by decide) hG.1
  have s26 : S 26 = .inl 500 := hG.2 26 (by decide) (by decide)
  have n26 : 26 < nc := Nat.lt_of_lt_of_le (by decide) hG.1
  have s27 : S 27 = .inl 500 := hG.2 27 (by decide) (by decide)
  have n27 : 27 < nc := Nat.lt_of_lt_of_le (by decide) hG.1
  have s30 : S 30 = .inl 500 := hG.2 30 (by decide) (by decide)
  have n30 : 30 < nc := Nat.lt_of_lt_of_le (by decide) hG.1
  have s33 : S 33 = .inl 500 := hG.2 33 (by decide) (by decide)
  have n33 : 33 < nc := Nat.lt_of_lt_of_le (by decide) hG.1
  unfold fn_X8_audit at hE
  refine vl_aload_n 0 rfl dX8_audit_0 ?_
  refine vl_VrWV (K' := kX8_findOrder) (d' := 62) (h := 23) (As := []) (st := []) lk_X8_235 (fun _ => rfl) (by omega) n23 s23 rfl rfl (Nat.le_of_ble_eq_true rfl) rfl (Nat.le_of_ble_eq_true rfl) dX8_audit_1 hE (fun _ h => vx_X8_findOrder hG (Nat.le_refl _) h) (fun m2 hE => ?_)
  refine vl_iconst dX8_audit_4 ?_
  refine vl_istore_n0 rfl (lv' := [(1, vl_iv 0), (0, .ref 23)]) dX8_audit_5 (by decide) rfl ?_
  refine vl_iconst dX8_audit_6 ?_
  refine vl_istore_n0 rfl (lv' := [(2, vl_iv 0), (1, vl_iv 0), (0, .ref 23)]) dX8_audit_7 (by decide) rfl ?_
  refine vl_lpr (F := fun κ : Int → Int → Option (Int × vl_M) => fn_X8_audit_L8 N m2 κ N 0 0) (J := fun κ => ∀ (v5 : Int) (v6 : Int), vl_ok P (κ v5 v6) → vl_V nc S sc kX8_audit d Post 226 [(0, .ref 23), (1, vl_iv v5)] [] μ m2) ?_ hE (fun κ hκL84 hE => ?_)
  · intro v5 v6 hE
    refine vl_iload_n 1 rfl dX8_audit_226 ?_
    refine vl_aload_n 0 rfl dX8_audit_227 ?_
    refine vl_getIr (h := 23) (k0 := 5) (ki := 5) iu_X8 n23 (by decide) s23 rfl (by decide) fk_X8_181 rfl rfl dX8_audit_228 ?_
    obtain ⟨g7, hE⟩ := vl_ok_gd hE
    obtain ⟨g8, hE⟩ := vl_ok_gd hE
    refine vl_icmp_ne (tgt := 238) dX8_audit_231 (by decide) g7 g8 hE (fun c9 hE => ?_) (fun c9 hE => ?_)
    · refine vl_iconst dX8_audit_238 ?_
      exact vl_ret (r := 0) rfl ⟨dX8_audit_239, by decide⟩ hE (hP' (0, m2))
    · refine vl_iconst dX8_audit_234 ?_
      refine vl_goto (tgt := 239) dX8_audit_235 (by decide) ?_
      exact vl_ret (r := 1) rfl ⟨dX8_audit_239, by decide⟩ hE (hP' (1, m2))
  have hL8_ : ∀ (n : Nat) (v3 : Int) (v4 : Int), vl_ok P (fn_X8_audit_L8 N m2 κ n v3 v4) → vl_V nc S sc kX8_audit d Post 8 [(0, .ref 23), (1, vl_iv v3), (2, vl_iv v4)] [] μ m2 := by
    intro n
    induction n with
    | zero => intro v3 v4 hE; exact vl_no hE
    | succ n ih8_ =>
      intro v3 v4 hE
      rw [fn_X8_audit_L8] at hE
      refine vl_iload_n 2 rfl dX8_audit_8 ?_
      refine vl_aload_n 0 rfl dX8_audit_9 ?_
      refine vl_getIr (h := 23) (k0 := 19) (ki := 19) iu_X8 n23 (by decide) s23 rfl (by decide) fk_X8_222 rfl rfl dX8_audit_10 ?_
      obtain ⟨g10, hE⟩ := vl_ok_gd hE
      obtain ⟨g11, hE⟩ := vl_ok_gd hE
      refine vl_icmp_ge (tgt := 226) dX8_audit_13 (by decide) g10 g11 hE (fun c57 hE => ?_) (fun c57 hE => ?_)
      · exact vl_wk [0, 1] rfl (hκL84 v3 v4 hE)
      · refine vl_aload_n 0 rfl dX8_audit_16 ?_
        refine vl_getR (h := 23) (k0 := 18) (h2 := 33) iu_X8 n23 s23 rfl (by decide) fk_X8_41 rfl dX8_audit_17 ?_
        refine vl_iload_n 2 rfl dX8_audit_20 ?_
        refine vl_aldr (h := 33) (n := 500) (ni := 500) n33 (by decide) s33 (by decide) rfl dX8_audit_21 hE (fun g12 g13 hE => ?_)
        refine vl_istore_n rfl (fun v14 => [(3, vl_iv v14), (0, .ref 23), (1, vl_iv v3), (2, vl_iv v4)]) dX8_audit_22 (by decide) (fun _ => rfl) hE (fun v14 hE => ?_)
        refine vl_aload_n 1 rfl dX8_audit_23 ?_
        refine vl_getR (h := 23) (k0 := 7) (h2 := 27) iu_X8 n23 s23 rfl (by decide) fk_X8_23 rfl dX8_audit_24 ?_
        refine vl_iload_n 0 rfl dX8_audit_27 ?_
        refine vl_aldr (h := 27) (n := 500) (ni := 500) n27 (by decide) s27 (by decide) rfl dX8_audit_28 hE (fun g15 g16 hE => ?_)
        refine vl_aload_n 1 rfl dX8_audit_29 ?_
        refine vl_getIr (h := 23) (k0 := 1) (ki := 1) iu_X8 n23 (by decide) s23 rfl (by decide) fk_X8_83 rfl rfl dX8_audit_30 ?_
        obtain ⟨g17, hE⟩ := vl_ok_gd hE
        obtain ⟨g18, hE⟩ := vl_ok_gd hE
        refine vl_jnr (J := fun κ : Int → Option (Int × vl_M) => ∀ (v19 : Int), vl_ok P (κ v19) → vl_V nc S sc kX8_audit d Post 84 [(0, .ref 23), (1, vl_iv v3), (2, vl_iv v4), (3, vl_iv v14)] [vl_iv v19] μ m2) ?_ hE (fun κ20 hκ20 hE => ?_)
        · intro v19 hE
          refine vl_istore0 (lv' := [(4, vl_iv v19), (0, .ref 23), (1, vl_iv v3), (2, vl_iv v4), (3, vl_iv v14)]) dX8_audit_84 (by decide) rfl ?_
          refine vl_iload 0 rfl dX8_audit_86 ?_
          obtain ⟨g21, hE⟩ := vl_ok_gd hE
          refine vl_if_ne (tgt := 93) dX8_audit_88 (by decide) g21  hE (fun c48 hE => ?_) (fun c48 hE => ?_)
          · refine vl_iload_n 2 rfl dX8_audit_93 ?_
            refine vl_aload_n 1 rfl dX8_audit_94 ?_
            refine vl_getR (h := 23) (k0 := 6) (h2 := 26) iu_X8 n23 s23 rfl (by decide) fk_X8_20 rfl dX8_audit_95 ?_
            refine vl_iload_n 4 rfl dX8_audit_98 ?_
            refine vl_aldr1 (h := 26) (n := 500) (ni := 500) n26 (by decide) s26 (by decide) rfl g15 dX8_audit_99 ?_
            obtain ⟨g22, hE⟩ := vl_ok_gd hE
            refine vl_jnr (J := fun κ : Int → Option (Int × vl_M) => ∀ (v23 : Int), vl_ok P (κ v23) → vl_V nc S sc kX8_audit d Post 113 [(0, .ref 23), (2, vl_iv v4), (3, vl_iv v14)] [vl_iv v23, vl_iv v3] μ m2) ?_ hE (fun κ24 hκ24 hE => ?_)
            · intro v23 hE
              refine vl_iadd dX8_audit_113 ?_
              refine vl_istore_n rfl (fun v25 => [(1, vl_iv v25), (0, .ref 23), (2, vl_iv v4), (3, vl_iv v14)]) dX8_audit_114 (by decide) (fun _ => rfl) hE (fun v25 hE => ?_)
              refine vl_iconst dX8_audit_115 ?_
              refine vl_istore0 (lv' := [(5, vl_iv 0), (1, vl_iv v25), (0, .ref 23), (2, vl_iv v4), (3, vl_iv v14)]) dX8_audit_116 (by decide) rfl ?_
              refine vl_lpr (F := fun κ : Int → Option (Int × vl_M) => fn_X8_audit_L118 N m2 v25 v4 v14 κ N 0) (J := fun κ => ∀ (v27 : Int), vl_ok P (κ v27) → vl_V nc S sc kX8_audit d Post 220 [(0, .ref 23), (1, vl_iv v25), (2, vl_iv v4)] [] μ m2) ?_ hE (fun κ hκ11826 hE => ?_)
              · intro v27 hE
                refine vl_iinc 2 (fun v28 => [(2, vl_iv v28), (0, .ref 23), (1, vl_iv v25)]) dX8_audit_220 rfl (by decide) (fun _ => rfl) hE (fun v28 hE => ?_)
                refine vl_goto (tgt := 8) dX8_audit_223 (by decide) ?_
                exact vl_wk [1, 2, 0] rfl (ih8_ v25 v28 hE)
              have hL118_ : ∀ (n : Nat) (v26 : Int), vl_ok P (fn_X8_audit_L118 N m2 v25 v4 v14 κ n v26) → vl_V nc S sc kX8_audit d Post 118 [(0, .ref 23), (1, vl_iv v25), (2, vl_iv v4), (3, vl_iv v14), (5, vl_iv v26)] [] μ m2 := by
                intro n
                induction n with
                | zero => intro v26 hE; exact vl_no hE
                | succ n ih118_ =>
                  intro v26 hE
                  rw [fn_X8_audit_L118] at hE
                  refine vl_iload 4 rfl dX8_audit_118 ?_
                  refine vl_aload_n 0 rfl dX8_audit_120 ?_
                  refine vl_getR (h := 23) (k0 := 7) (h2 := 27) iu_X8 n23 s23 rfl (by decide) fk_X8_23 rfl dX8_audit_121 ?_
                  refine vl_iload_n 3 rfl dX8_audit_124 ?_
                  refine vl_aldr1 (h := 27) (n := 500) (ni := 500) n27 (by decide) s27 (by decide) rfl g15 dX8_audit_125 ?_
                  obtain ⟨g29, hE⟩ := vl_ok_gd hE
                  refine vl_icmp_ge (tgt := 220) dX8_audit_126 (by decide) g29 g17 hE (fun c46 hE => ?_) (fun c46 hE => ?_)
                  · exact vl_wk [0, 1, 2] rfl (hκ11826 v26 hE)
                  · refine vl_aload_n 0 rfl dX8_audit_129 ?_
                    refine vl_iload_n 3 rfl dX8_audit_130 ?_
                    refine vl_iload 4 rfl dX8_audit_131 ?_
                    refine vl_VpI (K' := kX8_heldBy) (d' := 0) (h := 23) (As := [vl_iv v14, vl_iv v26]) (st := []) lk_X8_115 (fun _ => rfl) (by omega) n23 s23 rfl rfl (Nat.le_of_ble_eq_true rfl) rfl (Nat.le_of_ble_eq_true rfl) dX8_audit_133 hE (fun _ h => vx_X8_heldBy hG (Nat.le_refl _) h) (fun b30 hE => ?_)
                    refine vl_istore0 (lv' := [(6, vl_iv b30), (0, .ref 23), (1, vl_iv v25), (2, vl_iv v4), (3, vl_iv v14), (5, vl_iv v26)]) dX8_audit_136 (by decide) rfl ?_
                    refine vl_aload_n 1 rfl dX8_audit_138 ?_
                    refine vl_getR (h := 23) (k0 := 6) (h2 := 26) iu_X8 n23 s23 rfl (by decide) fk_X8_20 rfl dX8_audit_139 ?_
                    refine vl_iload_n 4 rfl dX8_audit_142 ?_
                    refine vl_aldr1 (h := 26) (n := 500) (ni := 500) n26 (by decide) s26 (by decide) rfl g15 dX8_audit_143 ?_
                    refine vl_jnr (J := fun κ : Unit → Option (Int × vl_M) => ∀ (u_κ31 : Unit), vl_ok P (κ u_κ31) → vl_V nc S sc kX8_audit d Post 176 [(0, .ref 23), (1, vl_iv v25), (2, vl_iv v4), (3, vl_iv v14), (5, vl_iv v26), (6, vl_iv b30)] [] μ m2) ?_ hE (fun κ31 hκ31 hE => ?_)
                    · intro u_κ31 hE
                      refine vl_aload_n 0 rfl dX8_audit_176 ?_
                      refine vl_aload_n 0 rfl dX8_audit_177 ?_
                      refine vl_getR (h := 23) (k0 := 6) (h2 := 26) iu_X8 n23 s23 rfl (by decide) fk_X8_20 rfl dX8_audit_178 ?_
                      refine vl_iload_n 3 rfl dX8_audit_181 ?_
                      refine vl_aldr1 (h := 26) (n := 500) (ni := 500) n26 (by decide) s26 (by decide) rfl g15 dX8_audit_182 ?_
                      refine vl_iload_n 3 rfl dX8_audit_183 ?_
                      refine vl_aload_n 0 rfl dX8_audit_184 ?_
                      refine vl_getR (h := 23) (k0 := 6) (h2 := 26) iu_X8 n23 s23 rfl (by decide) fk_X8_20 rfl dX8_audit_185 ?_
                      refine vl_iload_n 3 rfl dX8_audit_188 ?_
                      refine vl_aldr1 (h := 26) (n := 500) (ni := 500) n26 (by decide) s26 (by decide) rfl g15 dX8_audit_189 ?_
                      refine vl_iconst dX8_audit_190 ?_
                      refine vl_isub dX8_audit_191 ?_
                      refine vl_iload 5 rfl dX8_audit_192 ?_
                      refine vl_VpJ (K' := kX8_areaBoth) (d' := 1) (h := 23) (As := [vl_iv (m2 26 v14), vl_iv v14, vl_iv ((m2 26 v14) - 1), vl_iv b30]) (st := []) lk_X8_129 (fun _ => rfl) (by omega) n23 s23 rfl rfl (Nat.le_of_ble_eq_true rfl) rfl (Nat.le_of_ble_eq_true rfl) dX8_audit_194 hE (fun _ h => vx_X8_areaBoth hG (Nat.le_refl _) h) (fun b32 hE => ?_)
                      refine vl_aload_n 0 rfl dX8_audit_197 ?_
                      refine vl_aload_n 0 rfl dX8_audit_198 ?_
                      refine vl_getR (h := 23) (k0 := 6) (h2 := 26) iu_X8 n23 s23 rfl (by decide) fk_X8_20 rfl dX8_audit_199 ?_
                      refine vl_iload_n 3 rfl dX8_audit_202 ?_
                      refine vl_aldr1 (h := 26) (n := 500) (ni := 500) n26 (by decide) s26 (by decide) rfl g15 dX8_audit_203 ?_
                      refine vl_iload_n 3 rfl dX8_audit_204 ?_
                      refine vl_VpJ (K' := kX8_areaOf) (d' := 1) (h := 23) (As := [vl_iv (m2 26 v14), vl_iv v14]) (st := [vl_jv b32]) lk_X8_125 (fun _ => rfl) (by omega) n23 s23 rfl rfl (Nat.le_of_ble_eq_true rfl) rfl (Nat.le_of_ble_eq_true rfl) dX8_audit_205 hE (fun _ h => vx_X8_areaOf hG (Nat.le_refl _) h) (fun b33 hE => ?_)
                      obtain ⟨g34, hE⟩ := vl_ok_gd hE
                      obtain ⟨g35, hE⟩ := vl_ok_gd hE
                      refine vl_lif_eq (tgt := 214) dX8_audit_208 dX8_audit_209 (by decide) g34 g35 hE (fun c37 hE => ?_) (fun c37 hE => ?_)
                      · refine vl_iinc 4 (fun v36 => [(5, vl_iv v36), (0, .ref 23), (1, vl_iv v25), (2, vl_iv v4), (3, vl_iv v14), (6, vl_iv b30)]) dX8_audit_214 rfl (by decide) (fun _ => rfl) hE (fun v36 hE => ?_)
                        refine vl_goto (tgt := 118) dX8_audit_217 (by decide) ?_
                        exact vl_wk [1, 2, 3, 4, 0] rfl (ih118_ v36 hE)
                      · refine vl_iconst dX8_audit_212 ?_
                        exact vl_ret (r := 0) rfl ⟨dX8_audit_213, by decide⟩ hE (hP' (0, m2))
                    refine vl_if_le (tgt := 176) dX8_audit_144 (by decide) g22  hE (fun c45 hE => ?_) (fun c45 hE => ?_)
                    · exact vl_wk [1, 2, 3, 4, 5, 0] rfl (hκ31 () hE)
                    · refine vl_aload_n 1 rfl dX8_audit_147 ?_
                      refine vl_getR (h := 23) (k0 := 6) (h2 := 26) iu_X8 n23 s23 rfl (by decide) fk_X8_20 rfl dX8_audit_148 ?_
                      refine vl_iload 0 rfl dX8_audit_151 ?_
                      refine vl_aldr (h := 26) (n := 500) (ni := 500) n26 (by decide) s26 (by decide) rfl dX8_audit_153 hE (fun g38 g39 hE => ?_)
                      refine vl_aload_n 1 rfl dX8_audit_154 ?_
                      refine vl_getR (h := 23) (k0 := 6) (h2 := 26) iu_X8 n23 s23 rfl (by decide) fk_X8_20 rfl dX8_audit_155 ?_
                      refine vl_iload_n 4 rfl dX8_audit_158 ?_
                      refine vl_aldr1 (h := 26) (n := 500) (ni := 500) n26 (by decide) s26 (by decide) rfl g15 dX8_audit_159 ?_
                      refine vl_iconst dX8_audit_160 ?_
                      refine vl_isub dX8_audit_161 ?_
                      obtain ⟨g40, hE⟩ := vl_ok_gd hE
                      obtain ⟨g41, hE⟩ := vl_ok_gd hE
                      refine vl_icmp_ne (tgt := 212) dX8_audit_162 (by decide) g40 g41 hE (fun c44 hE => ?_) (fun c44 hE => ?_)
                      · refine vl_iconst dX8_audit_212 ?_
                        exact vl_ret (r := 0) rfl ⟨dX8_audit_213, by decide⟩ hE (hP' (0, m2))
                      · refine vl_aload_n 1 rfl dX8_audit_165 ?_
                        refine vl_getR (h := 23) (k0 := 10) (h2 := 30) iu_X8 n23 s23 rfl (by decide) fk_X8_32 rfl dX8_audit_166 ?_
                        refine vl_iload 0 rfl dX8_audit_169 ?_
                        refine vl_aldr1 (h := 30) (n := 500) (ni := 500) n30 (by decide) s30 (by decide) rfl g38 dX8_audit_171 ?_
                        refine vl_iload_n 4 rfl dX8_audit_172 ?_
                        obtain ⟨g42, hE⟩ := vl_ok_gd hE
                        refine vl_icmp_ne (tgt := 212) dX8_audit_173 (by decide) g42 g16 hE (fun c43 hE => ?_) (fun c43 hE => ?_)
                        · refine vl_iconst dX8_audit_212 ?_
                          exact vl_ret (r := 0) rfl ⟨dX8_audit_213, by decide⟩ hE (hP' (0, m2))
                        · exact vl_wk [1, 2, 3, 4, 5, 0] rfl (hκ31 () hE)
              exact vl_wk [2, 1, 3, 4, 0] rfl (hL118_ N 0 hE)
            refine vl_if_ne (tgt := 112) dX8_audit_100 (by decide) g22  hE (fun c47 hE => ?_) (fun c47 hE => ?_)
            · refine vl_iconst dX8_audit_112 ?_
              exact vl_wk [1, 3, 4] rfl (hκ24 0 hE)
            · refine vl_aload_n 1 rfl dX8_audit_103 ?_
              refine vl_getR (h := 23) (k0 := 7) (h2 := 27) iu_X8 n23 s23 rfl (by decide) fk_X8_23 rfl dX8_audit_104 ?_
              refine vl_iload_n 4 rfl dX8_audit_107 ?_
              refine vl_aldr1 (h := 27) (n := 500) (ni := 500) n27 (by decide) s27 (by decide) rfl g15 dX8_audit_108 ?_
              refine vl_goto (tgt := 113) dX8_audit_109 (by decide) ?_
              exact vl_wk [1, 3, 4] rfl (hκ24 (m2 27 v14) hE)
          · refine vl_iconst dX8_audit_91 ?_
            exact vl_ret (r := 0) rfl ⟨dX8_audit_92, by decide⟩ hE (hP' (0, m2))
        refine vl_icmp_gt (tgt := 83) dX8_audit_33 (by decide) g17 g18 hE (fun c56 hE => ?_) (fun c56 hE => ?_)
        · refine vl_iconst dX8_audit_83 ?_
          exact vl_wk [1, 2, 3, 0] rfl (hκ20 0 hE)
        · refine vl_iload_n 0 rfl dX8_audit_36 ?_
          refine vl_aload_n 1 rfl dX8_audit_37 ?_
          refine vl_getIr (h := 23) (k0 := 11) (ki := 11) iu_X8 n23 (by decide) s23 rfl (by decide) fk_X8_93 rfl rfl dX8_audit_38 ?_
          obtain ⟨g49, hE⟩ := vl_ok_gd hE
          refine vl_icmp_ne (tgt := 66) dX8_audit_41 (by decide) g16 g49 hE (fun c55 hE => ?_) (fun c55 hE => ?_)
          · refine vl_aload_n 1 rfl dX8_audit_66 ?_
            refine vl_getR (h := 23) (k0 := 7) (h2 := 27) iu_X8 n23 s23 rfl (by decide) fk_X8_23 rfl dX8_audit_67 ?_
            refine vl_iload_n 0 rfl dX8_audit_70 ?_
            refine vl_aldr1 (h := 27) (n := 500) (ni := 500) n27 (by decide) s27 (by decide) rfl g15 dX8_audit_71 ?_
            refine vl_aload_n 1 rfl dX8_audit_72 ?_
            refine vl_getIr (h := 23) (k0 := 2) (ki := 2) iu_X8 n23 (by decide) s23 rfl (by decide) fk_X8_86 rfl rfl dX8_audit_73 ?_
            obtain ⟨g50, hE⟩ := vl_ok_gd hE
            refine vl_icmp_lt (tgt := 83) dX8_audit_76 (by decide) g17 g50 hE (fun c51 hE => ?_) (fun c51 hE => ?_)
            · refine vl_iconst dX8_audit_83 ?_
              exact vl_wk [1, 2, 3, 0] rfl (hκ20 0 hE)
            · refine vl_iconst dX8_audit_79 ?_
              refine vl_goto (tgt := 84) dX8_audit_80 (by decide) ?_
              exact vl_wk [1, 2, 3, 0] rfl (hκ20 1 hE)
          · refine vl_aload_n 1 rfl dX8_audit_44 ?_
            refine vl_getR (h := 23) (k0 := 6) (h2 := 26) iu_X8 n23 s23 rfl (by decide) fk_X8_20 rfl dX8_audit_45 ?_
            refine vl_iload_n 0 rfl dX8_audit_48 ?_
            refine vl_aldr1 (h := 26) (n := 500) (ni := 500) n26 (by decide) s26 (by decide) rfl g15 dX8_audit_49 ?_
            obtain ⟨g52, hE⟩ := vl_ok_gd hE
            refine vl_if_eq (tgt := 79) dX8_audit_50 (by decide) g52  hE (fun c54 hE => ?_) (fun c54 hE => ?_)
            · refine vl_iconst dX8_audit_79 ?_
              refine vl_goto (tgt := 84) dX8_audit_80 (by decide) ?_
              exact vl_wk [1, 2, 3, 0] rfl (hκ20 1 hE)
            · refine vl_aload_n 1 rfl dX8_audit_53 ?_
              refine vl_getR (h := 23) (k0 := 7) (h2 := 27) iu_X8 n23 s23 rfl (by decide) fk_X8_23 rfl dX8_audit_54 ?_
              refine vl_iload_n 0 rfl dX8_audit_57 ?_
              refine vl_aldr1 (h := 27) (n := 500) (ni := 500) n27 (by decide) s27 (by decide) rfl g15 dX8_audit_58 ?_
              refine vl_iconst dX8_audit_59 ?_
              refine vl_icmp_lt (tgt := 83) dX8_audit_60 (by decide) g17 (by decide) hE (fun c53 hE => ?_) (fun c53 hE => ?_)
              · refine vl_iconst dX8_audit_83 ?_
                exact vl_wk [1, 2, 3, 0] rfl (hκ20 0 hE)
              · refine vl_goto (tgt := 79) dX8_audit_63 (by decide) ?_
                refine vl_iconst dX8_audit_79 ?_
                refine vl_goto (tgt := 84) dX8_audit_80 (by decide) ?_
                exact vl_wk [1, 2, 3, 0] rfl (hκ20 1 hE)
  exact vl_wk [2, 1, 0] rfl (hL8_ N 0 0 hE)
set_option maxRecDepth 100000 in
set_option maxHeartbeats 4000000 in
theorem vx_X8_count {nc : Nat} {S : vl_Sh} {sc : Nat × (Nat → Int32)} (hG : vl_G3 nc S) {N : Nat} {d : Nat} (hd : 63 ≤ d) {Post : Int → vl_M → vl_M → Prop} {μ m : vl_M} {a1 : Int} (hE : vl_ok (fun b : Int × vl_M => Post b.1 μ b.2) (fn_X8_count N m a1)) : vl_V nc S sc kX8_count d Post 0 [(0, .ref 23), (1, vl_iv a1)] [] μ m := by
  generalize hP : (fun b : Int × vl_M => Post b.1 μ b.2) = P at hE
  have hP' : ∀ b : Int × vl_M, P b → Post b.1 μ b.2 := fun b h => by rw [← hP] at h; exact h
  clear hP
  have s23 : S 23 = .inr (8, [0, 0, 0, 27, 28, 0, 29, 30, 31, 32, 33, 0, 0, 0, 0, 34, 35, 0, 36, 0, 0, 37, 38, 39, 0, 0, 0, 0, 0, 1, 40, 41, 42, 43, 44, 45, 46, 0, 47, 48, 49]) := hG.2 23 (by decide) (by decide)
  have n23 : 23 < nc := Nat.lt_of_lt_of_le (by decide) hG.1
  have s26 : S 26 = .inl 500 := hG.2 26 (by decide) (by decide)
  have n26 : 26 < nc := Nat.lt_of_lt_of_le (by decide) hG.1
  unfold fn_X8_count at hE
  refine vl_iload_n 1 rfl dX8_count_0 ?_
  obtain ⟨g1, hE⟩ := vl_ok_gd hE
  by_cases c2 : a1 = 0
  · rw [if_pos c2] at hE
    refine vl_tabIn (off := 47) (tgt := 48) dX8_count_1 g1 (by omega) (by omega) (by rw [c2]; rfl) (by decide) ?_
    refine vl_aload_n 0 rfl dX8_count_48 ?_
    refine vl_getIr (h := 23) (k0 := 5) (ki := 5) iu_X8 n23 (by decide) s23 rfl (by decide) fk_X8_181 rfl rfl dX8_count_49 ?_
    exact vl_ret (r := (m 23 5)) rfl dX8_count_52 hE (hP' ((m 23 5), m))
  · rw [if_neg c2] at hE
    by_cases c3 : a1 = 1
    · rw [if_pos c3] at hE
      refine vl_tabIn (off := 52) (tgt := 53) dX8_count_1 g1 (by omega) (by omega) (by rw [c3]; rfl) (by decide) ?_
      refine vl_aload_n 0 rfl dX8_count_53 ?_
      refine vl_getR (h := 23) (k0 := 6) (h2 := 26) iu_X8 n23 s23 rfl (by decide) fk_X8_20 rfl dX8_count_54 ?_
      refine vl_aload_n 0 rfl dX8_count_57 ?_
      refine vl_getIr (h := 23) (k0 := 11) (ki := 11) iu_X8 n23 (by decide) s23 rfl (by decide) fk_X8_93 rfl rfl dX8_count_58 ?_
      refine vl_aldr (h := 26) (n := 500) (ni := 500) n26 (by decide) s26 (by decide) rfl dX8_count_61 hE (fun g4 g5 hE => ?_)
      refine vl_iconst dX8_count_62 ?_
      refine vl_iadd dX8_count_63 ?_
      exact vl_ret (r := ((m 26 (m 23 11)) + 1)) rfl dX8_count_64 hE (hP' (((m 26 (m 23 11)) + 1), m))
    · rw [if_neg c3] at hE
      by_cases c6 : a1 = 2
      · rw [if_pos c6] at hE
        refine vl_tabIn (off := 64) (tgt := 65) dX8_count_1 g1 (by omega) (by omega) (by rw [c6]; rfl) (by decide) ?_
        refine vl_aload_n 0 rfl dX8_count_65 ?_
        refine vl_VrWV (K' := kX8_findOrder) (d' := 62) (h := 23) (As := []) (st := []) lk_X8_235 (fun _ => rfl) (by omega) n23 s23 rfl rfl (Nat.le_of_ble_eq_true rfl) rfl (Nat.le_of_ble_eq_true rfl) dX8_count_66 hE (fun _ h => vx_X8_findOrder hG (Nat.le_refl _) h) (fun m8 hE => ?_)
        refine vl_aload_n 0 rfl dX8_count_69 ?_
        refine vl_getIr (h := 23) (k0 := 19) (ki := 19) iu_X8 n23 (by decide) s23 rfl (by decide) fk_X8_222 rfl rfl dX8_count_70 ?_
        exact vl_ret (r := (m8 23 19)) rfl dX8_count_73 hE (hP' ((m8 23 19), m8))
      · rw [if_neg c6] at hE
        by_cases c9 : a1 = 3
        · rw [if_pos c9] at hE
          refine vl_tabIn (off := 73) (tgt := 74) dX8_count_1 g1 (by omega) (by omega) (by rw [c9]; rfl) (by decide) ?_
          refine vl_aload_n 0 rfl dX8_count_74 ?_
          refine vl_getIr (h := 23) (k0 := 12) (ki := 12) iu_X8 n23 (by decide) s23 rfl (by decide) fk_X8_145 rfl rfl dX8_count_75 ?_
          exact vl_ret (r := (m 23 12)) rfl dX8_count_78 hE (hP' ((m 23 12), m))
        · rw [if_neg c9] at hE
          by_cases c10 : a1 = 4
          · rw [if_pos c10] at hE
            refine vl_tabIn (off := 78) (tgt := 79) dX8_count_1 g1 (by omega) (by omega) (by rw [c10]; rfl) (by decide) ?_
            refine vl_aload_n 0 rfl dX8_count_79 ?_
            refine vl_getIr (h := 23) (k0 := 13) (ki := 13) iu_X8 n23 (by decide) s23 rfl (by decide) fk_X8_200 rfl rfl dX8_count_80 ?_
            exact vl_ret (r := (m 23 13)) rfl dX8_count_83 hE (hP' ((m 23 13), m))
          · rw [if_neg c10] at hE
            by_cases c11 : a1 = 5
            · rw [if_pos c11] at hE
              refine vl_tabIn (off := 83) (tgt := 84) dX8_count_1 g1 (by omega) (by omega) (by rw [c11]; rfl) (by decide) ?_
              refine vl_aload_n 0 rfl dX8_count_84 ?_
              refine vl_getIr (h := 23) (k0 := 14) (ki := 14) iu_X8 n23 (by decide) s23 rfl (by decide) fk_X8_203 rfl rfl dX8_count_85 ?_
              exact vl_ret (r := (m 23 14)) rfl dX8_count_88 hE (hP' ((m 23 14), m))
            · rw [if_neg c11] at hE
              by_cases c12 : a1 = 6
              · rw [if_pos c12] at hE
                refine vl_tabIn (off := 88) (tgt := 89) dX8_count_1 g1 (by omega) (by omega) (by rw [c12]; rfl) (by decide) ?_
                refine vl_aload_n 0 rfl dX8_count_89 ?_
                refine vl_getIr (h := 23) (k0 := 1) (ki := 1) iu_X8 n23 (by decide) s23 rfl (by decide) fk_X8_83 rfl rfl dX8_count_90 ?_
                exact vl_ret (r := (m 23 1)) rfl dX8_count_93 hE (hP' ((m 23 1), m))
              · rw [if_neg c12] at hE
                by_cases c13 : a1 = 7
                · rw [if_pos c13] at hE
                  refine vl_tabIn (off := 93) (tgt := 94) dX8_count_1 g1 (by omega) (by omega) (by rw [c13]; rfl) (by decide) ?_
                  refine vl_aload_n 0 rfl dX8_count_94 ?_
                  refine vl_getIr (h := 23) (k0 := 2) (ki := 2) iu_X8 n23 (by decide) s23 rfl (by decide) fk_X8_86 rfl rfl dX8_count_95 ?_
                  exact vl_ret (r := (m 23 2)) rfl dX8_count_98 hE (hP' ((m 23 2), m))
                · rw [if_neg c13] at hE
                  refine vl_tabOut (tgt := 99) dX8_count_1 g1 (by omega) (by decide) ?_
                  refine vl_iconst dX8_count_99 ?_
                  exact vl_ret (r := (-1)) rfl dX8_count_100 hE (hP' ((-1), m))
set_option maxRecDepth 100000 in
set_option maxHeartbeats 4000000 in
theorem vx_X8_held {nc : Nat} {S : vl_Sh} {sc : Nat × (Nat → Int32)} (hG : vl_G3 nc S) {N : Nat} {d : Nat} (hd : 63 ≤ d) {Post : Int → vl_M → vl_M → Prop} {μ m : vl_M} {a1 a2 a3 : Int} (hE : vl_ok (fun b : Int × vl_M => Post b.1 μ b.2) (fn_X8_held N m a1 a2 a3)) : vl_V nc S sc kX8_held d Post 0 [(0, .ref 23), (1, vl_iv a1), (2, vl_iv a2), (3, vl_iv a3)] [] μ m := by
  generalize hP : (fun b : Int × vl_M => Post b.1 μ b.2) = P at hE
  have hP' : ∀ b : Int × vl_M, P b → Post b.1 μ b.2 := fun b h => by rw [← hP] at h; exact h
  clear hP
  have s23 : S 23 = .inr (8, [0, 0, 0, 27, 28, 0, 29, 30, 31, 32, 33, 0, 0, 0, 0, 34, 35, 0, 36, 0, 0, 37, 38, 39, 0, 0, 0, 0, 0, 1, 40, 41, 42, 43, 44, 45, 46, 0, 47, 48, 49]) := hG.2 23 (by decide) (by decide)
  have n23 : 23 < nc := Nat.lt_of_lt_of_le (by decide) hG.1
  have s24 : S 24 = .inl 401 := hG.2 24 (by decide) (by decide)
  have n24 : 24 < nc := Nat.lt_of_lt_of_le (by decide) hG.1
  have s26 : S 26 = .inl 500 := hG.2 26 (by decide) (by decide)
  have n26 : 26 < nc := Nat.lt_of_lt_of_le (by decide) hG.1
  have s27 : S 27 = .inl 500 := hG.2 27 (by decide) (by decide)
  have n27 : 27 < nc := Nat.lt_of_lt_of_le (by decide) hG.1
  have s33 : S 33 = .inl 500 := hG.2 33 (by decide) (by decide)
  have n33 : 33 < nc := Nat.lt_of_lt_of_le (by decide) hG.1
  have s44 : S 44 = .inl 500 := hG.2 44 (by decide) (by decide)
  have n44 : 44 < nc := Nat.lt_of_lt_of_le (by decide) hG.1
  unfold fn_X8_held at hE
  refine vl_aload_n 0 rfl dX8_held_0 ?_
  refine vl_VrWV (K' := kX8_findOrder) (d' := 62) (h := 23) (As := []) (st := []) lk_X8_235 (fun _ => rfl) (by omega) n23 s23 rfl rfl (Nat.le_of_ble_eq_true rfl) rfl (Nat.le_of_ble_eq_true rfl) dX8_held_1 hE (fun _ h => vx_X8_findOrder hG (Nat.le_refl _) h) (fun m2 hE => ?_)
  refine vl_iload_n 1 rfl dX8_held_4 ?_
  obtain ⟨g3, hE⟩ := vl_ok_gd hE
  refine vl_if_lt (tgt := 44) dX8_held_5 (by decide) g3  hE (fun c31 hE => ?_) (fun c31 hE => ?_)
  · refine vl_iconst dX8_held_44 ?_
    exact vl_ret (r := (-1)) rfl dX8_held_45 hE (hP' ((-1), m2))
  · refine vl_iload_n 1 rfl dX8_held_8 ?_
    refine vl_aload_n 0 rfl dX8_held_9 ?_
    refine vl_getIr (h := 23) (k0 := 19) (ki := 19) iu_X8 n23 (by decide) s23 rfl (by decide) fk_X8_222 rfl rfl dX8_held_10 ?_
    obtain ⟨g4, hE⟩ := vl_ok_gd hE
    refine vl_icmp_ge (tgt := 44) dX8_held_13 (by decide) g3 g4 hE (fun c30 hE => ?_) (fun c30 hE => ?_)
    · refine vl_iconst dX8_held_44 ?_
      exact vl_ret (r := (-1)) rfl dX8_held_45 hE (hP' ((-1), m2))
    · refine vl_iload_n 2 rfl dX8_held_16 ?_
      obtain ⟨g5, hE⟩ := vl_ok_gd hE
      refine vl_if_lt (tgt := 44) dX8_held_17 (by decide) g5  hE (fun c29 hE => ?_) (fun c29 hE => ?_)
      · refine vl_iconst dX8_held_44 ?_
        exact vl_ret (r := (-1)) rfl dX8_held_45 hE (hP' ((-1), m2))
      · refine vl_iload_n 2 rfl dX8_held_20 ?_
        refine vl_aload_n 0 rfl dX8_held_21 ?_
        refine vl_getR (h := 23) (k0 := 7) (h2 := 27) iu_X8 n23 s23 rfl (by decide) fk_X8_23 rfl dX8_held_22 ?_
        refine vl_aload_n 0 rfl dX8_held_25 ?_
        refine vl_getR (h := 23) (k0 := 18) (h2 := 33) iu_X8 n23 s23 rfl (by decide) fk_X8_41 rfl dX8_held_26 ?_
        refine vl_iload_n 1 rfl dX8_held_29 ?_
        refine vl_aldr (h := 33) (n := 500) (ni := 500) n33 (by decide) s33 (by decide) rfl dX8_held_30 hE (fun g6 g7 hE => ?_)
        refine vl_aldr (h := 27) (n := 500) (ni := 500) n27 (by decide) s27 (by decide) rfl dX8_held_31 hE (fun g8 g9 hE => ?_)
        obtain ⟨g10, hE⟩ := vl_ok_gd hE
        refine vl_icmp_ge (tgt := 44) dX8_held_32 (by decide) g5 g10 hE (fun c28 hE => ?_) (fun c28 hE => ?_)
        · refine vl_iconst dX8_held_44 ?_
          exact vl_ret (r := (-1)) rfl dX8_held_45 hE (hP' ((-1), m2))
        · refine vl_iload_n 3 rfl dX8_held_35 ?_
          obtain ⟨g11, hE⟩ := vl_ok_gd hE
          refine vl_if_lt (tgt := 44) dX8_held_36 (by decide) g11  hE (fun c27 hE => ?_) (fun c27 hE => ?_)
          · refine vl_iconst dX8_held_44 ?_
            exact vl_ret (r := (-1)) rfl dX8_held_45 hE (hP' ((-1), m2))
          · refine vl_iload_n 3 rfl dX8_held_39 ?_
            refine vl_iconst dX8_held_40 ?_
            refine vl_icmp_le (tgt := 46) dX8_held_41 (by decide) g11 (by decide) hE (fun c26 hE => ?_) (fun c26 hE => ?_)
            · refine vl_aload_n 0 rfl dX8_held_46 ?_
              refine vl_getR (h := 23) (k0 := 18) (h2 := 33) iu_X8 n23 s23 rfl (by decide) fk_X8_41 rfl dX8_held_47 ?_
              refine vl_iload_n 1 rfl dX8_held_50 ?_
              refine vl_aldr1 (h := 33) (n := 500) (ni := 500) n33 (by decide) s33 (by decide) rfl g6 dX8_held_51 ?_
              refine vl_istore (fun v12 => [(4, vl_iv v12), (0, .ref 23), (1, vl_iv a1), (2, vl_iv a2), (3, vl_iv a3)]) dX8_held_52 (by decide) (fun _ => rfl) hE (fun v12 hE => ?_)
              refine vl_aload_n 1 rfl dX8_held_54 ?_
              refine vl_iload 0 rfl dX8_held_55 ?_
              refine vl_iload_n 3 rfl dX8_held_57 ?_
              refine vl_VpI (K' := kX8_heldBy) (d' := 0) (h := 23) (As := [vl_iv v12, vl_iv a2]) (st := []) lk_X8_115 (fun _ => rfl) (by omega) n23 s23 rfl rfl (Nat.le_of_ble_eq_true rfl) rfl (Nat.le_of_ble_eq_true rfl) dX8_held_58 hE (fun _ h => vx_X8_heldBy hG (Nat.le_refl _) h) (fun b13 hE => ?_)
              refine vl_istore0 (lv' := [(5, vl_iv b13), (4, vl_iv v12), (0, .ref 23), (1, vl_iv a1), (2, vl_iv a2), (3, vl_iv a3)]) dX8_held_61 (by decide) rfl ?_
              refine vl_iload_n 5 rfl dX8_held_63 ?_
              refine vl_if_le (tgt := 88) dX8_held_64 (by decide) g11  hE (fun c25 hE => ?_) (fun c25 hE => ?_)
              · refine vl_aload_n 2 rfl dX8_held_88 ?_
                refine vl_getR (h := 23) (k0 := 6) (h2 := 26) iu_X8 n23 s23 rfl (by decide) fk_X8_20 rfl dX8_held_89 ?_
                refine vl_iload 1 rfl dX8_held_92 ?_
                refine vl_aldr (h := 26) (n := 500) (ni := 500) n26 (by decide) s26 (by decide) rfl dX8_held_94 hE (fun g14 g15 hE => ?_)
                obtain ⟨g16, hE⟩ := vl_ok_gd hE
                refine vl_if_ne (tgt := 108) dX8_held_95 (by decide) g16  hE (fun c21 hE => ?_) (fun c21 hE => ?_)
                · refine vl_aload_n 2 rfl dX8_held_108 ?_
                  refine vl_getR (h := 23) (k0 := 38) (h2 := 44) iu_X8 n23 s23 rfl (by decide) fk_X8_74 rfl dX8_held_109 ?_
                  refine vl_iload 0 rfl dX8_held_112 ?_
                  refine vl_aldr (h := 44) (n := 500) (ni := 500) n44 (by decide) s44 (by decide) rfl dX8_held_114 hE (fun g17 g18 hE => ?_)
                  exact vl_ret (r := (m2 44 b13)) rfl dX8_held_115 hE (hP' ((m2 44 b13), m2))
                · refine vl_aload_n 2 rfl dX8_held_98 ?_
                  refine vl_getR (h := 23) (k0 := 3) (h2 := 24) iu_X8 n23 s23 rfl (by decide) fk_X8_13 rfl dX8_held_99 ?_
                  refine vl_iload 0 rfl dX8_held_102 ?_
                  refine vl_aldr (h := 24) (n := 401) (ni := 401) n24 (by decide) s24 (by decide) rfl dX8_held_104 hE (fun g19 g20 hE => ?_)
                  refine vl_goto (tgt := 115) dX8_held_105 (by decide) ?_
                  exact vl_ret (r := (m2 24 b13)) rfl dX8_held_115 hE (hP' ((m2 24 b13), m2))
              · refine vl_aload_n 2 rfl dX8_held_67 ?_
                refine vl_aload_n 2 rfl dX8_held_68 ?_
                refine vl_getR (h := 23) (k0 := 6) (h2 := 26) iu_X8 n23 s23 rfl (by decide) fk_X8_20 rfl dX8_held_69 ?_
                refine vl_iload 1 rfl dX8_held_72 ?_
                refine vl_aldr (h := 26) (n := 500) (ni := 500) n26 (by decide) s26 (by decide) rfl dX8_held_74 hE (fun g22 g23 hE => ?_)
                refine vl_iconst dX8_held_75 ?_
                refine vl_isub dX8_held_76 ?_
                refine vl_iload 0 rfl dX8_held_77 ?_
                refine vl_iload_n 5 rfl dX8_held_79 ?_
                refine vl_iconst dX8_held_80 ?_
                refine vl_isub dX8_held_81 ?_
                refine vl_VpI (K' := kX8_side) (d' := 0) (h := 23) (As := [vl_iv ((m2 26 v12) - 1), vl_iv b13, vl_iv (a3 - 1)]) (st := []) lk_X8_96 (fun _ => rfl) (by omega) n23 s23 rfl rfl (Nat.le_of_ble_eq_true rfl) rfl (Nat.le_of_ble_eq_true rfl) dX8_held_82 hE (fun _ h => vx_X8_side hG (Nat.le_refl _) h) (fun b24 hE => ?_)
                refine vl_goto (tgt := 115) dX8_held_85 (by decide) ?_
                exact vl_ret (r := b24) rfl dX8_held_115 hE (hP' (b24, m2))
            · refine vl_iconst dX8_held_44 ?_
              exact vl_ret (r := (-1)) rfl dX8_held_45 hE (hP' ((-1), m2))
set_option maxRecDepth 100000 in
set_option maxHeartbeats 4000000 in
theorem vx_X8_nearest {nc : Nat} {S : vl_Sh} {sc : Nat × (Nat → Int32)} (hG : vl_G3 nc S) {N : Nat} {d : Nat} (hd : 63 ≤ d) {Post : Int → vl_M → vl_M → Prop} {μ m : vl_M} {a1 a2 a3 : Int} (hE : vl_ok (fun b : Int × vl_M => Post b.1 μ b.2) (fn_X8_nearest N m a1 a2 a3)) : vl_V nc S sc kX8_nearest d Post 0 [(0, .ref 23), (1, vl_iv a1), (2, vl_iv a2), (3, vl_iv a3)] [] μ m := by
  generalize hP : (fun b : Int × vl_M => Post b.1 μ b.2) = P at hE
  have hP' : ∀ b : Int × vl_M, P b → Post b.1 μ b.2 := fun b h => by rw [← hP] at h; exact h
  clear hP
  have s23 : S 23 = .inr (8, [0, 0, 0, 27, 28, 0, 29, 30, 31, 32, 33, 0, 0, 0, 0, 34, 35, 0, 36, 0, 0, 37, 38, 39, 0, 0, 0, 0, 0, 1, 40, 41, 42, 43, 44, 45, 46, 0, 47, 48, 49]) := hG.2 23 (by decide) (by decide)
  have n23 : 23 < nc := Nat.lt_of_lt_of_le (by decide) hG.1
  have s24 : S 24 = .inl 401 := hG.2 24 (by decide) (by decide)
  have n24 : 24 < nc := Nat.lt_of_lt_of_le (by decide) hG.1
  have s26 : S 26 = .inl 500 := hG.2 26 (by decide) (by decide)
  have n26 : 26 < nc := Nat.lt_of_lt_of_le (by decide) hG.1
  have s27 : S 27 = .inl 500 := hG.2 27 (by decide) (by decide)
  have n27 : 27 < nc := Nat.lt_of_lt_of_le (by decide) hG.1
  have s42 : S 42 = .inl 1000 := hG.2 42 (by decide) (by decide)
  have n42 : 42 < nc := Nat.lt_of_lt_of_le (by decide) hG.1
  have s43 : S 43 = .inl 1000 := hG.2 43 (by decide) (by decide)
  have n43 : 43 < nc := Nat.lt_of_lt_of_le (by decide) hG.1
  unfold fn_X8_nearest at hE
  refine vl_iload_n 1 rfl dX8_nearest_0 ?_
  refine vl_SpI (K' := kX8_isPlace) (d' := 0) (As := [vl_iv a1]) (st := []) lk_X8_111 (fun _ => rfl) (by omega) rfl (Nat.le_of_ble_eq_true rfl) rfl (Nat.le_of_ble_eq_true rfl) dX8_nearest_1 hE (fun _ h => vx_X8_isPlace hG (Nat.le_refl _) h) (fun b1 hE => ?_)
  obtain ⟨g2, hE⟩ := vl_ok_gd hE
  refine vl_if_eq (tgt := 26) dX8_nearest_4 (by decide) g2  hE (fun c75 hE => ?_) (fun c75 hE => ?_)
  · refine vl_iconst dX8_nearest_26 ?_
    exact vl_ret (r := (-1)) rfl dX8_nearest_27 hE (hP' ((-1), m))
  · refine vl_iload_n 2 rfl dX8_nearest_7 ?_
    refine vl_SpI (K' := kX8_isPlace) (d' := 0) (As := [vl_iv a2]) (st := []) lk_X8_111 (fun _ => rfl) (by omega) rfl (Nat.le_of_ble_eq_true rfl) rfl (Nat.le_of_ble_eq_true rfl) dX8_nearest_8 hE (fun _ h => vx_X8_isPlace hG (Nat.le_refl _) h) (fun b3 hE => ?_)
    obtain ⟨g4, hE⟩ := vl_ok_gd hE
    refine vl_if_eq (tgt := 26) dX8_nearest_11 (by decide) g4  hE (fun c74 hE => ?_) (fun c74 hE => ?_)
    · refine vl_iconst dX8_nearest_26 ?_
      exact vl_ret (r := (-1)) rfl dX8_nearest_27 hE (hP' ((-1), m))
    · refine vl_iload_n 3 rfl dX8_nearest_14 ?_
      obtain ⟨g5, hE⟩ := vl_ok_gd hE
      refine vl_if_lt (tgt := 26) dX8_nearest_15 (by decide) g5  hE (fun c73 hE => ?_) (fun c73 hE => ?_)
      · refine vl_iconst dX8_nearest_26 ?_
        exact vl_ret (r := (-1)) rfl dX8_nearest_27 hE (hP' ((-1), m))
      · refine vl_iload_n 3 rfl dX8_nearest_18 ?_
        refine vl_aload_n 0 rfl dX8_nearest_19 ?_
        refine vl_getIr (h := 23) (k0 := 5) (ki := 5) iu_X8 n23 (by decide) s23 rfl (by decide) fk_X8_181 rfl rfl dX8_nearest_20 ?_
        obtain ⟨g6, hE⟩ := vl_ok_gd hE
        refine vl_icmp_lt (tgt := 28) dX8_nearest_23 (by decide) g5 g6 hE (fun c72 hE => ?_) (fun c72 hE => ?_)
        · refine vl_aload_n 0 rfl dX8_nearest_28 ?_
          refine vl_VrWV (K' := kX8_findOrder) (d' := 62) (h := 23) (As := []) (st := []) lk_X8_235 (fun _ => rfl) (by omega) n23 s23 rfl rfl (Nat.le_of_ble_eq_true rfl) rfl (Nat.le_of_ble_eq_true rfl) dX8_nearest_29 hE (fun _ h => vx_X8_findOrder hG (Nat.le_refl _) h) (fun m8 hE => ?_)
          refine vl_aload_n 0 rfl dX8_nearest_32 ?_
          refine vl_iconst dX8_nearest_33 ?_
          refine vl_putIr (h := 23) (k0 := 27) (ki := 27) iu_X8 tyX8_ok nmX8 n23 (by decide) s23 rfl (by decide) fk_X8_238 rfl rfl rfl (vl_nI _) dX8_nearest_34 hE (fun m9 hE => ?_)
          refine vl_aload_n 0 rfl dX8_nearest_37 ?_
          refine vl_iconst dX8_nearest_38 ?_
          refine vl_putIr (h := 23) (k0 := 37) (ki := 37) iu_X8 tyX8_ok nmX8 n23 (by decide) s23 rfl (by decide) fk_X8_241 rfl rfl rfl (vl_nI _) dX8_nearest_39 hE (fun m10 hE => ?_)
          refine vl_aload_n 0 rfl dX8_nearest_42 ?_
          refine vl_getR (h := 23) (k0 := 35) (h2 := 42) iu_X8 n23 s23 rfl (by decide) fk_X8_68 rfl dX8_nearest_43 ?_
          refine vl_iconst dX8_nearest_46 ?_
          refine vl_aload_n 0 rfl dX8_nearest_47 ?_
          refine vl_getIr (h := 23) (k0 := 11) (ki := 11) iu_X8 n23 (by decide) s23 rfl (by decide) fk_X8_93 rfl rfl dX8_nearest_48 ?_
          refine vl_astr (h := 42) (n := 1000) (ni := 1000) n42 (by decide) s42 (by decide) rfl dX8_nearest_51 hE (fun g12 g13 m11 hE => ?_)
          refine vl_aload_n 0 rfl dX8_nearest_52 ?_
          refine vl_getR (h := 23) (k0 := 36) (h2 := 43) iu_X8 n23 s23 rfl (by decide) fk_X8_71 rfl dX8_nearest_53 ?_
          refine vl_iconst dX8_nearest_56 ?_
          refine vl_aload_n 0 rfl dX8_nearest_57 ?_
          refine vl_getR (h := 23) (k0 := 6) (h2 := 26) iu_X8 n23 s23 rfl (by decide) fk_X8_20 rfl dX8_nearest_58 ?_
          refine vl_aload_n 0 rfl dX8_nearest_61 ?_
          refine vl_getIr (h := 23) (k0 := 11) (ki := 11) iu_X8 n23 (by decide) s23 rfl (by decide) fk_X8_93 rfl rfl dX8_nearest_62 ?_
          refine vl_aldr (h := 26) (n := 500) (ni := 500) n26 (by decide) s26 (by decide) rfl dX8_nearest_65 hE (fun g14 g15 hE => ?_)
          refine vl_astr1 (h := 43) (n := 1000) (ni := 1000) n43 (by decide) s43 (by decide) rfl g12 dX8_nearest_66 hE (fun m16 hE => ?_)
          refine vl_iload_n 3 rfl dX8_nearest_67 ?_
          refine vl_istore0 (lv' := [(4, vl_iv a3), (0, .ref 23), (1, vl_iv a1), (2, vl_iv a2), (3, vl_iv a3)]) dX8_nearest_68 (by decide) rfl ?_
          have hL70_ : ∀ (n : Nat) (v17 : Int) (m18 : vl_M), vl_ok P (fn_X8_nearest_L70 N a1 a2  n v17 m18) → vl_V nc S sc kX8_nearest d Post 70 [(0, .ref 23), (1, vl_iv a1), (2, vl_iv a2), (4, vl_iv v17)] [] μ m18 := by
            intro n
            induction n with
            | zero => intro v17 m18 hE; exact vl_no hE
            | succ n ih70_ =>
              intro v17 m18 hE
              rw [fn_X8_nearest_L70] at hE
              refine vl_iconst dX8_nearest_70 ?_
              refine vl_istore0 (lv' := [(5, vl_iv 0), (0, .ref 23), (1, vl_iv a1), (2, vl_iv a2), (4, vl_iv v17)]) dX8_nearest_71 (by decide) rfl ?_
              refine vl_iconst dX8_nearest_73 ?_
              refine vl_istore0 (lv' := [(6, vl_iv 1), (5, vl_iv 0), (0, .ref 23), (1, vl_iv a1), (2, vl_iv a2), (4, vl_iv v17)]) dX8_nearest_74 (by decide) rfl ?_
              refine vl_lpr (F := fun κ : Int → Int → Option (Int × vl_M) => fn_X8_nearest_L76 N m18 a1 a2 v17 κ N 0 1) (J := fun κ => ∀ (v21 : Int) (v22 : Int), vl_ok P (κ v21 v22) → vl_V nc S sc kX8_nearest d Post 113 [(0, .ref 23), (1, vl_iv a1), (2, vl_iv a2), (4, vl_iv v17), (5, vl_iv v21)] [] μ m18) ?_ hE (fun κ hκL7620 hE => ?_)
              · intro v21 v22 hE
                refine vl_aload_n 0 rfl dX8_nearest_113 ?_
                refine vl_getR (h := 23) (k0 := 35) (h2 := 42) iu_X8 n23 s23 rfl (by decide) fk_X8_68 rfl dX8_nearest_114 ?_
                refine vl_iload 4 rfl dX8_nearest_117 ?_
                refine vl_aldr (h := 42) (n := 1000) (ni := 1000) n42 (by decide) s42 (by decide) rfl dX8_nearest_119 hE (fun g23 g24 hE => ?_)
                refine vl_istore (fun v25 => [(6, vl_iv v25), (0, .ref 23), (1, vl_iv a1), (2, vl_iv a2), (4, vl_iv v17), (5, vl_iv v21)]) dX8_nearest_120 (by decide) (fun _ => rfl) hE (fun v25 hE => ?_)
                refine vl_aload_n 1 rfl dX8_nearest_122 ?_
                refine vl_getR (h := 23) (k0 := 36) (h2 := 43) iu_X8 n23 s23 rfl (by decide) fk_X8_71 rfl dX8_nearest_123 ?_
                refine vl_iload 5 rfl dX8_nearest_126 ?_
                refine vl_aldr1 (h := 43) (n := 1000) (ni := 1000) n43 (by decide) s43 (by decide) rfl g23 dX8_nearest_128 ?_
                refine vl_istore (fun v26 => [(7, vl_iv v26), (6, vl_iv v25), (0, .ref 23), (1, vl_iv a1), (2, vl_iv a2), (4, vl_iv v17), (5, vl_iv v21)]) dX8_nearest_129 (by decide) (fun _ => rfl) hE (fun v26 hE => ?_)
                refine vl_aload_n 2 rfl dX8_nearest_131 ?_
                refine vl_dup rfl dX8_nearest_132 ?_
                refine vl_getIr (h := 23) (k0 := 37) (ki := 37) iu_X8 n23 (by decide) s23 rfl (by decide) fk_X8_241 rfl rfl dX8_nearest_133 ?_
                refine vl_iconst dX8_nearest_136 ?_
                refine vl_isub dX8_nearest_137 ?_
                refine vl_putIr (h := 23) (k0 := 37) (ki := 37) iu_X8 tyX8_ok nmX8 n23 (by decide) s23 rfl (by decide) fk_X8_241 rfl rfl rfl (vl_nI _) dX8_nearest_138 hE (fun m27 hE => ?_)
                refine vl_aload_n 2 rfl dX8_nearest_141 ?_
                refine vl_getR (h := 23) (k0 := 35) (h2 := 42) iu_X8 n23 s23 rfl (by decide) fk_X8_68 rfl dX8_nearest_142 ?_
                refine vl_iload 6 rfl dX8_nearest_145 ?_
                refine vl_aload_n 2 rfl dX8_nearest_147 ?_
                refine vl_getR (h := 23) (k0 := 35) (h2 := 42) iu_X8 n23 s23 rfl (by decide) fk_X8_68 rfl dX8_nearest_148 ?_
                refine vl_aload_n 2 rfl dX8_nearest_151 ?_
                refine vl_getIr (h := 23) (k0 := 37) (ki := 37) iu_X8 n23 (by decide) s23 rfl (by decide) fk_X8_241 rfl rfl dX8_nearest_152 ?_
                refine vl_aldr (h := 42) (n := 1000) (ni := 1000) n42 (by decide) s42 (by decide) rfl dX8_nearest_155 hE (fun g28 g29 hE => ?_)
                refine vl_astr1 (h := 42) (n := 1000) (ni := 1000) n42 (by decide) s42 (by decide) rfl g23 dX8_nearest_156 hE (fun m30 hE => ?_)
                refine vl_aload_n 2 rfl dX8_nearest_157 ?_
                refine vl_getR (h := 23) (k0 := 36) (h2 := 43) iu_X8 n23 s23 rfl (by decide) fk_X8_71 rfl dX8_nearest_158 ?_
                refine vl_iload 6 rfl dX8_nearest_161 ?_
                refine vl_aload_n 2 rfl dX8_nearest_163 ?_
                refine vl_getR (h := 23) (k0 := 36) (h2 := 43) iu_X8 n23 s23 rfl (by decide) fk_X8_71 rfl dX8_nearest_164 ?_
                refine vl_aload_n 2 rfl dX8_nearest_167 ?_
                refine vl_getIr (h := 23) (k0 := 37) (ki := 37) iu_X8 n23 (by decide) s23 rfl (by decide) fk_X8_241 rfl rfl dX8_nearest_168 ?_
                refine vl_aldr (h := 43) (n := 1000) (ni := 1000) n43 (by decide) s43 (by decide) rfl dX8_nearest_171 hE (fun g31 g32 hE => ?_)
                refine vl_astr1 (h := 43) (n := 1000) (ni := 1000) n43 (by decide) s43 (by decide) rfl g23 dX8_nearest_172 hE (fun m33 hE => ?_)
                refine vl_iload 0 rfl dX8_nearest_173 ?_
                obtain ⟨g34, hE⟩ := vl_ok_gd hE
                refine vl_if_ge (tgt := 215) dX8_nearest_175 (by decide) g34  hE (fun c62 hE => ?_) (fun c62 hE => ?_)
                · refine vl_aload_n 2 rfl dX8_nearest_215 ?_
                  refine vl_dup rfl dX8_nearest_216 ?_
                  refine vl_getIr (h := 23) (k0 := 27) (ki := 27) iu_X8 n23 (by decide) s23 rfl (by decide) fk_X8_238 rfl rfl dX8_nearest_217 ?_
                  refine vl_iconst dX8_nearest_220 ?_
                  refine vl_iadd dX8_nearest_221 ?_
                  refine vl_putIr (h := 23) (k0 := 27) (ki := 27) iu_X8 tyX8_ok nmX8 n23 (by decide) s23 rfl (by decide) fk_X8_238 rfl rfl rfl (vl_nI _) dX8_nearest_222 hE (fun m35 hE => ?_)
                  refine vl_iconst dX8_nearest_225 ?_
                  refine vl_istore0 (lv' := [(8, vl_iv 0), (7, vl_iv v26), (6, vl_iv v25), (0, .ref 23), (1, vl_iv a1), (2, vl_iv a2), (4, vl_iv v17), (5, vl_iv v21)]) dX8_nearest_226 (by decide) rfl ?_
                  refine vl_lpr (F := fun κ : Int → vl_M → Option (Int × vl_M) => fn_X8_nearest_L228 N a1 a2 v17 v25 v26 κ N 0 m35) (J := fun κ => ∀ (v38 : Int) (m39 : vl_M), vl_ok P (κ v38 m39) → vl_V nc S sc kX8_nearest d Post 286 [(0, .ref 23), (1, vl_iv a1), (2, vl_iv a2), (4, vl_iv v17)] [] μ m39) ?_ hE (fun κ hκ22837 hE => ?_)
                  · intro v38 m39 hE
                    refine vl_goto (tgt := 70) dX8_nearest_286 (by decide) ?_
                    exact (ih70_ v17 m39 hE)
                  have hL228_ : ∀ (n : Nat) (v36 : Int) (m37 : vl_M), vl_ok P (fn_X8_nearest_L228 N a1 a2 v17 v25 v26 κ n v36 m37) → vl_V nc S sc kX8_nearest d Post 228 [(0, .ref 23), (1, vl_iv a1), (2, vl_iv a2), (4, vl_iv v17), (6, vl_iv v25), (7, vl_iv v26), (8, vl_iv v36)] [] μ m37 := by
                    intro n
                    induction n with
                    | zero => intro v36 m37 hE; exact vl_no hE
                    | succ n ih228_ =>
                      intro v36 m37 hE
                      rw [fn_X8_nearest_L228] at hE
                      refine vl_iload 6 rfl dX8_nearest_228 ?_
                      refine vl_aload_n 0 rfl dX8_nearest_230 ?_
                      refine vl_getR (h := 23) (k0 := 7) (h2 := 27) iu_X8 n23 s23 rfl (by decide) fk_X8_23 rfl dX8_nearest_231 ?_
                      refine vl_iload 4 rfl dX8_nearest_234 ?_
                      refine vl_aldr (h := 27) (n := 500) (ni := 500) n27 (by decide) s27 (by decide) rfl dX8_nearest_236 hE (fun g40 g41 hE => ?_)
                      obtain ⟨g42, hE⟩ := vl_ok_gd hE
                      obtain ⟨g43, hE⟩ := vl_ok_gd hE
                      refine vl_icmp_ge (tgt := 286) dX8_nearest_237 (by decide) g42 g43 hE (fun c53 hE => ?_) (fun c53 hE => ?_)
                      · exact vl_wk [0, 1, 2, 3] rfl (hκ22837 v36 m37 hE)
                      · refine vl_aload_n 0 rfl dX8_nearest_240 ?_
                        refine vl_getR (h := 23) (k0 := 35) (h2 := 42) iu_X8 n23 s23 rfl (by decide) fk_X8_68 rfl dX8_nearest_241 ?_
                        refine vl_aload_n 0 rfl dX8_nearest_244 ?_
                        refine vl_getIr (h := 23) (k0 := 37) (ki := 37) iu_X8 n23 (by decide) s23 rfl (by decide) fk_X8_241 rfl rfl dX8_nearest_245 ?_
                        refine vl_aload_n 0 rfl dX8_nearest_248 ?_
                        refine vl_iload 4 rfl dX8_nearest_249 ?_
                        refine vl_iload 6 rfl dX8_nearest_251 ?_
                        refine vl_VpI (K' := kX8_heldBy) (d' := 0) (h := 23) (As := [vl_iv v25, vl_iv v36]) (st := [vl_iv (m37 23 37), .ref 42]) lk_X8_115 (fun _ => rfl) (by omega) n23 s23 rfl rfl (Nat.le_of_ble_eq_true rfl) rfl (Nat.le_of_ble_eq_true rfl) dX8_nearest_253 hE (fun _ h => vx_X8_heldBy hG (Nat.le_refl _) h) (fun b44 hE => ?_)
                        refine vl_astr (h := 42) (n := 1000) (ni := 1000) n42 (by decide) s42 (by decide) rfl dX8_nearest_256 hE (fun g46 g47 m45 hE => ?_)
                        refine vl_aload_n 0 rfl dX8_nearest_257 ?_
                        refine vl_getR (h := 23) (k0 := 36) (h2 := 43) iu_X8 n23 s23 rfl (by decide) fk_X8_71 rfl dX8_nearest_258 ?_
                        refine vl_aload_n 0 rfl dX8_nearest_261 ?_
                        refine vl_getIr (h := 23) (k0 := 37) (ki := 37) iu_X8 n23 (by decide) s23 rfl (by decide) fk_X8_241 rfl rfl dX8_nearest_262 ?_
                        refine vl_iload 5 rfl dX8_nearest_265 ?_
                        refine vl_iconst dX8_nearest_267 ?_
                        refine vl_isub dX8_nearest_268 ?_
                        refine vl_astr (h := 43) (n := 1000) (ni := 1000) n43 (by decide) s43 (by decide) rfl dX8_nearest_269 hE (fun g49 g50 m48 hE => ?_)
                        refine vl_aload_n 0 rfl dX8_nearest_270 ?_
                        refine vl_dup rfl dX8_nearest_271 ?_
                        refine vl_getIr (h := 23) (k0 := 37) (ki := 37) iu_X8 n23 (by decide) s23 rfl (by decide) fk_X8_241 rfl rfl dX8_nearest_272 ?_
                        refine vl_iconst dX8_nearest_275 ?_
                        refine vl_iadd dX8_nearest_276 ?_
                        refine vl_putIr (h := 23) (k0 := 37) (ki := 37) iu_X8 tyX8_ok nmX8 n23 (by decide) s23 rfl (by decide) fk_X8_241 rfl rfl rfl (vl_nI _) dX8_nearest_277 hE (fun m51 hE => ?_)
                        refine vl_iinc 6 (fun v52 => [(8, vl_iv v52), (0, .ref 23), (1, vl_iv a1), (2, vl_iv a2), (4, vl_iv v17), (6, vl_iv v25), (7, vl_iv v26)]) dX8_nearest_280 rfl (by decide) (fun _ => rfl) hE (fun v52 hE => ?_)
                        refine vl_goto (tgt := 228) dX8_nearest_283 (by decide) ?_
                        exact vl_wk [1, 2, 3, 4, 5, 6, 0] rfl (ih228_ v52 m51 hE)
                  exact vl_wk [3, 4, 5, 6, 2, 1, 0] rfl (hL228_ N 0 m35 hE)
                · refine vl_iload 5 rfl dX8_nearest_178 ?_
                  obtain ⟨g54, hE⟩ := vl_ok_gd hE
                  refine vl_if_ne (tgt := 209) dX8_nearest_180 (by decide) g54  hE (fun c61 hE => ?_) (fun c61 hE => ?_)
                  · refine vl_iinc 5 (fun v55 => [(4, vl_iv v55), (7, vl_iv v26), (6, vl_iv v25), (0, .ref 23), (1, vl_iv a1), (2, vl_iv a2), (5, vl_iv v21)]) dX8_nearest_209 rfl (by decide) (fun _ => rfl) hE (fun v55 hE => ?_)
                    refine vl_goto (tgt := 286) dX8_nearest_212 (by decide) ?_
                    refine vl_goto (tgt := 70) dX8_nearest_286 (by decide) ?_
                    exact vl_wk [3, 4, 5, 0] rfl (ih70_ v55 m33 hE)
                  · refine vl_aload_n 2 rfl dX8_nearest_183 ?_
                    refine vl_iconst dX8_nearest_184 ?_
                    refine vl_putIr (h := 23) (k0 := 28) (ki := 28) iu_X8 tyX8_ok nmX8 n23 (by decide) s23 rfl (by decide) fk_X8_247 rfl rfl rfl (vl_nZ (by decide)) dX8_nearest_185 hE (fun m56 hE => ?_)
                    refine vl_aload_n 2 rfl dX8_nearest_188 ?_
                    refine vl_aload_n 2 rfl dX8_nearest_189 ?_
                    refine vl_iconst dX8_nearest_190 ?_
                    refine vl_iload 1 rfl dX8_nearest_191 ?_
                    refine vl_iload_n 3 rfl dX8_nearest_193 ?_
                    refine vl_iload_n 4 rfl dX8_nearest_194 ?_
                    refine vl_VpJ (K' := kX8_far) (d' := 1) (h := 23) (As := [vl_iv (-1), vl_iv v25, vl_iv a1, vl_iv a2]) (st := [.ref 23]) lk_X8_228 (fun _ => rfl) (by omega) n23 s23 rfl rfl (Nat.le_of_ble_eq_true rfl) rfl (Nat.le_of_ble_eq_true rfl) dX8_nearest_195 hE (fun _ h => vx_X8_far hG (Nat.le_refl _) h) (fun b57 hE => ?_)
                    refine vl_putJr (h := 23) (k0 := 29) (ki := 29) iu_X8 tyX8_ok nmX8 n23 (by decide) s23 rfl (by decide) fk_X8_250 rfl rfl rfl (vl_nJ _) dX8_nearest_198 hE (fun m58 hE => ?_)
                    refine vl_aload_n 2 rfl dX8_nearest_201 ?_
                    refine vl_getR (h := 23) (k0 := 3) (h2 := 24) iu_X8 n23 s23 rfl (by decide) fk_X8_13 rfl dX8_nearest_202 ?_
                    refine vl_iload 1 rfl dX8_nearest_205 ?_
                    refine vl_aldr (h := 24) (n := 401) (ni := 401) n24 (by decide) s24 (by decide) rfl dX8_nearest_207 hE (fun g59 g60 hE => ?_)
                    exact vl_ret (r := (m58 24 v25)) rfl dX8_nearest_208 hE (hP' ((m58 24 v25), m58))
              have hL76_ : ∀ (n : Nat) (v19 : Int) (v20 : Int), vl_ok P (fn_X8_nearest_L76 N m18 a1 a2 v17 κ n v19 v20) → vl_V nc S sc kX8_nearest d Post 76 [(0, .ref 23), (1, vl_iv a1), (2, vl_iv a2), (4, vl_iv v17), (5, vl_iv v19), (6, vl_iv v20)] [] μ m18 := by
                intro n
                induction n with
                | zero => intro v19 v20 hE; exact vl_no hE
                | succ n ih76_ =>
                  intro v19 v20 hE
                  rw [fn_X8_nearest_L76] at hE
                  refine vl_iload 5 rfl dX8_nearest_76 ?_
                  refine vl_aload_n 0 rfl dX8_nearest_78 ?_
                  refine vl_getIr (h := 23) (k0 := 37) (ki := 37) iu_X8 n23 (by decide) s23 rfl (by decide) fk_X8_241 rfl rfl dX8_nearest_79 ?_
                  obtain ⟨g63, hE⟩ := vl_ok_gd hE
                  obtain ⟨g64, hE⟩ := vl_ok_gd hE
                  refine vl_icmp_ge (tgt := 113) dX8_nearest_82 (by decide) g63 g64 hE (fun c71 hE => ?_) (fun c71 hE => ?_)
                  · exact vl_wk [0, 1, 2, 3, 4] rfl (hκL7620 v19 v20 hE)
                  · refine vl_aload_n 0 rfl dX8_nearest_85 ?_
                    refine vl_iload 5 rfl dX8_nearest_86 ?_
                    refine vl_iload 4 rfl dX8_nearest_88 ?_
                    refine vl_iload_n 1 rfl dX8_nearest_90 ?_
                    refine vl_iload_n 2 rfl dX8_nearest_91 ?_
                    refine vl_VpI (K' := kX8_isNearer) (d' := 2) (h := 23) (As := [vl_iv v20, vl_iv v19, vl_iv a1, vl_iv a2]) (st := []) lk_X8_244 (fun _ => rfl) (by omega) n23 s23 rfl rfl (Nat.le_of_ble_eq_true rfl) rfl (Nat.le_of_ble_eq_true rfl) dX8_nearest_92 hE (fun _ h => vx_X8_isNearer hG (Nat.le_refl _) h) (fun b65 hE => ?_)
                    obtain ⟨g66, hE⟩ := vl_ok_gd hE
                    refine vl_jnr (J := fun κ : Int → Option (Int × vl_M) => ∀ (v67 : Int), vl_ok P (κ v67) → vl_V nc S sc kX8_nearest d Post 105 [(0, .ref 23), (1, vl_iv a1), (2, vl_iv a2), (4, vl_iv v17), (6, vl_iv v20)] [vl_iv v67] μ m18) ?_ hE (fun κ68 hκ68 hE => ?_)
                    · intro v67 hE
                      refine vl_istore0 (lv' := [(5, vl_iv v67), (0, .ref 23), (1, vl_iv a1), (2, vl_iv a2), (4, vl_iv v17), (6, vl_iv v20)]) dX8_nearest_105 (by decide) rfl ?_
                      refine vl_iinc 5 (fun v69 => [(6, vl_iv v69), (5, vl_iv v67), (0, .ref 23), (1, vl_iv a1), (2, vl_iv a2), (4, vl_iv v17)]) dX8_nearest_107 rfl (by decide) (fun _ => rfl) hE (fun v69 hE => ?_)
                      refine vl_goto (tgt := 76) dX8_nearest_110 (by decide) ?_
                      exact vl_wk [2, 3, 4, 5, 1, 0] rfl (ih76_ v67 v69 hE)
                    refine vl_if_eq (tgt := 103) dX8_nearest_95 (by decide) g66  hE (fun c70 hE => ?_) (fun c70 hE => ?_)
                    · refine vl_iload 4 rfl dX8_nearest_103 ?_
                      exact vl_wk [0, 1, 2, 3, 5] rfl (hκ68 v19 hE)
                    · refine vl_iload 5 rfl dX8_nearest_98 ?_
                      refine vl_goto (tgt := 105) dX8_nearest_100 (by decide) ?_
                      exact vl_wk [0, 1, 2, 3, 5] rfl (hκ68 v20 hE)
              exact vl_wk [2, 3, 4, 5, 1, 0] rfl (hL76_ N 0 1 hE)
          exact vl_wk [1, 2, 3, 0] rfl (hL70_ N a3 m16 hE)
        · refine vl_iconst dX8_nearest_26 ?_
          exact vl_ret (r := (-1)) rfl dX8_nearest_27 hE (hP' ((-1), m))
set_option maxRecDepth 100000 in
set_option maxHeartbeats 4000000 in
theorem vx_X8_node_ {nc : Nat} {S : vl_Sh} {sc : Nat × (Nat → Int32)} (hG : vl_G3 nc S) {N : Nat} {d : Nat} (hd : 63 ≤ d) {Post : Int → vl_M → vl_M → Prop} {μ m : vl_M} {a1 a2 : Int} (hE : vl_ok (fun b : Int × vl_M => Post b.1 μ b.2) (fn_X8_node_ N m a1 a2)) : vl_V nc S sc kX8_node_ d Post 0 [(0, .ref 23), (1, vl_iv a1), (2, vl_iv a2)] [] μ m := by
  generalize hP : (fun b : Int × vl_M => Post b.1 μ b.2) = P at hE
  have hP' : ∀ b : Int × vl_M, P b → Post b.1 μ b.2 := fun b h => by rw [← hP] at h; exact h
  clear hP
  have s23 : S 23 = .inr (8, [0, 0, 0, 27, 28, 0, 29, 30, 31, 32, 33, 0, 0, 0, 0, 34, 35, 0, 36, 0, 0, 37, 38, 39, 0, 0, 0, 0, 0, 1, 40, 41, 42, 43, 44, 45, 46, 0, 47, 48, 49]) := hG.2 23 (by decide) (by decide)
  have n23 : 23 < nc := Nat.lt_of_lt_of_le (by decide) hG.1
  have s26 : S 26 = .inl 500 := hG.2 26 (by decide) (by decide)
  have n26 : 26 < nc := Nat.lt_of_lt_of_le (by decide) hG.1
  have s27 : S 27 = .inl 500 := hG.2 27 (by decide) (by decide)
  have n27 : 27 < nc := Nat.lt_of_lt_of_le (by decide) hG.1
  have s29 : S 29 = .inl 2000 := hG.2 29 (by decide) (by decide)
  have n29 : 29 < nc := Nat.lt_of_lt_of_le (by decide) hG.1
  have s30 : S 30 = .inl 500 := hG.2 30 (by decide) (by decide)
  have n30 : 30 < nc := Nat.lt_of_lt_of_le (by decide) hG.1
  have s33 : S 33 = .inl 500 := hG.2 33 (by decide) (by decide)
  have n33 : 33 < nc := Nat.lt_of_lt_of_le (by decide) hG.1
  have s44 : S 44 = .inl 500 := hG.2 44 (by decide) (by decide)
  have n44 : 44 < nc := Nat.lt_of_lt_of_le (by decide) hG.1
  unfold fn_X8_node_ at hE
  refine vl_aload_n 0 rfl dX8_node__0 ?_
  refine vl_VrWV (K' := kX8_findOrder) (d' := 62) (h := 23) (As := []) (st := []) lk_X8_235 (fun _ => rfl) (by omega) n23 s23 rfl rfl (Nat.le_of_ble_eq_true rfl) rfl (Nat.le_of_ble_eq_true rfl) dX8_node__1 hE (fun _ h => vx_X8_findOrder hG (Nat.le_refl _) h) (fun m2 hE => ?_)
  refine vl_iload_n 1 rfl dX8_node__4 ?_
  obtain ⟨g3, hE⟩ := vl_ok_gd hE
  refine vl_if_lt (tgt := 26) dX8_node__5 (by decide) g3  hE (fun c34 hE => ?_) (fun c34 hE => ?_)
  · refine vl_iconst dX8_node__26 ?_
    exact vl_ret (r := (-1)) rfl dX8_node__27 hE (hP' ((-1), m2))
  · refine vl_iload_n 1 rfl dX8_node__8 ?_
    refine vl_aload_n 0 rfl dX8_node__9 ?_
    refine vl_getIr (h := 23) (k0 := 19) (ki := 19) iu_X8 n23 (by decide) s23 rfl (by decide) fk_X8_222 rfl rfl dX8_node__10 ?_
    obtain ⟨g4, hE⟩ := vl_ok_gd hE
    refine vl_icmp_ge (tgt := 26) dX8_node__13 (by decide) g3 g4 hE (fun c33 hE => ?_) (fun c33 hE => ?_)
    · refine vl_iconst dX8_node__26 ?_
      exact vl_ret (r := (-1)) rfl dX8_node__27 hE (hP' ((-1), m2))
    · refine vl_iload_n 2 rfl dX8_node__16 ?_
      obtain ⟨g5, hE⟩ := vl_ok_gd hE
      refine vl_if_lt (tgt := 26) dX8_node__17 (by decide) g5  hE (fun c32 hE => ?_) (fun c32 hE => ?_)
      · refine vl_iconst dX8_node__26 ?_
        exact vl_ret (r := (-1)) rfl dX8_node__27 hE (hP' ((-1), m2))
      · refine vl_iload_n 2 rfl dX8_node__20 ?_
        refine vl_bipush (by decide) dX8_node__21 ?_
        refine vl_icmp_le (tgt := 28) dX8_node__23 (by decide) g5 (by decide) hE (fun c31 hE => ?_) (fun c31 hE => ?_)
        · refine vl_aload_n 0 rfl dX8_node__28 ?_
          refine vl_getR (h := 23) (k0 := 18) (h2 := 33) iu_X8 n23 s23 rfl (by decide) fk_X8_41 rfl dX8_node__29 ?_
          refine vl_iload_n 1 rfl dX8_node__32 ?_
          refine vl_aldr (h := 33) (n := 500) (ni := 500) n33 (by decide) s33 (by decide) rfl dX8_node__33 hE (fun g6 g7 hE => ?_)
          refine vl_istore_n rfl (fun v8 => [(3, vl_iv v8), (0, .ref 23), (1, vl_iv a1), (2, vl_iv a2)]) dX8_node__34 (by decide) (fun _ => rfl) hE (fun v8 hE => ?_)
          refine vl_iload_n 3 rfl dX8_node__35 ?_
          refine vl_iconst dX8_node__36 ?_
          refine vl_jnr (J := fun κ : Unit → Option (Int × vl_M) => ∀ (u_κ9 : Unit), vl_ok P (κ u_κ9) → vl_V nc S sc kX8_node_ d Post 72 [(0, .ref 23), (2, vl_iv a2), (3, vl_iv v8)] [] μ m2) ?_ hE (fun κ9 hκ9 hE => ?_)
          · intro u_κ9 hE
            refine vl_iload_n 1 rfl dX8_node__72 ?_
            refine vl_if_ne (tgt := 85) dX8_node__73 (by decide) g5  hE (fun c22 hE => ?_) (fun c22 hE => ?_)
            · refine vl_iload_n 1 rfl dX8_node__85 ?_
              refine vl_iconst dX8_node__86 ?_
              refine vl_icmp_ne (tgt := 99) dX8_node__87 (by decide) g5 (by decide) hE (fun c19 hE => ?_) (fun c19 hE => ?_)
              · refine vl_iload_n 2 rfl dX8_node__99 ?_
                refine vl_aload_n 0 rfl dX8_node__100 ?_
                refine vl_getIr (h := 23) (k0 := 11) (ki := 11) iu_X8 n23 (by decide) s23 rfl (by decide) fk_X8_93 rfl rfl dX8_node__101 ?_
                obtain ⟨g10, hE⟩ := vl_ok_gd hE
                obtain ⟨g11, hE⟩ := vl_ok_gd hE
                refine vl_icmp_ne (tgt := 112) dX8_node__104 (by decide) g10 g11 hE (fun c16 hE => ?_) (fun c16 hE => ?_)
                · refine vl_aload_n 0 rfl dX8_node__112 ?_
                  refine vl_getR (h := 23) (k0 := 38) (h2 := 44) iu_X8 n23 s23 rfl (by decide) fk_X8_74 rfl dX8_node__113 ?_
                  refine vl_aload_n 0 rfl dX8_node__116 ?_
                  refine vl_getR (h := 23) (k0 := 10) (h2 := 30) iu_X8 n23 s23 rfl (by decide) fk_X8_32 rfl dX8_node__117 ?_
                  refine vl_iload_n 2 rfl dX8_node__120 ?_
                  refine vl_aldr (h := 30) (n := 500) (ni := 500) n30 (by decide) s30 (by decide) rfl dX8_node__121 hE (fun g12 g13 hE => ?_)
                  refine vl_aldr (h := 44) (n := 500) (ni := 500) n44 (by decide) s44 (by decide) rfl dX8_node__122 hE (fun g14 g15 hE => ?_)
                  exact vl_ret (r := (m2 44 (m2 30 v8))) rfl dX8_node__123 hE (hP' ((m2 44 (m2 30 v8)), m2))
                · refine vl_bipush (by decide) dX8_node__107 ?_
                  refine vl_goto (tgt := 123) dX8_node__109 (by decide) ?_
                  exact vl_ret (r := (-2)) rfl dX8_node__123 hE (hP' ((-2), m2))
              · refine vl_aload_n 0 rfl dX8_node__90 ?_
                refine vl_getR (h := 23) (k0 := 7) (h2 := 27) iu_X8 n23 s23 rfl (by decide) fk_X8_23 rfl dX8_node__91 ?_
                refine vl_iload_n 2 rfl dX8_node__94 ?_
                refine vl_aldr (h := 27) (n := 500) (ni := 500) n27 (by decide) s27 (by decide) rfl dX8_node__95 hE (fun g17 g18 hE => ?_)
                refine vl_goto (tgt := 123) dX8_node__96 (by decide) ?_
                exact vl_ret (r := (m2 27 v8)) rfl dX8_node__123 hE (hP' ((m2 27 v8), m2))
            · refine vl_aload_n 0 rfl dX8_node__76 ?_
              refine vl_getR (h := 23) (k0 := 6) (h2 := 26) iu_X8 n23 s23 rfl (by decide) fk_X8_20 rfl dX8_node__77 ?_
              refine vl_iload_n 2 rfl dX8_node__80 ?_
              refine vl_aldr (h := 26) (n := 500) (ni := 500) n26 (by decide) s26 (by decide) rfl dX8_node__81 hE (fun g20 g21 hE => ?_)
              refine vl_goto (tgt := 123) dX8_node__82 (by decide) ?_
              exact vl_ret (r := (m2 26 v8)) rfl dX8_node__123 hE (hP' ((m2 26 v8), m2))
          refine vl_icmp_le (tgt := 72) dX8_node__37 (by decide) g5 (by decide) hE (fun c30 hE => ?_) (fun c30 hE => ?_)
          · exact vl_wk [1, 3, 0] rfl (hκ9 () hE)
          · refine vl_iload_n 3 rfl dX8_node__40 ?_
            refine vl_bipush (by decide) dX8_node__41 ?_
            refine vl_icmp_ge (tgt := 72) dX8_node__43 (by decide) g5 (by decide) hE (fun c29 hE => ?_) (fun c29 hE => ?_)
            · exact vl_wk [1, 3, 0] rfl (hκ9 () hE)
            · refine vl_aload_n 1 rfl dX8_node__46 ?_
              refine vl_getR (h := 23) (k0 := 7) (h2 := 27) iu_X8 n23 s23 rfl (by decide) fk_X8_23 rfl dX8_node__47 ?_
              refine vl_iload_n 0 rfl dX8_node__50 ?_
              refine vl_aldr (h := 27) (n := 500) (ni := 500) n27 (by decide) s27 (by decide) rfl dX8_node__51 hE (fun g23 g24 hE => ?_)
              obtain ⟨g25, hE⟩ := vl_ok_gd hE
              refine vl_if_ne (tgt := 59) dX8_node__52 (by decide) g25  hE (fun c28 hE => ?_) (fun c28 hE => ?_)
              · refine vl_aload_n 1 rfl dX8_node__59 ?_
                refine vl_getR (h := 23) (k0 := 9) (h2 := 29) iu_X8 n23 s23 rfl (by decide) fk_X8_29 rfl dX8_node__60 ?_
                refine vl_iconst dX8_node__63 ?_
                refine vl_iload_n 0 rfl dX8_node__64 ?_
                refine vl_imul dX8_node__65 ?_
                refine vl_iload_n 3 rfl dX8_node__66 ?_
                refine vl_iadd dX8_node__67 ?_
                refine vl_iconst dX8_node__68 ?_
                refine vl_isub dX8_node__69 ?_
                refine vl_aldr (h := 29) (n := 2000) (ni := 2000) n29 (by decide) s29 (by decide) rfl dX8_node__70 hE (fun g26 g27 hE => ?_)
                exact vl_ret (r := (m2 29 (((4 * v8) + a2) - 2))) rfl dX8_node__71 hE (hP' ((m2 29 (((4 * v8) + a2) - 2)), m2))
              · refine vl_iconst dX8_node__55 ?_
                refine vl_goto (tgt := 71) dX8_node__56 (by decide) ?_
                exact vl_ret (r := (-1)) rfl dX8_node__71 hE (hP' ((-1), m2))
        · refine vl_iconst dX8_node__26 ?_
          exact vl_ret (r := (-1)) rfl dX8_node__27 hE (hP' ((-1), m2))
set_option maxRecDepth 100000 in
set_option maxHeartbeats 4000000 in
theorem vx_X8_visited {nc : Nat} {S : vl_Sh} {sc : Nat × (Nat → Int32)} (hG : vl_G3 nc S) {N : Nat} {d : Nat} (hd : 63 ≤ d) {Post : Int → vl_M → vl_M → Prop} {μ m : vl_M} {a1 : Int} (hE : vl_ok (fun r : Int => Post r μ m) (fn_X8_visited N m a1)) : vl_V nc S sc kX8_visited d Post 0 [(0, .ref 23), (1, vl_iv a1)] [] μ m := by
  generalize hP : (fun r : Int => Post r μ m) = P at hE
  have hP' : ∀ r : Int, P r → Post r μ m := fun b h => by rw [← hP] at h; exact h
  clear hP
  have s23 : S 23 = .inr (8, [0, 0, 0, 27, 28, 0, 29, 30, 31, 32, 33, 0, 0, 0, 0, 34, 35, 0, 36, 0, 0, 37, 38, 39, 0, 0, 0, 0, 0, 1, 40, 41, 42, 43, 44, 45, 46, 0, 47, 48, 49]) := hG.2 23 (by decide) (by decide)
  have n23 : 23 < nc := Nat.lt_of_lt_of_le (by decide) hG.1
  unfold fn_X8_visited at hE
  refine vl_iload_n 1 rfl dX8_visited_0 ?_
  obtain ⟨g1, hE⟩ := vl_ok_gd hE
  by_cases c2 : a1 = 0
  · rw [if_pos c2] at hE
    refine vl_tabIn (off := 27) (tgt := 28) dX8_visited_1 g1 (by omega) (by omega) (by rw [c2]; rfl) (by decide) ?_
    refine vl_aload_n 0 rfl dX8_visited_28 ?_
    refine vl_getIr (h := 23) (k0 := 20) (ki := 20) iu_X8 n23 (by decide) s23 rfl (by decide) fk_X8_184 rfl rfl dX8_visited_29 ?_
    obtain ⟨g3, hE⟩ := vl_ok_gd hE
    refine vl_if_eq (tgt := 42) dX8_visited_32 (by decide) g3  hE (fun c4 hE => ?_) (fun c4 hE => ?_)
    · refine vl_iconst dX8_visited_42 ?_
      exact vl_ret (r := (-1)) rfl dX8_visited_43 hE (hP' (-1))
    · refine vl_aload_n 0 rfl dX8_visited_35 ?_
      refine vl_getIr (h := 23) (k0 := 26) (ki := 26) iu_X8 n23 (by decide) s23 rfl (by decide) fk_X8_212 rfl rfl dX8_visited_36 ?_
      refine vl_goto (tgt := 43) dX8_visited_39 (by decide) ?_
      exact vl_ret (r := (m 23 26)) rfl dX8_visited_43 hE (hP' (m 23 26))
  · rw [if_neg c2] at hE
    by_cases c5 : a1 = 1
    · rw [if_pos c5] at hE
      refine vl_tabIn (off := 43) (tgt := 44) dX8_visited_1 g1 (by omega) (by omega) (by rw [c5]; rfl) (by decide) ?_
      refine vl_aload_n 0 rfl dX8_visited_44 ?_
      refine vl_getIr (h := 23) (k0 := 27) (ki := 27) iu_X8 n23 (by decide) s23 rfl (by decide) fk_X8_238 rfl rfl dX8_visited_45 ?_
      exact vl_ret (r := (m 23 27)) rfl dX8_visited_48 hE (hP' (m 23 27))
    · rw [if_neg c5] at hE
      by_cases c6 : a1 = 2
      · rw [if_pos c6] at hE
        refine vl_tabIn (off := 48) (tgt := 49) dX8_visited_1 g1 (by omega) (by omega) (by rw [c6]; rfl) (by decide) ?_
        refine vl_aload_n 0 rfl dX8_visited_49 ?_
        refine vl_aload_n 0 rfl dX8_visited_50 ?_
        refine vl_getIr (h := 23) (k0 := 11) (ki := 11) iu_X8 n23 (by decide) s23 rfl (by decide) fk_X8_93 rfl rfl dX8_visited_51 ?_
        refine vl_aload_n 0 rfl dX8_visited_54 ?_
        refine vl_getIr (h := 23) (k0 := 11) (ki := 11) iu_X8 n23 (by decide) s23 rfl (by decide) fk_X8_93 rfl rfl dX8_visited_55 ?_
        refine vl_VpI (K' := kX8_pairsOf) (d' := (2 + 60)) (h := 23) (As := [vl_iv (m 23 11), vl_iv (m 23 11)]) (st := []) lk_X8_257 (fun _ => rfl) (by omega) n23 s23 rfl rfl (Nat.le_of_ble_eq_true rfl) rfl (Nat.le_of_ble_eq_true rfl) dX8_visited_58 hE (fun _ h => vx_X8_pairsOf hG 60 (Nat.le_refl _) h) (fun b7 hE => ?_)
        exact vl_ret (r := b7) rfl dX8_visited_61 hE (hP' (b7))
      · rw [if_neg c6] at hE
        refine vl_tabOut (tgt := 62) dX8_visited_1 g1 (by omega) (by decide) ?_
        refine vl_iconst dX8_visited_62 ?_
        exact vl_ret (r := (-1)) rfl dX8_visited_63 hE (hP' (-1))
