set_option maxRecDepth 100000 in
set_option maxHeartbeats 4000000 in
theorem vx_L_law {nc : Nat} {S : vl_Sh} {sc : Nat × (Nat → Int32)} {w : Nat} (hG2 : vl_G2 nc S w) (hG3 : vl_G3 nc S) (hsc : sc.1 ≤ 2147483648) {N : Nat} {d : Nat} (hd : 66 ≤ d) {P : Int → Prop} {m r : vl_M} (hE : vl_ok P (fn_L_law sc w N m r)) : vl_V nc S sc kL_law d (fun a _ _ => P a) 36 [(0, .ref 101), (1, .ref 0), (2, .ref 23)] [] m r := by
  have s0 : S 0 = .inr (7, [4, 14, 19, 21, 22, 25]) := hG2.2.1 0 (by decide) (by decide)
  have n0 : 0 < nc := Nat.lt_of_lt_of_le (by decide) hG2.1
  have s23 : S 23 = .inr (8, [0, 0, 0, 27, 28, 0, 29, 30, 31, 32, 33, 0, 0, 0, 0, 34, 35, 0, 36, 0, 0, 37, 38, 39, 0, 0, 0, 0, 0, 1, 40, 41, 42, 43, 44, 45, 46, 0, 47, 48, 49]) := hG3.2 23 (by decide) (by decide)
  have n23 : 23 < nc := Nat.lt_of_lt_of_le (by decide) hG3.1
  have hP' : ∀ b : Int, P b → P b := fun _ h => h
  unfold fn_L_law at hE
  refine vl_iconst dL_law_36 ?_
  refine vl_istore_n0 rfl (lv' := [(3, vl_iv 2), (0, .ref 101), (1, .ref 0), (2, .ref 23)]) dL_law_37 (by decide) rfl ?_
  refine vl_lpr (F := fun κ : Int → vl_M → vl_M → Option (Int) => fn_L_law_L38 sc w N  κ N 2 m r) (J := fun κ => ∀ (v4 : Int) (m5 : vl_M) (m6 : vl_M), vl_ok P (κ v4 m5 m6) → vl_V nc S sc kL_law d (fun a _ _ => P a) 609 [] [] m5 m6) ?_ hE (fun κ hκL383 hE => ?_)
  · intro v4 m5 m6 hE
    refine vl_iconst dL_law_609 ?_
    exact vl_ret (r := 1) rfl ⟨dL_law_610, by decide⟩ hE (hP' (1))
  have hL38_ : ∀ (n : Nat) (v1 : Int) (m2 : vl_M) (m3 : vl_M), vl_ok P (fn_L_law_L38 sc w N  κ n v1 m2 m3) → vl_V nc S sc kL_law d (fun a _ _ => P a) 38 [(0, .ref 101), (1, .ref 0), (2, .ref 23), (3, vl_iv v1)] [] m2 m3 := by
    intro n
    induction n with
    | zero => intro v1 m2 m3 hE; exact vl_no hE
    | succ n ih38_ =>
      intro v1 m2 m3 hE
      rw [fn_L_law_L38] at hE
      refine vl_iload_n 3 rfl dL_law_38 ?_
      refine vl_aload_n 0 rfl dL_law_39 ?_
      refine vl_scLen dL_law_40 ?_
      refine vl_bipush (by decide) dL_law_41 ?_
      refine vl_isub dL_law_43 ?_
      obtain ⟨g7, hE⟩ := vl_ok_gd hE
      obtain ⟨g8, hE⟩ := vl_ok_gd hE
      refine vl_icmp_gt (tgt := 609) dL_law_44 (by decide) g7 g8 hE (fun c250 hE => ?_) (fun c250 hE => ?_)
      · exact vl_wk [] rfl (hκL383 v1 m2 m3 hE)
      · refine vl_aload_n 0 rfl dL_law_47 ?_
        refine vl_iload_n 3 rfl dL_law_48 ?_
        refine vl_scLd hsc dL_law_49 hE (fun g9 g10 hE => ?_)
        refine vl_bipush (by decide) dL_law_50 ?_
        refine vl_iand15 dL_law_52 ?_
        obtain ⟨g11, hE⟩ := vl_ok_gd hE
        by_cases c13 : ((vl_sc sc v1) % 16) = 0
        · rw [if_pos c13] at hE
          refine vl_tabIn (off := 75) (tgt := 128) dL_law_53 g11 (by omega) (by omega) (by rw [c13]; rfl) (by decide) ?_
          refine vl_aload_n 1 rfl dL_law_128 ?_
          refine vl_aload_n 0 rfl dL_law_129 ?_
          refine vl_iload_n 3 rfl dL_law_130 ?_
          refine vl_iconst dL_law_131 ?_
          refine vl_iadd dL_law_132 ?_
          refine vl_scLd hsc dL_law_133 hE (fun g14 g15 hE => ?_)
          refine vl_aload_n 0 rfl dL_law_134 ?_
          refine vl_iload_n 3 rfl dL_law_135 ?_
          refine vl_iconst dL_law_136 ?_
          refine vl_iadd dL_law_137 ?_
          refine vl_scLd hsc dL_law_138 hE (fun g16 g17 hE => ?_)
          refine vl_aload_n 0 rfl dL_law_139 ?_
          refine vl_iload_n 3 rfl dL_law_140 ?_
          refine vl_iconst dL_law_141 ?_
          refine vl_iadd dL_law_142 ?_
          refine vl_scLd hsc dL_law_143 hE (fun g18 g19 hE => ?_)
          refine vl_aload_n 0 rfl dL_law_144 ?_
          refine vl_iload_n 3 rfl dL_law_145 ?_
          refine vl_iconst dL_law_146 ?_
          refine vl_iadd dL_law_147 ?_
          refine vl_scLd hsc dL_law_148 hE (fun g20 g21 hE => ?_)
          refine vl_aload_n 0 rfl dL_law_149 ?_
          refine vl_iload_n 3 rfl dL_law_150 ?_
          refine vl_iconst dL_law_151 ?_
          refine vl_iadd dL_law_152 ?_
          refine vl_scLd hsc dL_law_153 hE (fun g22 g23 hE => ?_)
          refine vl_VcWI (K' := kX7_insert) (d' := 63) (h := 0) (As := [vl_iv (vl_sc sc (v1 + 1)), vl_iv (vl_sc sc (v1 + 2)), vl_iv (vl_sc sc (v1 + 3)), vl_iv (vl_sc sc (v1 + 4)), vl_iv (vl_sc sc (v1 + 5))]) (st := []) lk_L_21 (fun _ => rfl) (by omega) n0 s0 rfl rfl (Nat.le_of_ble_eq_true rfl) rfl (Nat.le_of_ble_eq_true rfl) dL_law_154 hE (fun _ h => vx_X7_insert hG2 (Nat.le_refl _) h) (fun b24 m25 hE => ?_)
          refine vl_aload_n 2 rfl dL_law_157 ?_
          refine vl_aload_n 0 rfl dL_law_158 ?_
          refine vl_iload_n 3 rfl dL_law_159 ?_
          refine vl_iconst dL_law_160 ?_
          refine vl_iadd dL_law_161 ?_
          refine vl_scLd hsc dL_law_162 hE (fun g26 g27 hE => ?_)
          refine vl_aload_n 0 rfl dL_law_163 ?_
          refine vl_iload_n 3 rfl dL_law_164 ?_
          refine vl_iconst dL_law_165 ?_
          refine vl_iadd dL_law_166 ?_
          refine vl_scLd hsc dL_law_167 hE (fun g28 g29 hE => ?_)
          refine vl_aload_n 0 rfl dL_law_168 ?_
          refine vl_iload_n 3 rfl dL_law_169 ?_
          refine vl_iconst dL_law_170 ?_
          refine vl_iadd dL_law_171 ?_
          refine vl_scLd hsc dL_law_172 hE (fun g30 g31 hE => ?_)
          refine vl_aload_n 0 rfl dL_law_173 ?_
          refine vl_iload_n 3 rfl dL_law_174 ?_
          refine vl_iconst dL_law_175 ?_
          refine vl_iadd dL_law_176 ?_
          refine vl_scLd hsc dL_law_177 hE (fun g32 g33 hE => ?_)
          refine vl_aload_n 0 rfl dL_law_178 ?_
          refine vl_iload_n 3 rfl dL_law_179 ?_
          refine vl_iconst dL_law_180 ?_
          refine vl_iadd dL_law_181 ?_
          refine vl_scLd hsc dL_law_182 hE (fun g34 g35 hE => ?_)
          refine vl_VrWI (K' := kX8_insert) (d' := 6) (h := 23) (As := [vl_iv (vl_sc sc (v1 + 1)), vl_iv (vl_sc sc (v1 + 2)), vl_iv (vl_sc sc (v1 + 3)), vl_iv (vl_sc sc (v1 + 4)), vl_iv (vl_sc sc (v1 + 5))]) (st := [vl_iv b24]) lk_L_25 (fun _ => rfl) (by omega) n23 s23 rfl rfl (Nat.le_of_ble_eq_true rfl) rfl (Nat.le_of_ble_eq_true rfl) dL_law_183 hE (fun _ h => vx_X8_insert hG3 (Nat.le_refl _) h) (fun b36 m37 hE => ?_)
          obtain ⟨g38, hE⟩ := vl_ok_gd hE
          obtain ⟨g39, hE⟩ := vl_ok_gd hE
          refine vl_icmp_eq (tgt := 603) dL_law_186 (by decide) g38 g39 hE (fun c41 hE => ?_) (fun c41 hE => ?_)
          · refine vl_iinc 3 (fun v40 => [(3, vl_iv v40), (0, .ref 101), (1, .ref 0), (2, .ref 23)]) dL_law_603 rfl (by decide) (fun _ => rfl) hE (fun v40 hE => ?_)
            refine vl_goto (tgt := 38) dL_law_606 (by decide) ?_
            exact vl_wk [1, 2, 3, 0] rfl (ih38_ v40 m25 m37 hE)
          · refine vl_iconst dL_law_189 ?_
            exact vl_ret (r := 0) rfl ⟨dL_law_190, by decide⟩ hE (hP' (0))
        · rw [if_neg c13] at hE
          by_cases c42 : ((vl_sc sc v1) % 16) = 1
          · rw [if_pos c42] at hE
            refine vl_tabIn (off := 138) (tgt := 191) dL_law_53 g11 (by omega) (by omega) (by rw [c42]; rfl) (by decide) ?_
            refine vl_aload_n 1 rfl dL_law_191 ?_
            refine vl_aload_n 0 rfl dL_law_192 ?_
            refine vl_iload_n 3 rfl dL_law_193 ?_
            refine vl_iconst dL_law_194 ?_
            refine vl_iadd dL_law_195 ?_
            refine vl_scLd hsc dL_law_196 hE (fun g43 g44 hE => ?_)
            refine vl_aload_n 0 rfl dL_law_197 ?_
            refine vl_iload_n 3 rfl dL_law_198 ?_
            refine vl_iconst dL_law_199 ?_
            refine vl_iadd dL_law_200 ?_
            refine vl_scLd hsc dL_law_201 hE (fun g45 g46 hE => ?_)
            refine vl_aload_n 0 rfl dL_law_202 ?_
            refine vl_iload_n 3 rfl dL_law_203 ?_
            refine vl_iconst dL_law_204 ?_
            refine vl_iadd dL_law_205 ?_
            refine vl_scLd hsc dL_law_206 hE (fun g47 g48 hE => ?_)
            refine vl_aload_n 0 rfl dL_law_207 ?_
            refine vl_iload_n 3 rfl dL_law_208 ?_
            refine vl_iconst dL_law_209 ?_
            refine vl_iadd dL_law_210 ?_
            refine vl_scLd hsc dL_law_211 hE (fun g49 g50 hE => ?_)
            refine vl_aload_n 0 rfl dL_law_212 ?_
            refine vl_iload_n 3 rfl dL_law_213 ?_
            refine vl_iconst dL_law_214 ?_
            refine vl_iadd dL_law_215 ?_
            refine vl_scLd hsc dL_law_216 hE (fun g51 g52 hE => ?_)
            refine vl_VcWI (K' := kX7_remove) (d' := 63) (h := 0) (As := [vl_iv (vl_sc sc (v1 + 1)), vl_iv (vl_sc sc (v1 + 2)), vl_iv (vl_sc sc (v1 + 3)), vl_iv (vl_sc sc (v1 + 4)), vl_iv (vl_sc sc (v1 + 5))]) (st := []) lk_L_26 (fun _ => rfl) (by omega) n0 s0 rfl rfl (Nat.le_of_ble_eq_true rfl) rfl (Nat.le_of_ble_eq_true rfl) dL_law_217 hE (fun _ h => vx_X7_remove hG2 (Nat.le_refl _) h) (fun b53 m54 hE => ?_)
            refine vl_aload_n 2 rfl dL_law_220 ?_
            refine vl_aload_n 0 rfl dL_law_221 ?_
            refine vl_iload_n 3 rfl dL_law_222 ?_
            refine vl_iconst dL_law_223 ?_
            refine vl_iadd dL_law_224 ?_
            refine vl_scLd hsc dL_law_225 hE (fun g55 g56 hE => ?_)
            refine vl_aload_n 0 rfl dL_law_226 ?_
            refine vl_iload_n 3 rfl dL_law_227 ?_
            refine vl_iconst dL_law_228 ?_
            refine vl_iadd dL_law_229 ?_
            refine vl_scLd hsc dL_law_230 hE (fun g57 g58 hE => ?_)
            refine vl_aload_n 0 rfl dL_law_231 ?_
            refine vl_iload_n 3 rfl dL_law_232 ?_
            refine vl_iconst dL_law_233 ?_
            refine vl_iadd dL_law_234 ?_
            refine vl_scLd hsc dL_law_235 hE (fun g59 g60 hE => ?_)
            refine vl_aload_n 0 rfl dL_law_236 ?_
            refine vl_iload_n 3 rfl dL_law_237 ?_
            refine vl_iconst dL_law_238 ?_
            refine vl_iadd dL_law_239 ?_
            refine vl_scLd hsc dL_law_240 hE (fun g61 g62 hE => ?_)
            refine vl_aload_n 0 rfl dL_law_241 ?_
            refine vl_iload_n 3 rfl dL_law_242 ?_
            refine vl_iconst dL_law_243 ?_
            refine vl_iadd dL_law_244 ?_
            refine vl_scLd hsc dL_law_245 hE (fun g63 g64 hE => ?_)
            refine vl_VrWI (K' := kX8_remove) (d' := 6) (h := 23) (As := [vl_iv (vl_sc sc (v1 + 1)), vl_iv (vl_sc sc (v1 + 2)), vl_iv (vl_sc sc (v1 + 3)), vl_iv (vl_sc sc (v1 + 4)), vl_iv (vl_sc sc (v1 + 5))]) (st := [vl_iv b53]) lk_L_29 (fun _ => rfl) (by omega) n23 s23 rfl rfl (Nat.le_of_ble_eq_true rfl) rfl (Nat.le_of_ble_eq_true rfl) dL_law_246 hE (fun _ h => vx_X8_remove hG3 (Nat.le_refl _) h) (fun b65 m66 hE => ?_)
            obtain ⟨g67, hE⟩ := vl_ok_gd hE
            obtain ⟨g68, hE⟩ := vl_ok_gd hE
            refine vl_icmp_eq (tgt := 603) dL_law_249 (by decide) g67 g68 hE (fun c70 hE => ?_) (fun c70 hE => ?_)
            · refine vl_iinc 3 (fun v69 => [(3, vl_iv v69), (0, .ref 101), (1, .ref 0), (2, .ref 23)]) dL_law_603 rfl (by decide) (fun _ => rfl) hE (fun v69 hE => ?_)
              refine vl_goto (tgt := 38) dL_law_606 (by decide) ?_
              exact vl_wk [1, 2, 3, 0] rfl (ih38_ v69 m54 m66 hE)
            · refine vl_iconst dL_law_252 ?_
              exact vl_ret (r := 0) rfl ⟨dL_law_253, by decide⟩ hE (hP' (0))
          · rw [if_neg c42] at hE
            by_cases c71 : ((vl_sc sc v1) % 16) = 2
            · rw [if_pos c71] at hE
              refine vl_tabIn (off := 201) (tgt := 254) dL_law_53 g11 (by omega) (by omega) (by rw [c71]; rfl) (by decide) ?_
              refine vl_aload_n 1 rfl dL_law_254 ?_
              refine vl_aload_n 0 rfl dL_law_255 ?_
              refine vl_iload_n 3 rfl dL_law_256 ?_
              refine vl_iconst dL_law_257 ?_
              refine vl_iadd dL_law_258 ?_
              refine vl_scLd hsc dL_law_259 hE (fun g72 g73 hE => ?_)
              refine vl_aload_n 0 rfl dL_law_260 ?_
              refine vl_iload_n 3 rfl dL_law_261 ?_
              refine vl_iconst dL_law_262 ?_
              refine vl_iadd dL_law_263 ?_
              refine vl_scLd hsc dL_law_264 hE (fun g74 g75 hE => ?_)
              refine vl_aload_n 0 rfl dL_law_265 ?_
              refine vl_iload_n 3 rfl dL_law_266 ?_
              refine vl_iconst dL_law_267 ?_
              refine vl_iadd dL_law_268 ?_
              refine vl_scLd hsc dL_law_269 hE (fun g76 g77 hE => ?_)
              refine vl_aload_n 0 rfl dL_law_270 ?_
              refine vl_iload_n 3 rfl dL_law_271 ?_
              refine vl_iconst dL_law_272 ?_
              refine vl_iadd dL_law_273 ?_
              refine vl_scLd hsc dL_law_274 hE (fun g78 g79 hE => ?_)
              refine vl_VcWI (K' := kX7_window) (d' := 2) (h := 0) (As := [vl_iv (vl_sc sc (v1 + 1)), vl_iv (vl_sc sc (v1 + 2)), vl_iv (vl_sc sc (v1 + 3)), vl_iv (vl_sc sc (v1 + 4))]) (st := []) lk_L_30 (fun _ => rfl) (by omega) n0 s0 rfl rfl (Nat.le_of_ble_eq_true rfl) rfl (Nat.le_of_ble_eq_true rfl) dL_law_275 hE (fun _ h => vx_X7_window hG2 (Nat.le_refl _) h) (fun b80 m81 hE => ?_)
              refine vl_aload_n 2 rfl dL_law_278 ?_
              refine vl_aload_n 0 rfl dL_law_279 ?_
              refine vl_iload_n 3 rfl dL_law_280 ?_
              refine vl_iconst dL_law_281 ?_
              refine vl_iadd dL_law_282 ?_
              refine vl_scLd hsc dL_law_283 hE (fun g82 g83 hE => ?_)
              refine vl_aload_n 0 rfl dL_law_284 ?_
              refine vl_iload_n 3 rfl dL_law_285 ?_
              refine vl_iconst dL_law_286 ?_
              refine vl_iadd dL_law_287 ?_
              refine vl_scLd hsc dL_law_288 hE (fun g84 g85 hE => ?_)
              refine vl_aload_n 0 rfl dL_law_289 ?_
              refine vl_iload_n 3 rfl dL_law_290 ?_
              refine vl_iconst dL_law_291 ?_
              refine vl_iadd dL_law_292 ?_
              refine vl_scLd hsc dL_law_293 hE (fun g86 g87 hE => ?_)
              refine vl_aload_n 0 rfl dL_law_294 ?_
              refine vl_iload_n 3 rfl dL_law_295 ?_
              refine vl_iconst dL_law_296 ?_
              refine vl_iadd dL_law_297 ?_
              refine vl_scLd hsc dL_law_298 hE (fun g88 g89 hE => ?_)
              refine vl_VrWI (K' := kX8_window) (d' := 2) (h := 23) (As := [vl_iv (vl_sc sc (v1 + 1)), vl_iv (vl_sc sc (v1 + 2)), vl_iv (vl_sc sc (v1 + 3)), vl_iv (vl_sc sc (v1 + 4))]) (st := [vl_iv b80]) lk_L_34 (fun _ => rfl) (by omega) n23 s23 rfl rfl (Nat.le_of_ble_eq_true rfl) rfl (Nat.le_of_ble_eq_true rfl) dL_law_299 hE (fun _ h => vx_X8_window hG3 (Nat.le_refl _) h) (fun b90 m91 hE => ?_)
              obtain ⟨g92, hE⟩ := vl_ok_gd hE
              obtain ⟨g93, hE⟩ := vl_ok_gd hE
              refine vl_icmp_eq (tgt := 603) dL_law_302 (by decide) g92 g93 hE (fun c95 hE => ?_) (fun c95 hE => ?_)
              · refine vl_iinc 3 (fun v94 => [(3, vl_iv v94), (0, .ref 101), (1, .ref 0), (2, .ref 23)]) dL_law_603 rfl (by decide) (fun _ => rfl) hE (fun v94 hE => ?_)
                refine vl_goto (tgt := 38) dL_law_606 (by decide) ?_
                exact vl_wk [1, 2, 3, 0] rfl (ih38_ v94 m81 m91 hE)
              · refine vl_iconst dL_law_305 ?_
                exact vl_ret (r := 0) rfl ⟨dL_law_306, by decide⟩ hE (hP' (0))
            · rw [if_neg c71] at hE
              by_cases c96 : ((vl_sc sc v1) % 16) = 3
              · rw [if_pos c96] at hE
                refine vl_tabIn (off := 254) (tgt := 307) dL_law_53 g11 (by omega) (by omega) (by rw [c96]; rfl) (by decide) ?_
                refine vl_aload_n 1 rfl dL_law_307 ?_
                refine vl_VcWI (K' := kX7_next) (d' := 3) (h := 0) (As := []) (st := []) lk_L_35 (fun _ => rfl) (by omega) n0 s0 rfl rfl (Nat.le_of_ble_eq_true rfl) rfl (Nat.le_of_ble_eq_true rfl) dL_law_308 hE (fun _ h => vx_X7_next hG2 (Nat.le_refl _) h) (fun b97 m98 hE => ?_)
                refine vl_aload_n 2 rfl dL_law_311 ?_
                refine vl_VrWI (K' := kX8_next) (d' := 2) (h := 23) (As := []) (st := [vl_iv b97]) lk_L_39 (fun _ => rfl) (by omega) n23 s23 rfl rfl (Nat.le_of_ble_eq_true rfl) rfl (Nat.le_of_ble_eq_true rfl) dL_law_312 hE (fun _ h => vx_X8_next hG3 (Nat.le_refl _) h) (fun b99 m100 hE => ?_)
                obtain ⟨g101, hE⟩ := vl_ok_gd hE
                obtain ⟨g102, hE⟩ := vl_ok_gd hE
                refine vl_icmp_eq (tgt := 603) dL_law_315 (by decide) g101 g102 hE (fun c104 hE => ?_) (fun c104 hE => ?_)
                · refine vl_iinc 3 (fun v103 => [(3, vl_iv v103), (0, .ref 101), (1, .ref 0), (2, .ref 23)]) dL_law_603 rfl (by decide) (fun _ => rfl) hE (fun v103 hE => ?_)
                  refine vl_goto (tgt := 38) dL_law_606 (by decide) ?_
                  exact vl_wk [1, 2, 3, 0] rfl (ih38_ v103 m98 m100 hE)
                · refine vl_iconst dL_law_318 ?_
                  exact vl_ret (r := 0) rfl ⟨dL_law_319, by decide⟩ hE (hP' (0))
              · rw [if_neg c96] at hE
                by_cases c105 : ((vl_sc sc v1) % 16) = 4
                · rw [if_pos c105] at hE
                  refine vl_tabIn (off := 267) (tgt := 320) dL_law_53 g11 (by omega) (by omega) (by rw [c105]; rfl) (by decide) ?_
                  refine vl_aload_n 1 rfl dL_law_320 ?_
                  refine vl_aload_n 0 rfl dL_law_321 ?_
                  refine vl_iload_n 3 rfl dL_law_322 ?_
                  refine vl_iconst dL_law_323 ?_
                  refine vl_iadd dL_law_324 ?_
                  refine vl_scLd hsc dL_law_325 hE (fun g106 g107 hE => ?_)
                  refine vl_aload_n 0 rfl dL_law_326 ?_
                  refine vl_iload_n 3 rfl dL_law_327 ?_
                  refine vl_iconst dL_law_328 ?_
                  refine vl_iadd dL_law_329 ?_
                  refine vl_scLd hsc dL_law_330 hE (fun g108 g109 hE => ?_)
                  refine vl_aload_n 0 rfl dL_law_331 ?_
                  refine vl_iload_n 3 rfl dL_law_332 ?_
                  refine vl_iconst dL_law_333 ?_
                  refine vl_iadd dL_law_334 ?_
                  refine vl_scLd hsc dL_law_335 hE (fun g110 g111 hE => ?_)
                  refine vl_aload_n 0 rfl dL_law_336 ?_
                  refine vl_iload_n 3 rfl dL_law_337 ?_
                  refine vl_iconst dL_law_338 ?_
                  refine vl_iadd dL_law_339 ?_
                  refine vl_scLd hsc dL_law_340 hE (fun g112 g113 hE => ?_)
                  refine vl_VcWI (K' := kX7_countIn) (d' := 2) (h := 0) (As := [vl_iv (vl_sc sc (v1 + 1)), vl_iv (vl_sc sc (v1 + 2)), vl_iv (vl_sc sc (v1 + 3)), vl_iv (vl_sc sc (v1 + 4))]) (st := []) lk_L_40 (fun _ => rfl) (by omega) n0 s0 rfl rfl (Nat.le_of_ble_eq_true rfl) rfl (Nat.le_of_ble_eq_true rfl) dL_law_341 hE (fun _ h => vx_X7_countIn hG2 (Nat.le_refl _) h) (fun b114 m115 hE => ?_)
                  refine vl_aload_n 2 rfl dL_law_344 ?_
                  refine vl_aload_n 0 rfl dL_law_345 ?_
                  refine vl_iload_n 3 rfl dL_law_346 ?_
                  refine vl_iconst dL_law_347 ?_
                  refine vl_iadd dL_law_348 ?_
                  refine vl_scLd hsc dL_law_349 hE (fun g116 g117 hE => ?_)
                  refine vl_aload_n 0 rfl dL_law_350 ?_
                  refine vl_iload_n 3 rfl dL_law_351 ?_
                  refine vl_iconst dL_law_352 ?_
                  refine vl_iadd dL_law_353 ?_
                  refine vl_scLd hsc dL_law_354 hE (fun g118 g119 hE => ?_)
                  refine vl_aload_n 0 rfl dL_law_355 ?_
                  refine vl_iload_n 3 rfl dL_law_356 ?_
                  refine vl_iconst dL_law_357 ?_
                  refine vl_iadd dL_law_358 ?_
                  refine vl_scLd hsc dL_law_359 hE (fun g120 g121 hE => ?_)
                  refine vl_aload_n 0 rfl dL_law_360 ?_
                  refine vl_iload_n 3 rfl dL_law_361 ?_
                  refine vl_iconst dL_law_362 ?_
                  refine vl_iadd dL_law_363 ?_
                  refine vl_scLd hsc dL_law_364 hE (fun g122 g123 hE => ?_)
                  refine vl_VpI (K' := kX8_countIn) (d' := 2) (h := 23) (As := [vl_iv (vl_sc sc (v1 + 1)), vl_iv (vl_sc sc (v1 + 2)), vl_iv (vl_sc sc (v1 + 3)), vl_iv (vl_sc sc (v1 + 4))]) (st := [vl_iv b114]) lk_L_43 (fun _ => rfl) (by omega) n23 s23 rfl rfl (Nat.le_of_ble_eq_true rfl) rfl (Nat.le_of_ble_eq_true rfl) dL_law_365 hE (fun _ h => vx_X8_countIn hG3 (Nat.le_refl _) h) (fun b124 hE => ?_)
                  obtain ⟨g125, hE⟩ := vl_ok_gd hE
                  obtain ⟨g126, hE⟩ := vl_ok_gd hE
                  refine vl_icmp_eq (tgt := 603) dL_law_368 (by decide) g125 g126 hE (fun c128 hE => ?_) (fun c128 hE => ?_)
                  · refine vl_iinc 3 (fun v127 => [(3, vl_iv v127), (0, .ref 101), (1, .ref 0), (2, .ref 23)]) dL_law_603 rfl (by decide) (fun _ => rfl) hE (fun v127 hE => ?_)
                    refine vl_goto (tgt := 38) dL_law_606 (by decide) ?_
                    exact vl_wk [1, 2, 3, 0] rfl (ih38_ v127 m115 m3 hE)
                  · refine vl_iconst dL_law_371 ?_
                    exact vl_ret (r := 0) rfl ⟨dL_law_372, by decide⟩ hE (hP' (0))
                · rw [if_neg c105] at hE
                  by_cases c129 : ((vl_sc sc v1) % 16) = 5
                  · rw [if_pos c129] at hE
                    refine vl_tabIn (off := 320) (tgt := 373) dL_law_53 g11 (by omega) (by omega) (by rw [c129]; rfl) (by decide) ?_
                    refine vl_aload_n 1 rfl dL_law_373 ?_
                    refine vl_aload_n 0 rfl dL_law_374 ?_
                    refine vl_iload_n 3 rfl dL_law_375 ?_
                    refine vl_iconst dL_law_376 ?_
                    refine vl_iadd dL_law_377 ?_
                    refine vl_scLd hsc dL_law_378 hE (fun g130 g131 hE => ?_)
                    refine vl_aload_n 0 rfl dL_law_379 ?_
                    refine vl_iload_n 3 rfl dL_law_380 ?_
                    refine vl_iconst dL_law_381 ?_
                    refine vl_iadd dL_law_382 ?_
                    refine vl_scLd hsc dL_law_383 hE (fun g132 g133 hE => ?_)
                    refine vl_aload_n 0 rfl dL_law_384 ?_
                    refine vl_iload_n 3 rfl dL_law_385 ?_
                    refine vl_iconst dL_law_386 ?_
                    refine vl_iadd dL_law_387 ?_
                    refine vl_scLd hsc dL_law_388 hE (fun g134 g135 hE => ?_)
                    refine vl_VcWI (K' := kX7_nearest) (d' := 6) (h := 0) (As := [vl_iv (vl_sc sc (v1 + 1)), vl_iv (vl_sc sc (v1 + 2)), vl_iv (vl_sc sc (v1 + 3))]) (st := []) lk_L_44 (fun _ => rfl) (by omega) n0 s0 rfl rfl (Nat.le_of_ble_eq_true rfl) rfl (Nat.le_of_ble_eq_true rfl) dL_law_389 hE (fun _ h => vx_X7_nearest hG2 (Nat.le_refl _) h) (fun b136 m137 hE => ?_)
                    refine vl_aload_n 2 rfl dL_law_392 ?_
                    refine vl_aload_n 0 rfl dL_law_393 ?_
                    refine vl_iload_n 3 rfl dL_law_394 ?_
                    refine vl_iconst dL_law_395 ?_
                    refine vl_iadd dL_law_396 ?_
                    refine vl_scLd hsc dL_law_397 hE (fun g138 g139 hE => ?_)
                    refine vl_aload_n 0 rfl dL_law_398 ?_
                    refine vl_iload_n 3 rfl dL_law_399 ?_
                    refine vl_iconst dL_law_400 ?_
                    refine vl_iadd dL_law_401 ?_
                    refine vl_scLd hsc dL_law_402 hE (fun g140 g141 hE => ?_)
                    refine vl_aload_n 0 rfl dL_law_403 ?_
                    refine vl_iload_n 3 rfl dL_law_404 ?_
                    refine vl_iconst dL_law_405 ?_
                    refine vl_iadd dL_law_406 ?_
                    refine vl_scLd hsc dL_law_407 hE (fun g142 g143 hE => ?_)
                    refine vl_VrWI (K' := kX8_nearest) (d' := 63) (h := 23) (As := [vl_iv (vl_sc sc (v1 + 1)), vl_iv (vl_sc sc (v1 + 2)), vl_iv (vl_sc sc (v1 + 3))]) (st := [vl_iv b136]) lk_L_48 (fun _ => rfl) (by omega) n23 s23 rfl rfl (Nat.le_of_ble_eq_true rfl) rfl (Nat.le_of_ble_eq_true rfl) dL_law_408 hE (fun _ h => vx_X8_nearest hG3 (Nat.le_refl _) h) (fun b144 m145 hE => ?_)
                    obtain ⟨g146, hE⟩ := vl_ok_gd hE
                    obtain ⟨g147, hE⟩ := vl_ok_gd hE
                    refine vl_icmp_eq (tgt := 603) dL_law_411 (by decide) g146 g147 hE (fun c149 hE => ?_) (fun c149 hE => ?_)
                    · refine vl_iinc 3 (fun v148 => [(3, vl_iv v148), (0, .ref 101), (1, .ref 0), (2, .ref 23)]) dL_law_603 rfl (by decide) (fun _ => rfl) hE (fun v148 hE => ?_)
                      refine vl_goto (tgt := 38) dL_law_606 (by decide) ?_
                      exact vl_wk [1, 2, 3, 0] rfl (ih38_ v148 m137 m145 hE)
                    · refine vl_iconst dL_law_414 ?_
                      exact vl_ret (r := 0) rfl ⟨dL_law_415, by decide⟩ hE (hP' (0))
                  · rw [if_neg c129] at hE
                    by_cases c150 : ((vl_sc sc v1) % 16) = 6
                    · rw [if_pos c150] at hE
                      refine vl_tabIn (off := 363) (tgt := 416) dL_law_53 g11 (by omega) (by omega) (by rw [c150]; rfl) (by decide) ?_
                      refine vl_aload_n 1 rfl dL_law_416 ?_
                      refine vl_VpI (K' := kX7_distance) (d' := 0) (h := 0) (As := []) (st := []) lk_L_49 (fun _ => rfl) (by omega) n0 s0 rfl rfl (Nat.le_of_ble_eq_true rfl) rfl (Nat.le_of_ble_eq_true rfl) dL_law_417 hE (fun _ h => vx_X7_distance hG2 (Nat.le_refl _) h) (fun b151 hE => ?_)
                      refine vl_aload_n 2 rfl dL_law_420 ?_
                      refine vl_VpI (K' := kX8_distance) (d' := 0) (h := 23) (As := []) (st := [vl_iv b151]) lk_L_52 (fun _ => rfl) (by omega) n23 s23 rfl rfl (Nat.le_of_ble_eq_true rfl) rfl (Nat.le_of_ble_eq_true rfl) dL_law_421 hE (fun _ h => vx_X8_distance hG3 (Nat.le_refl _) h) (fun b152 hE => ?_)
                      obtain ⟨g153, hE⟩ := vl_ok_gd hE
                      obtain ⟨g154, hE⟩ := vl_ok_gd hE
                      refine vl_icmp_eq (tgt := 603) dL_law_424 (by decide) g153 g154 hE (fun c156 hE => ?_) (fun c156 hE => ?_)
                      · refine vl_iinc 3 (fun v155 => [(3, vl_iv v155), (0, .ref 101), (1, .ref 0), (2, .ref 23)]) dL_law_603 rfl (by decide) (fun _ => rfl) hE (fun v155 hE => ?_)
                        refine vl_goto (tgt := 38) dL_law_606 (by decide) ?_
                        exact vl_wk [1, 2, 3, 0] rfl (ih38_ v155 m2 m3 hE)
                      · refine vl_iconst dL_law_427 ?_
                        exact vl_ret (r := 0) rfl ⟨dL_law_428, by decide⟩ hE (hP' (0))
                    · rw [if_neg c150] at hE
                      by_cases c157 : ((vl_sc sc v1) % 16) = 7
                      · rw [if_pos c157] at hE
                        refine vl_tabIn (off := 376) (tgt := 429) dL_law_53 g11 (by omega) (by omega) (by rw [c157]; rfl) (by decide) ?_
                        refine vl_aload_n 1 rfl dL_law_429 ?_
                        refine vl_VpI (K' := kX7_pairs) (d' := 2) (h := 0) (As := []) (st := []) lk_L_53 (fun _ => rfl) (by omega) n0 s0 rfl rfl (Nat.le_of_ble_eq_true rfl) rfl (Nat.le_of_ble_eq_true rfl) dL_law_430 hE (fun _ h => vx_X7_pairs hG2 (Nat.le_refl _) h) (fun b158 hE => ?_)
                        refine vl_aload_n 2 rfl dL_law_433 ?_
                        refine vl_VpI (K' := kX8_pairs) (d' := 2) (h := 23) (As := []) (st := [vl_iv b158]) lk_L_56 (fun _ => rfl) (by omega) n23 s23 rfl rfl (Nat.le_of_ble_eq_true rfl) rfl (Nat.le_of_ble_eq_true rfl) dL_law_434 hE (fun _ h => vx_X8_pairs hG3 (Nat.le_refl _) h) (fun b159 hE => ?_)
                        obtain ⟨g160, hE⟩ := vl_ok_gd hE
                        obtain ⟨g161, hE⟩ := vl_ok_gd hE
                        refine vl_icmp_eq (tgt := 603) dL_law_437 (by decide) g160 g161 hE (fun c163 hE => ?_) (fun c163 hE => ?_)
                        · refine vl_iinc 3 (fun v162 => [(3, vl_iv v162), (0, .ref 101), (1, .ref 0), (2, .ref 23)]) dL_law_603 rfl (by decide) (fun _ => rfl) hE (fun v162 hE => ?_)
                          refine vl_goto (tgt := 38) dL_law_606 (by decide) ?_
                          exact vl_wk [1, 2, 3, 0] rfl (ih38_ v162 m2 m3 hE)
                        · refine vl_iconst dL_law_440 ?_
                          exact vl_ret (r := 0) rfl ⟨dL_law_441, by decide⟩ hE (hP' (0))
                      · rw [if_neg c157] at hE
                        by_cases c164 : ((vl_sc sc v1) % 16) = 8
                        · rw [if_pos c164] at hE
                          refine vl_tabIn (off := 389) (tgt := 442) dL_law_53 g11 (by omega) (by omega) (by rw [c164]; rfl) (by decide) ?_
                          refine vl_aload_n 1 rfl dL_law_442 ?_
                          refine vl_aload_n 0 rfl dL_law_443 ?_
                          refine vl_iload_n 3 rfl dL_law_444 ?_
                          refine vl_iconst dL_law_445 ?_
                          refine vl_iadd dL_law_446 ?_
                          refine vl_scLd hsc dL_law_447 hE (fun g165 g166 hE => ?_)
                          refine vl_VpI (K' := kX7_visited) (d' := 2) (h := 0) (As := [vl_iv (vl_sc sc (v1 + 1))]) (st := []) lk_L_57 (fun _ => rfl) (by omega) n0 s0 rfl rfl (Nat.le_of_ble_eq_true rfl) rfl (Nat.le_of_ble_eq_true rfl) dL_law_448 hE (fun _ h => vx_X7_visited hG2 (Nat.le_refl _) h) (fun b167 hE => ?_)
                          refine vl_aload_n 2 rfl dL_law_451 ?_
                          refine vl_aload_n 0 rfl dL_law_452 ?_
                          refine vl_iload_n 3 rfl dL_law_453 ?_
                          refine vl_iconst dL_law_454 ?_
                          refine vl_iadd dL_law_455 ?_
                          refine vl_scLd hsc dL_law_456 hE (fun g168 g169 hE => ?_)
                          refine vl_VpI (K' := kX8_visited) (d' := 63) (h := 23) (As := [vl_iv (vl_sc sc (v1 + 1))]) (st := [vl_iv b167]) lk_L_61 (fun _ => rfl) (by omega) n23 s23 rfl rfl (Nat.le_of_ble_eq_true rfl) rfl (Nat.le_of_ble_eq_true rfl) dL_law_457 hE (fun _ h => vx_X8_visited hG3 (Nat.le_refl _) h) (fun b170 hE => ?_)
                          obtain ⟨g171, hE⟩ := vl_ok_gd hE
                          obtain ⟨g172, hE⟩ := vl_ok_gd hE
                          refine vl_icmp_eq (tgt := 603) dL_law_460 (by decide) g171 g172 hE (fun c174 hE => ?_) (fun c174 hE => ?_)
                          · refine vl_iinc 3 (fun v173 => [(3, vl_iv v173), (0, .ref 101), (1, .ref 0), (2, .ref 23)]) dL_law_603 rfl (by decide) (fun _ => rfl) hE (fun v173 hE => ?_)
                            refine vl_goto (tgt := 38) dL_law_606 (by decide) ?_
                            exact vl_wk [1, 2, 3, 0] rfl (ih38_ v173 m2 m3 hE)
                          · refine vl_iconst dL_law_463 ?_
                            exact vl_ret (r := 0) rfl ⟨dL_law_464, by decide⟩ hE (hP' (0))
                        · rw [if_neg c164] at hE
                          by_cases c175 : ((vl_sc sc v1) % 16) = 9
                          · rw [if_pos c175] at hE
                            refine vl_tabIn (off := 412) (tgt := 465) dL_law_53 g11 (by omega) (by omega) (by rw [c175]; rfl) (by decide) ?_
                            refine vl_aload_n 1 rfl dL_law_465 ?_
                            refine vl_VcWI (K' := kX7_pack) (d' := 65) (h := 0) (As := []) (st := []) lk_L_62 (fun _ => rfl) (by omega) n0 s0 rfl rfl (Nat.le_of_ble_eq_true rfl) rfl (Nat.le_of_ble_eq_true rfl) dL_law_466 hE (fun _ h => vx_X7_pack hG2 (Nat.le_refl _) h) (fun b176 m177 hE => ?_)
                            refine vl_aload_n 2 rfl dL_law_469 ?_
                            refine vl_VrWI (K' := kX8_pack) (d' := 3) (h := 23) (As := []) (st := [vl_iv b176]) lk_L_65 (fun _ => rfl) (by omega) n23 s23 rfl rfl (Nat.le_of_ble_eq_true rfl) rfl (Nat.le_of_ble_eq_true rfl) dL_law_470 hE (fun _ h => vx_X8_pack hG3 (Nat.le_refl _) h) (fun b178 m179 hE => ?_)
                            obtain ⟨g180, hE⟩ := vl_ok_gd hE
                            obtain ⟨g181, hE⟩ := vl_ok_gd hE
                            refine vl_icmp_eq (tgt := 603) dL_law_473 (by decide) g180 g181 hE (fun c183 hE => ?_) (fun c183 hE => ?_)
                            · refine vl_iinc 3 (fun v182 => [(3, vl_iv v182), (0, .ref 101), (1, .ref 0), (2, .ref 23)]) dL_law_603 rfl (by decide) (fun _ => rfl) hE (fun v182 hE => ?_)
                              refine vl_goto (tgt := 38) dL_law_606 (by decide) ?_
                              exact vl_wk [1, 2, 3, 0] rfl (ih38_ v182 m177 m179 hE)
                            · refine vl_iconst dL_law_476 ?_
                              exact vl_ret (r := 0) rfl ⟨dL_law_477, by decide⟩ hE (hP' (0))
                          · rw [if_neg c175] at hE
                            by_cases c184 : ((vl_sc sc v1) % 16) = 10
                            · rw [if_pos c184] at hE
                              refine vl_tabIn (off := 425) (tgt := 478) dL_law_53 g11 (by omega) (by omega) (by rw [c184]; rfl) (by decide) ?_
                              refine vl_aload_n 1 rfl dL_law_478 ?_
                              refine vl_VcWI (K' := kX7_clear) (d' := 64) (h := 0) (As := []) (st := []) lk_L_66 (fun _ => rfl) (by omega) n0 s0 rfl rfl (Nat.le_of_ble_eq_true rfl) rfl (Nat.le_of_ble_eq_true rfl) dL_law_479 hE (fun _ h => vx_X7_clear hG2 (Nat.le_refl _) h) (fun b185 m186 hE => ?_)
                              refine vl_aload_n 2 rfl dL_law_482 ?_
                              refine vl_VrWI (K' := kX8_clear) (d' := 1) (h := 23) (As := []) (st := [vl_iv b185]) lk_L_69 (fun _ => rfl) (by omega) n23 s23 rfl rfl (Nat.le_of_ble_eq_true rfl) rfl (Nat.le_of_ble_eq_true rfl) dL_law_483 hE (fun _ h => vx_X8_clear hG3 (Nat.le_refl _) h) (fun b187 m188 hE => ?_)
                              obtain ⟨g189, hE⟩ := vl_ok_gd hE
                              obtain ⟨g190, hE⟩ := vl_ok_gd hE
                              refine vl_icmp_eq (tgt := 603) dL_law_486 (by decide) g189 g190 hE (fun c192 hE => ?_) (fun c192 hE => ?_)
                              · refine vl_iinc 3 (fun v191 => [(3, vl_iv v191), (0, .ref 101), (1, .ref 0), (2, .ref 23)]) dL_law_603 rfl (by decide) (fun _ => rfl) hE (fun v191 hE => ?_)
                                refine vl_goto (tgt := 38) dL_law_606 (by decide) ?_
                                exact vl_wk [1, 2, 3, 0] rfl (ih38_ v191 m186 m188 hE)
                              · refine vl_iconst dL_law_489 ?_
                                exact vl_ret (r := 0) rfl ⟨dL_law_490, by decide⟩ hE (hP' (0))
                            · rw [if_neg c184] at hE
                              by_cases c193 : ((vl_sc sc v1) % 16) = 11
                              · rw [if_pos c193] at hE
                                refine vl_tabIn (off := 438) (tgt := 491) dL_law_53 g11 (by omega) (by omega) (by rw [c193]; rfl) (by decide) ?_
                                refine vl_aload_n 1 rfl dL_law_491 ?_
                                refine vl_aload_n 0 rfl dL_law_492 ?_
                                refine vl_iload_n 3 rfl dL_law_493 ?_
                                refine vl_iconst dL_law_494 ?_
                                refine vl_iadd dL_law_495 ?_
                                refine vl_scLd hsc dL_law_496 hE (fun g194 g195 hE => ?_)
                                refine vl_VpI (K' := kX7_count) (d' := 0) (h := 0) (As := [vl_iv (vl_sc sc (v1 + 1))]) (st := []) lk_L_70 (fun _ => rfl) (by omega) n0 s0 rfl rfl (Nat.le_of_ble_eq_true rfl) rfl (Nat.le_of_ble_eq_true rfl) dL_law_497 hE (fun _ h => vx_X7_count hG2 (Nat.le_refl _) h) (fun b196 hE => ?_)
                                refine vl_aload_n 2 rfl dL_law_500 ?_
                                refine vl_aload_n 0 rfl dL_law_501 ?_
                                refine vl_iload_n 3 rfl dL_law_502 ?_
                                refine vl_iconst dL_law_503 ?_
                                refine vl_iadd dL_law_504 ?_
                                refine vl_scLd hsc dL_law_505 hE (fun g197 g198 hE => ?_)
                                refine vl_VrWI (K' := kX8_count) (d' := 63) (h := 23) (As := [vl_iv (vl_sc sc (v1 + 1))]) (st := [vl_iv b196]) lk_L_73 (fun _ => rfl) (by omega) n23 s23 rfl rfl (Nat.le_of_ble_eq_true rfl) rfl (Nat.le_of_ble_eq_true rfl) dL_law_506 hE (fun _ h => vx_X8_count hG3 (Nat.le_refl _) h) (fun b199 m200 hE => ?_)
                                obtain ⟨g201, hE⟩ := vl_ok_gd hE
                                obtain ⟨g202, hE⟩ := vl_ok_gd hE
                                refine vl_icmp_eq (tgt := 603) dL_law_509 (by decide) g201 g202 hE (fun c204 hE => ?_) (fun c204 hE => ?_)
                                · refine vl_iinc 3 (fun v203 => [(3, vl_iv v203), (0, .ref 101), (1, .ref 0), (2, .ref 23)]) dL_law_603 rfl (by decide) (fun _ => rfl) hE (fun v203 hE => ?_)
                                  refine vl_goto (tgt := 38) dL_law_606 (by decide) ?_
                                  exact vl_wk [1, 2, 3, 0] rfl (ih38_ v203 m2 m200 hE)
                                · refine vl_iconst dL_law_512 ?_
                                  exact vl_ret (r := 0) rfl ⟨dL_law_513, by decide⟩ hE (hP' (0))
                              · rw [if_neg c193] at hE
                                by_cases c205 : ((vl_sc sc v1) % 16) = 12
                                · rw [if_pos c205] at hE
                                  refine vl_tabIn (off := 461) (tgt := 514) dL_law_53 g11 (by omega) (by omega) (by rw [c205]; rfl) (by decide) ?_
                                  refine vl_aload_n 1 rfl dL_law_514 ?_
                                  refine vl_aload_n 0 rfl dL_law_515 ?_
                                  refine vl_iload_n 3 rfl dL_law_516 ?_
                                  refine vl_iconst dL_law_517 ?_
                                  refine vl_iadd dL_law_518 ?_
                                  refine vl_scLd hsc dL_law_519 hE (fun g206 g207 hE => ?_)
                                  refine vl_aload_n 0 rfl dL_law_520 ?_
                                  refine vl_iload_n 3 rfl dL_law_521 ?_
                                  refine vl_iconst dL_law_522 ?_
                                  refine vl_iadd dL_law_523 ?_
                                  refine vl_scLd hsc dL_law_524 hE (fun g208 g209 hE => ?_)
                                  refine vl_VpI (K' := kX7_node) (d' := 1) (h := 0) (As := [vl_iv (vl_sc sc (v1 + 1)), vl_iv (vl_sc sc (v1 + 2))]) (st := []) lk_L_74 (fun _ => rfl) (by omega) n0 s0 rfl rfl (Nat.le_of_ble_eq_true rfl) rfl (Nat.le_of_ble_eq_true rfl) dL_law_525 hE (fun _ h => vx_X7_node hG2 (Nat.le_refl _) h) (fun b210 hE => ?_)
                                  refine vl_aload_n 2 rfl dL_law_528 ?_
                                  refine vl_aload_n 0 rfl dL_law_529 ?_
                                  refine vl_iload_n 3 rfl dL_law_530 ?_
                                  refine vl_iconst dL_law_531 ?_
                                  refine vl_iadd dL_law_532 ?_
                                  refine vl_scLd hsc dL_law_533 hE (fun g211 g212 hE => ?_)
                                  refine vl_aload_n 0 rfl dL_law_534 ?_
                                  refine vl_iload_n 3 rfl dL_law_535 ?_
                                  refine vl_iconst dL_law_536 ?_
                                  refine vl_iadd dL_law_537 ?_
                                  refine vl_scLd hsc dL_law_538 hE (fun g213 g214 hE => ?_)
                                  refine vl_VrWI (K' := kX8_node_) (d' := 63) (h := 23) (As := [vl_iv (vl_sc sc (v1 + 1)), vl_iv (vl_sc sc (v1 + 2))]) (st := [vl_iv b210]) lk_L_78 (fun _ => rfl) (by omega) n23 s23 rfl rfl (Nat.le_of_ble_eq_true rfl) rfl (Nat.le_of_ble_eq_true rfl) dL_law_539 hE (fun _ h => vx_X8_node_ hG3 (Nat.le_refl _) h) (fun b215 m216 hE => ?_)
                                  obtain ⟨g217, hE⟩ := vl_ok_gd hE
                                  obtain ⟨g218, hE⟩ := vl_ok_gd hE
                                  refine vl_icmp_eq (tgt := 603) dL_law_542 (by decide) g217 g218 hE (fun c220 hE => ?_) (fun c220 hE => ?_)
                                  · refine vl_iinc 3 (fun v219 => [(3, vl_iv v219), (0, .ref 101), (1, .ref 0), (2, .ref 23)]) dL_law_603 rfl (by decide) (fun _ => rfl) hE (fun v219 hE => ?_)
                                    refine vl_goto (tgt := 38) dL_law_606 (by decide) ?_
                                    exact vl_wk [1, 2, 3, 0] rfl (ih38_ v219 m2 m216 hE)
                                  · refine vl_iconst dL_law_545 ?_
                                    exact vl_ret (r := 0) rfl ⟨dL_law_546, by decide⟩ hE (hP' (0))
                                · rw [if_neg c205] at hE
                                  by_cases c221 : ((vl_sc sc v1) % 16) = 13
                                  · rw [if_pos c221] at hE
                                    refine vl_tabIn (off := 494) (tgt := 547) dL_law_53 g11 (by omega) (by omega) (by rw [c221]; rfl) (by decide) ?_
                                    refine vl_aload_n 1 rfl dL_law_547 ?_
                                    refine vl_aload_n 0 rfl dL_law_548 ?_
                                    refine vl_iload_n 3 rfl dL_law_549 ?_
                                    refine vl_iconst dL_law_550 ?_
                                    refine vl_iadd dL_law_551 ?_
                                    refine vl_scLd hsc dL_law_552 hE (fun g222 g223 hE => ?_)
                                    refine vl_aload_n 0 rfl dL_law_553 ?_
                                    refine vl_iload_n 3 rfl dL_law_554 ?_
                                    refine vl_iconst dL_law_555 ?_
                                    refine vl_iadd dL_law_556 ?_
                                    refine vl_scLd hsc dL_law_557 hE (fun g224 g225 hE => ?_)
                                    refine vl_aload_n 0 rfl dL_law_558 ?_
                                    refine vl_iload_n 3 rfl dL_law_559 ?_
                                    refine vl_iconst dL_law_560 ?_
                                    refine vl_iadd dL_law_561 ?_
                                    refine vl_scLd hsc dL_law_562 hE (fun g226 g227 hE => ?_)
                                    refine vl_VpI (K' := kX7_held) (d' := 1) (h := 0) (As := [vl_iv (vl_sc sc (v1 + 1)), vl_iv (vl_sc sc (v1 + 2)), vl_iv (vl_sc sc (v1 + 3))]) (st := []) lk_L_79 (fun _ => rfl) (by omega) n0 s0 rfl rfl (Nat.le_of_ble_eq_true rfl) rfl (Nat.le_of_ble_eq_true rfl) dL_law_563 hE (fun _ h => vx_X7_held hG2 (Nat.le_refl _) h) (fun b228 hE => ?_)
                                    refine vl_aload_n 2 rfl dL_law_566 ?_
                                    refine vl_aload_n 0 rfl dL_law_567 ?_
                                    refine vl_iload_n 3 rfl dL_law_568 ?_
                                    refine vl_iconst dL_law_569 ?_
                                    refine vl_iadd dL_law_570 ?_
                                    refine vl_scLd hsc dL_law_571 hE (fun g229 g230 hE => ?_)
                                    refine vl_aload_n 0 rfl dL_law_572 ?_
                                    refine vl_iload_n 3 rfl dL_law_573 ?_
                                    refine vl_iconst dL_law_574 ?_
                                    refine vl_iadd dL_law_575 ?_
                                    refine vl_scLd hsc dL_law_576 hE (fun g231 g232 hE => ?_)
                                    refine vl_aload_n 0 rfl dL_law_577 ?_
                                    refine vl_iload_n 3 rfl dL_law_578 ?_
                                    refine vl_iconst dL_law_579 ?_
                                    refine vl_iadd dL_law_580 ?_
                                    refine vl_scLd hsc dL_law_581 hE (fun g233 g234 hE => ?_)
                                    refine vl_VrWI (K' := kX8_held) (d' := 63) (h := 23) (As := [vl_iv (vl_sc sc (v1 + 1)), vl_iv (vl_sc sc (v1 + 2)), vl_iv (vl_sc sc (v1 + 3))]) (st := [vl_iv b228]) lk_L_82 (fun _ => rfl) (by omega) n23 s23 rfl rfl (Nat.le_of_ble_eq_true rfl) rfl (Nat.le_of_ble_eq_true rfl) dL_law_582 hE (fun _ h => vx_X8_held hG3 (Nat.le_refl _) h) (fun b235 m236 hE => ?_)
                                    obtain ⟨g237, hE⟩ := vl_ok_gd hE
                                    obtain ⟨g238, hE⟩ := vl_ok_gd hE
                                    refine vl_icmp_eq (tgt := 603) dL_law_585 (by decide) g237 g238 hE (fun c240 hE => ?_) (fun c240 hE => ?_)
                                    · refine vl_iinc 3 (fun v239 => [(3, vl_iv v239), (0, .ref 101), (1, .ref 0), (2, .ref 23)]) dL_law_603 rfl (by decide) (fun _ => rfl) hE (fun v239 hE => ?_)
                                      refine vl_goto (tgt := 38) dL_law_606 (by decide) ?_
                                      exact vl_wk [1, 2, 3, 0] rfl (ih38_ v239 m2 m236 hE)
                                    · refine vl_iconst dL_law_588 ?_
                                      exact vl_ret (r := 0) rfl ⟨dL_law_589, by decide⟩ hE (hP' (0))
                                  · rw [if_neg c221] at hE
                                    by_cases c241 : ((vl_sc sc v1) % 16) = 14
                                    · rw [if_pos c241] at hE
                                      refine vl_tabIn (off := 537) (tgt := 590) dL_law_53 g11 (by omega) (by omega) (by rw [c241]; rfl) (by decide) ?_
                                      refine vl_aload_n 1 rfl dL_law_590 ?_
                                      refine vl_VcWI (K' := kX7_audit) (d' := 5) (h := 0) (As := []) (st := []) lk_L_83 (fun _ => rfl) (by omega) n0 s0 rfl rfl (Nat.le_of_ble_eq_true rfl) rfl (Nat.le_of_ble_eq_true rfl) dL_law_591 hE (fun _ h => vx_X7_audit hG2 (Nat.le_refl _) h) (fun b242 m243 hE => ?_)
                                      refine vl_aload_n 2 rfl dL_law_594 ?_
                                      refine vl_VrWI (K' := kX8_audit) (d' := 63) (h := 23) (As := []) (st := [vl_iv b242]) lk_L_87 (fun _ => rfl) (by omega) n23 s23 rfl rfl (Nat.le_of_ble_eq_true rfl) rfl (Nat.le_of_ble_eq_true rfl) dL_law_595 hE (fun _ h => vx_X8_audit hG3 (Nat.le_refl _) h) (fun b244 m245 hE => ?_)
                                      obtain ⟨g246, hE⟩ := vl_ok_gd hE
                                      obtain ⟨g247, hE⟩ := vl_ok_gd hE
                                      refine vl_icmp_eq (tgt := 603) dL_law_598 (by decide) g246 g247 hE (fun c249 hE => ?_) (fun c249 hE => ?_)
                                      · refine vl_iinc 3 (fun v248 => [(3, vl_iv v248), (0, .ref 101), (1, .ref 0), (2, .ref 23)]) dL_law_603 rfl (by decide) (fun _ => rfl) hE (fun v248 hE => ?_)
                                        refine vl_goto (tgt := 38) dL_law_606 (by decide) ?_
                                        exact vl_wk [1, 2, 3, 0] rfl (ih38_ v248 m243 m245 hE)
                                      · refine vl_iconst dL_law_601 ?_
                                        exact vl_ret (r := 0) rfl ⟨dL_law_602, by decide⟩ hE (hP' (0))
                                    · rw [if_neg c241] at hE
                                      refine vl_tabOut (tgt := 603) dL_law_53 g11 (by omega) (by decide) ?_
                                      refine vl_iinc 3 (fun v12 => [(3, vl_iv v12), (0, .ref 101), (1, .ref 0), (2, .ref 23)]) dL_law_603 rfl (by decide) (fun _ => rfl) hE (fun v12 hE => ?_)
                                      refine vl_goto (tgt := 38) dL_law_606 (by decide) ?_
                                      exact vl_wk [1, 2, 3, 0] rfl (ih38_ v12 m2 m3 hE)
  exact vl_wk [1, 2, 3, 0] rfl (hL38_ N 2 m r hE)
