/-! ===== PURE, 59: both sort ===== -/
theorem h_u_self (L : Int → Int) (i : Int) : h_u L i (L i) = L := by
  funext k
  unfold h_u
  by_cases c : k = i
  · rw [if_pos c, c]
  · rw [if_neg c]
theorem s_key_cg {m mm : vl_M} (h : ∀ h : Nat, h ≠ 17 → mm h = m h) (f e : Int) : s_key mm f e = s_key m f e := by
  unfold s_key
  rw [h 3 (by decide), h 4 (by decide), h 5 (by decide), h 6 (by decide), h 7 (by decide)]
theorem c_s52 {w N : Nat} {m : vl_M} {f g v lo hi i a2 v1 v10 : Int} {P : Int → Prop} {κ : Int → vl_M → Option vl_M} (hPm : s_P w m) (hE : s_E m) (hPE : ∀ z, P z → c_LE m z) (hf : vl_r32 f) (hlo : 0 ≤ lo) (hhi : hi ≤ 400) (hi' : i < hi) (hg : 1 ≤ g ∧ g ≤ 200) : ∀ (fu : Nat) (p : Int) (mm : vl_M), lo ≤ p → p ≤ i → p - lo < (fu : Int) → (∀ h : Nat, h ≠ 17 → mm h = m h) → s_B (h_u (mm 17) p v) lo hi P → (g = 1 → s_iv (s_key m f) (mm 17) p v i lo) →
    ∃ q mm', fn_X1_sort_L52 N lo a2 f v1 g v10 v κ fu p mm = κ q mm' ∧ (lo ≤ q ∧ q ≤ i) ∧ (∀ h : Nat, h ≠ 17 → mm' h = m h) ∧ ((∀ k, (k < lo ∨ i < k) → mm' 17 k = mm 17 k) ∧ s_B (h_u (mm' 17) q v) lo hi P) ∧ (g = 1 → ∀ a b, lo ≤ a → a < b → b ≤ i → lx (s_key m f (h_u (mm' 17) q v b)) (s_key m f (h_u (mm' 17) q v a)) = false) := by
  intro fu
  induction fu with
  | zero => intro p mm h1 h2 h3; omega
  | succ fu ih =>
    intro p mm h1 h2 h3 hm hB hI
    have hPv : P v := (hB.1 v).mpr ⟨p, h1, by omega, h_u_s _ _ _⟩
    by_cases c : p - g < lo
    · refine ⟨p, mm, ?_, ⟨h1, h2⟩, hm, ⟨fun _ _ => rfl, hB⟩, fun e => s_iv_end (s_key_len m f) ⟨h1, h2⟩ (Or.inl (by omega)) (hI e)⟩
      rw [fn_X1_sort_L52, pu_gd ⟨by omega, by omega⟩, pu_gd ⟨by omega, by omega⟩, if_pos c]
    · have hPz : P (mm 17 (p - g)) := (hB.1 _).mpr ⟨p - g, by omega, by omega, by rw [h_u_n _ _ (by omega)]⟩
      have lv := hPE v hPv
      have lz := hPE _ hPz
      have bv := c_LE_lt hPm lv
      have bz := c_LE_lt hPm lz
      have ert : ∀ u, c_rt mm u = c_rt m u := fun u => c_rt_congr (hm 3 (by decide)) (hm 4 (by decide)) (hm 5 (by decide)) (hm 6 (by decide))
      have ev := hE v lv
      have ez := hE _ lz
      obtain ⟨x, x1, x2, x3⟩ := c_cmp (m := mm) (a := v) (b := mm 17 (p - g)) hf ⟨by omega, by omega⟩ ⟨by omega, by omega⟩ (by rw [hm 7 (by decide)]; exact ⟨by omega, by omega⟩) (by rw [hm 7 (by decide)]; exact ⟨by omega, by omega⟩) (by rw [ert]; exact ev.2) (by rw [ert]; exact ez.2)
      rw [s_key_cg hm, s_key_cg hm] at x3
      by_cases cx : x < 0
      · generalize hm1 : vl_up mm 17 p (mm 17 (p - g)) = m1
        have m1h : ∀ h : Nat, h ≠ 17 → m1 h = m h := fun h z => by rw [← hm1, up_h _ _ _ z, hm h z]
        have m117 : m1 17 = h_u (mm 17) p (mm 17 (p - g)) := by rw [← hm1, h_u_up]
        obtain ⟨q, mm', g1, g2, g3, ⟨g4, g5⟩, g6⟩ := ih (p - g) m1 (by omega) (by omega) (by omega) m1h (by
          refine s_B_swap (H1 := h_u (mm 17) p v) (p := p) (q := p - g) ⟨h1, by omega⟩ ⟨by omega, by omega⟩ ?_ ?_ (fun k z1 z2 => ?_) hB
          · rw [h_u_n _ _ (by omega), m117, h_u_s, h_u_n _ _ (by omega)]
          · rw [h_u_s, h_u_s]
          · rw [h_u_n _ _ z2, m117, h_u_n _ _ z1, h_u_n _ _ z1]) (fun e => by
          subst e
          rw [m117]
          exact s_iv_step ⟨by omega, h2⟩ (x3.mp cx) (hI rfl))
        refine ⟨q, mm', ?_, ⟨g2.1, by omega⟩, g3, ⟨fun k hk => ?_, g5⟩, g6⟩
        · rw [fn_X1_sort_L52, pu_gd ⟨by omega, by omega⟩, pu_gd ⟨by omega, by omega⟩, if_neg c, pu_gd ⟨by omega, by omega⟩, x1, Option.bind_some, pu_gd x2, if_pos cx, pu_gd ⟨by omega, by omega⟩, pu_lt, hm1, pu_lt, g1]
        · rw [g4 k hk, m117, h_u_n _ _ (by omega)]
      · refine ⟨p, mm, ?_, ⟨h1, h2⟩, hm, ⟨fun _ _ => rfl, hB⟩, fun e => s_iv_end (s_key_len m f) ⟨h1, h2⟩ (Or.inr ?_) (hI e)⟩
        · rw [fn_X1_sort_L52, pu_gd ⟨by omega, by omega⟩, pu_gd ⟨by omega, by omega⟩, if_neg c, pu_gd ⟨by omega, by omega⟩, x1, Option.bind_some, pu_gd x2, if_neg cx]
        · subst e
          cases hh : lx (s_key m f v) (s_key m f (mm 17 (p - 1))) with
          | false => rfl
          | true => exact absurd (x3.mpr hh) cx
theorem c_s33 {w N : Nat} {m : vl_M} {f g lo hi v1 : Int} {P : Int → Prop} {κ : Int → vl_M → Option vl_M} (hN : 100000 ≤ N) (hPm : s_P w m) (hE : s_E m) (hPE : ∀ z, P z → c_LE m z) (hf : vl_r32 f) (hlo : 0 ≤ lo ∧ lo ≤ 100000) (hhi : 0 ≤ hi ∧ hi ≤ 400) (hg : 1 ≤ g ∧ g ≤ 200) : ∀ (n fu : Nat) (i : Int) (mm : vl_M), lo ≤ i → i ≤ 200000 → hi - i ≤ (n : Int) → n < fu → (∀ h : Nat, h ≠ 17 → mm h = m h) → s_B (mm 17) lo hi P → (g = 1 → ∀ a b, lo ≤ a → a < b → b < i → lx (s_key m f (mm 17 b)) (s_key m f (mm 17 a)) = false) →
    ∃ z mm', fn_X1_sort_L33 N lo hi f v1 g κ fu i mm = κ z mm' ∧ (∀ h : Nat, h ≠ 17 → mm' h = m h) ∧ ((∀ k, (k < lo ∨ hi ≤ k) → mm' 17 k = mm 17 k) ∧ s_B (mm' 17) lo hi P) ∧ (g = 1 → ∀ a b, lo ≤ a → a < b → b < hi → lx (s_key m f (mm' 17 b)) (s_key m f (mm' 17 a)) = false) := by
  intro n
  induction n with
  | zero =>
    intro fu i mm h1 h1' h2 h3 hm hB hs
    obtain ⟨fu, rfl⟩ : ∃ x, fu = x + 1 := ⟨fu - 1, by omega⟩
    refine ⟨i, mm, ?_, hm, ⟨fun _ _ => rfl, hB⟩, fun e a b a1 a2 a3 => hs e a b a1 a2 (by omega)⟩
    rw [fn_X1_sort_L33, pu_gd ⟨by omega, by omega⟩, pu_gd ⟨by omega, by omega⟩, if_neg (by omega)]
  | succ n ih =>
    intro fu i mm h1 h1' h2 h3 hm hB hs
    obtain ⟨fu, rfl⟩ : ∃ x, fu = x + 1 := ⟨fu - 1, by omega⟩
    by_cases c : i < hi
    · obtain ⟨q, m1, g1, g2, g3, ⟨g4, g5⟩, g6⟩ := c_s52 (w := w) (N := N) (m := m) (f := f) (g := g) (v := mm 17 i) (lo := lo) (hi := hi) (i := i) (a2 := hi) (v1 := v1) (v10 := i) (P := P) (κ := fun (v22 : Int) (m23 : vl_M) => vl_gd (0 ≤ v22 ∧ v22 < 400) <| vl_lt (vl_up m23 17 v22 (mm 17 i)) fun m24 => vl_lt (i + 1) fun v27 => fn_X1_sort_L33 N lo hi f v1 g κ fu v27 m24) hPm hE hPE hf hlo.1 hhi.2 c hg N i mm h1 (Int.le_refl _) (by omega) hm (by rw [h_u_self]; exact hB) (fun e => ⟨fun a b a1 a2 a3 a4 a5 => hs e a b a1 a2 (by omega), fun b b1 b2 => by omega⟩)
      have m217 : vl_up m1 17 q (mm 17 i) 17 = h_u (m1 17) q (mm 17 i) := h_u_up _ _ _ _
      obtain ⟨z, mm', s1, s2, ⟨s3, s4⟩, s5⟩ := ih fu (i + 1) (vl_up m1 17 q (mm 17 i)) (by omega) (by omega) (by omega) (by omega) (fun h y => by rw [up_h _ _ _ y, g3 h y]) (by rw [m217]; exact g5) (fun e a b a1 a2 a3 => by rw [m217]; exact g6 e a b a1 a2 (by omega))
      refine ⟨z, mm', ?_, s2, ⟨fun k hk => ?_, s4⟩, s5⟩
      · rw [fn_X1_sort_L33, pu_gd ⟨by omega, by omega⟩, pu_gd ⟨by omega, by omega⟩, if_pos c, pu_gd ⟨by omega, by omega⟩, pu_lt, g1, pu_gd ⟨by omega, by omega⟩, pu_lt, pu_lt, s1]
      · rw [s3 k hk, m217, h_u_n _ _ (by omega), g4 k (by omega)]
    · refine ⟨i, mm, ?_, hm, ⟨fun _ _ => rfl, hB⟩, fun e a b a1 a2 a3 => hs e a b a1 a2 (by omega)⟩
      rw [fn_X1_sort_L33, pu_gd ⟨by omega, by omega⟩, pu_gd ⟨by omega, by omega⟩, if_neg c]
theorem c_s13 {w N : Nat} {m : vl_M} {f lo hi : Int} {P : Int → Prop} (hN : 100000 ≤ N) (hPm : s_P w m) (hE : s_E m) (hPE : ∀ z, P z → c_LE m z) (hf : vl_r32 f) (hlo : 0 ≤ lo ∧ lo ≤ 100000) (hhi : 0 ≤ hi ∧ hi ≤ 400) : ∀ (n fu : Nat) (v1 : Int) (mm : vl_M), 0 ≤ v1 → v1 + (n : Int) = 5 → n < fu → (∀ h : Nat, h ≠ 17 → mm h = m h) → s_B (mm 17) lo hi P → (v1 = 5 → ∀ a b, lo ≤ a → a < b → b < hi → lx (s_key m f (mm 17 b)) (s_key m f (mm 17 a)) = false) →
    ∃ mm', fn_X1_sort_L13 N lo hi f (fun (v3 : Int) (m4 : vl_M) => some m4) fu v1 mm = some mm' ∧ (∀ h : Nat, h ≠ 17 → mm' h = m h) ∧ ((∀ k, (k < lo ∨ hi ≤ k) → mm' 17 k = mm 17 k) ∧ s_B (mm' 17) lo hi P) ∧ ∀ a b, lo ≤ a → a < b → b < hi → lx (s_key m f (mm' 17 b)) (s_key m f (mm' 17 a)) = false := by
  intro n
  induction n with
  | zero =>
    intro fu v1 mm h0 h1 h2 hm hB hs
    obtain ⟨fu, rfl⟩ : ∃ x, fu = x + 1 := ⟨fu - 1, by omega⟩
    refine ⟨mm, ?_, hm, ⟨fun _ _ => rfl, hB⟩, hs (by omega)⟩
    rw [fn_X1_sort_L13, pu_gd ⟨by omega, by omega⟩, if_neg (by omega)]
  | succ n ih =>
    intro fu v1 mm h0 h1 h2 hm hB hs
    obtain ⟨fu, rfl⟩ : ∃ x, fu = x + 1 := ⟨fu - 1, by omega⟩
    have hg : 1 ≤ vl_gap v1 ∧ vl_gap v1 ≤ 200 ∧ (v1 = 4 → vl_gap v1 = 1) := by
      unfold vl_gap
      by_cases c0 : v1 = 0
      · rw [if_pos c0]; omega
      rw [if_neg c0]
      by_cases c1 : v1 = 1
      · rw [if_pos c1]; omega
      rw [if_neg c1]
      by_cases c2 : v1 = 2
      · rw [if_pos c2]; omega
      rw [if_neg c2]
      by_cases c3 : v1 = 3
      · rw [if_pos c3]; omega
      rw [if_neg c3]
      omega
    obtain ⟨z, m1, g1, g2, ⟨g3, g4⟩, g5⟩ := c_s33 (w := w) (N := N) (m := m) (f := f) (g := vl_gap v1) (lo := lo) (hi := hi) (v1 := v1) (P := P) (κ := fun (v12 : Int) (m13 : vl_M) => vl_lt (v1 + 1) fun v14 => fn_X1_sort_L13 N lo hi f (fun (v3 : Int) (m4 : vl_M) => some m4) fu v14 m13) hN hPm hE hPE hf hlo hhi ⟨hg.1, hg.2.1⟩ 400 N (lo + vl_gap v1) mm (by omega) (by omega) (by omega) (by omega) hm hB (fun e a b a1 a2 a3 => by omega)
    obtain ⟨mm', s1, s2, ⟨s3, s4⟩, s5⟩ := ih fu (v1 + 1) m1 (by omega) (by omega) (by omega) g2 g4 (fun e => g5 (hg.2.2 (by omega)))
    refine ⟨mm', ?_, s2, ⟨fun k hk => by rw [s3 k hk, g3 k hk], s4⟩, s5⟩
    rw [fn_X1_sort_L13, pu_gd ⟨by omega, by omega⟩, if_pos (by omega), pu_gd ⟨by omega, by omega⟩, pu_lt, pu_lt, g1, pu_lt, s1]
/-- the reference's: one goes down -/
theorem d_s22 {N : Nat} {m r : vl_M} {φ : Int → Int} {f v lo hi i a2 v1 : Int} {P : Int → Prop} {κ : Int → vl_M → Option vl_M} (hN : 100000 ≤ N) (hE : ∀ z, P z → ((0 ≤ φ z ∧ φ z < 400) ∧ r 24 (φ z) = m 7 z ∧ d_rt r (-1) (φ z) = c_rt m z) ∧ vl_r32 (m 7 z) ∧ r_ok (c_rt m z)) (hf : vl_r32 f) (hlo : 0 ≤ lo) (hhi : hi ≤ 400) (hi' : i < hi) : ∀ (fu : Nat) (p : Int) (G : Int → Int) (rr : vl_M), lo ≤ p → p ≤ i → p - lo < (fu : Int) → (∀ h : Nat, h ≠ 45 → rr h = r h) → (∀ k, 0 ≤ k → k < 400 → k ≠ p → lo ≤ k → k < hi → rr 45 k = φ (G k)) → s_B (h_u G p v) lo hi P → s_iv (s_key m f) G p v i lo →
    ∃ q G' rr', fn_X8_sort_L22 N lo a2 f v1 (φ v) κ fu p rr = κ q rr' ∧ (lo ≤ q ∧ q ≤ i) ∧ (∀ h : Nat, h ≠ 45 → rr' h = r h) ∧ ((∀ k, (k < lo ∨ i < k) → rr' 45 k = rr 45 k) ∧ (∀ k, (k < lo ∨ i < k) → G' k = G k) ∧ (∀ k, 0 ≤ k → k < 400 → k ≠ q → lo ≤ k → k < hi → rr' 45 k = φ (G' k)) ∧ s_B (h_u G' q v) lo hi P) ∧ ∀ a b, lo ≤ a → a < b → b ≤ i → lx (s_key m f (h_u G' q v b)) (s_key m f (h_u G' q v a)) = false := by
  intro fu
  induction fu with
  | zero => intro p G rr h1 h2 h3; omega
  | succ fu ih =>
    intro p G rr h1 h2 h3 hr hG hB hI
    have hPv : P v := (hB.1 v).mpr ⟨p, h1, by omega, h_u_s _ _ _⟩
    by_cases c : lo < p
    · have hPz : P (G (p - 1)) := (hB.1 _).mpr ⟨p - 1, by omega, by omega, by rw [h_u_n _ _ (by omega)]⟩
      obtain ⟨⟨v1', v2, v3⟩, v4, v5⟩ := hE v hPv
      obtain ⟨⟨z1, z2, z3⟩, z4, z5⟩ := hE _ hPz
      have ert : ∀ t, d_rt rr (-1) t = d_rt r (-1) t := fun t => d_rt_neg (hr 25 (by decide)) t
      have hcmp := d_packed (N := N) (m := m) (r := rr) (φ := φ) (a := v) (b := G (p - 1)) hN hf ⟨v1', by rw [hr 24 (by decide)]; exact v2, by rw [ert]; exact v3⟩ ⟨z1, by rw [hr 24 (by decide)]; exact z2, by rw [ert]; exact z3⟩ v4 z4 v5 z5
      have e45 : rr 45 (p - 1) = φ (G (p - 1)) := hG (p - 1) (by omega) (by omega) (by omega) (by omega) (by omega)
      by_cases cl : lx (s_key m f v) (s_key m f (G (p - 1))) = true
      · rw [if_pos cl] at hcmp
        generalize hr1 : vl_up rr 45 p (φ (G (p - 1))) = r1
        have r1h : ∀ h : Nat, h ≠ 45 → r1 h = r h := fun h z => by rw [← hr1, up_h _ _ _ z, hr h z]
        have r145 : ∀ k, r1 45 k = if k = p then φ (G (p - 1)) else rr 45 k := fun k => by
          rw [← hr1]
          by_cases z : k = p
          · rw [z, up_s, if_pos rfl]
          · rw [up_i _ _ z, if_neg z]
        obtain ⟨q, G', rr', g1, g2, g3, ⟨g4, g4', g5, g6⟩, g7⟩ := ih (p - 1) (h_u G p (G (p - 1))) r1 (by omega) (by omega) (by omega) r1h (fun k k1 k2 k3 k4 k5 => by
          rw [r145]
          by_cases z : k = p
          · rw [if_pos z, z, h_u_s]
          · rw [if_neg z, h_u_n _ _ z]; exact hG k k1 k2 z k4 k5) (by
          refine s_B_swap (H1 := h_u G p v) (p := p) (q := p - 1) ⟨h1, by omega⟩ ⟨by omega, by omega⟩ ?_ ?_ (fun k y1 y2 => ?_) hB
          · rw [h_u_n _ _ (by omega), h_u_s, h_u_n _ _ (by omega)]
          · rw [h_u_s, h_u_s]
          · rw [h_u_n _ _ y2, h_u_n _ _ y1, h_u_n _ _ y1]) (s_iv_step ⟨c, h2⟩ cl hI)
        refine ⟨q, G', rr', ?_, ⟨g2.1, by omega⟩, g3, ⟨fun k hk => ?_, fun k hk => ?_, g5, g6⟩, g7⟩
        · rw [fn_X8_sort_L22, pu_gd ⟨by omega, by omega⟩, pu_gd ⟨by omega, by omega⟩, if_pos c, pu_gd ⟨by omega, by omega⟩, e45, hcmp, Option.bind_some, pu_gd (by decide), if_neg (by decide), pu_gd ⟨by omega, by omega⟩, pu_lt, hr1, pu_lt, show p + -1 = p - 1 by omega, g1]
        · rw [g4 k hk, r145, if_neg (by omega)]
        · rw [g4' k hk, h_u_n _ _ (by omega)]
      · rw [if_neg cl] at hcmp
        refine ⟨p, G, rr, ?_, ⟨h1, h2⟩, hr, ⟨fun _ _ => rfl, fun _ _ => rfl, hG, hB⟩, s_iv_end (s_key_len m f) ⟨h1, h2⟩ (Or.inr ?_) hI⟩
        · rw [fn_X8_sort_L22, pu_gd ⟨by omega, by omega⟩, pu_gd ⟨by omega, by omega⟩, if_pos c, pu_gd ⟨by omega, by omega⟩, e45, hcmp, Option.bind_some, pu_gd (by decide), if_pos rfl]
        · cases hh : lx (s_key m f v) (s_key m f (G (p - 1))) with
          | false => rfl
          | true => exact absurd hh cl
    · refine ⟨p, G, rr, ?_, ⟨h1, h2⟩, hr, ⟨fun _ _ => rfl, fun _ _ => rfl, hG, hB⟩, s_iv_end (s_key_len m f) ⟨h1, h2⟩ (Or.inl (by omega)) hI⟩
      rw [fn_X8_sort_L22, pu_gd ⟨by omega, by omega⟩, pu_gd ⟨by omega, by omega⟩, if_neg c]
theorem d_s3 {N : Nat} {m r : vl_M} {φ : Int → Int} {f lo hi : Int} {P : Int → Prop} {κ : Int → vl_M → Option vl_M} (hN : 100000 ≤ N) (hE : ∀ z, P z → ((0 ≤ φ z ∧ φ z < 400) ∧ r 24 (φ z) = m 7 z ∧ d_rt r (-1) (φ z) = c_rt m z) ∧ vl_r32 (m 7 z) ∧ r_ok (c_rt m z)) (hf : vl_r32 f) (hlo : 0 ≤ lo ∧ lo ≤ hi) (hhi : hi ≤ 400) : ∀ (n fu : Nat) (i : Int) (G : Int → Int) (rr : vl_M), lo ≤ i → i + (n : Int) = hi → n < fu → (∀ h : Nat, h ≠ 45 → rr h = r h) → (∀ k, 0 ≤ k → k < 400 → lo ≤ k → k < hi → rr 45 k = φ (G k)) → s_B G lo hi P → (∀ a b, lo ≤ a → a < b → b < i → lx (s_key m f (G b)) (s_key m f (G a)) = false) →
    ∃ G' rr', fn_X8_sort_L3 N lo hi f κ fu i rr = κ hi rr' ∧ (∀ h : Nat, h ≠ 45 → rr' h = r h) ∧ ((∀ k, (k < lo ∨ hi ≤ k) → rr' 45 k = rr 45 k ∧ G' k = G k) ∧ (∀ k, 0 ≤ k → k < 400 → lo ≤ k → k < hi → rr' 45 k = φ (G' k)) ∧ s_B G' lo hi P) ∧ ∀ a b, lo ≤ a → a < b → b < hi → lx (s_key m f (G' b)) (s_key m f (G' a)) = false := by
  intro n
  induction n with
  | zero =>
    intro fu i G rr h1 h2 h3 hr hG hB hs
    obtain ⟨fu, rfl⟩ : ∃ x, fu = x + 1 := ⟨fu - 1, by omega⟩
    refine ⟨G, rr, ?_, hr, ⟨fun _ _ => ⟨rfl, rfl⟩, hG, hB⟩, fun a b a1 a2 a3 => hs a b a1 a2 (by omega)⟩
    rw [fn_X8_sort_L3, pu_gd ⟨by omega, by omega⟩, pu_gd ⟨by omega, by omega⟩, if_neg (by omega), show i = hi by omega]
  | succ n ih =>
    intro fu i G rr h1 h2 h3 hr hG hB hs
    obtain ⟨fu, rfl⟩ : ∃ x, fu = x + 1 := ⟨fu - 1, by omega⟩
    have e45 : rr 45 i = φ (G i) := hG i (by omega) (by omega) h1 (by omega)
    obtain ⟨q, G1, r1, g1, g2, g3, ⟨g4, g4', g5, g6⟩, g7⟩ := d_s22 (N := N) (m := m) (r := r) (φ := φ) (f := f) (v := G i) (lo := lo) (hi := hi) (i := i) (a2 := hi) (v1 := i) (P := P) (κ := fun (v12 : Int) (m13 : vl_M) => vl_gd (0 ≤ v12 ∧ v12 < 400) <| vl_lt (vl_up m13 45 v12 (φ (G i))) fun m14 => vl_lt (i + 1) fun v17 => fn_X8_sort_L3 N lo hi f κ fu v17 m14) hN hE hf hlo.1 hhi (by omega) N i G rr h1 (Int.le_refl _) (by omega) hr (fun k k1 k2 _ k4 k5 => hG k k1 k2 k4 k5) (by rw [h_u_self]; exact hB) ⟨fun a b a1 a2 a3 a4 a5 => hs a b a1 a2 (by omega), fun b b1 b2 => by omega⟩
    have r245 : ∀ k, vl_up r1 45 q (φ (G i)) 45 k = if k = q then φ (G i) else r1 45 k := fun k => by
      by_cases z : k = q
      · rw [z, up_s, if_pos rfl]
      · rw [up_i _ _ z, if_neg z]
    obtain ⟨G', rr', s1, s2, ⟨s3, s4, s5⟩, s6⟩ := ih fu (i + 1) (h_u G1 q (G i)) (vl_up r1 45 q (φ (G i))) (by omega) (by omega) (by omega) (fun h z => by rw [up_h _ _ _ z, g3 h z]) (fun k k1 k2 k4 k5 => by
      rw [r245]
      by_cases z : k = q
      · rw [if_pos z, z, h_u_s]
      · rw [if_neg z, h_u_n _ _ z]; exact g5 k k1 k2 z k4 k5) g6 (fun a b a1 a2 a3 => g7 a b a1 a2 (by omega))
    refine ⟨G', rr', ?_, s2, ⟨fun k hk => ?_, s4, s5⟩, s6⟩
    · rw [fn_X8_sort_L3, pu_gd ⟨by omega, by omega⟩, pu_gd ⟨by omega, by omega⟩, if_pos (by omega), pu_gd ⟨by omega, by omega⟩, pu_lt, e45, g1, pu_gd ⟨by omega, by omega⟩, pu_lt, pu_lt, s1]
    · obtain ⟨t1, t2⟩ := s3 k hk
      rw [t1, t2, r245, if_neg (by omega), h_u_n _ _ (by omega), g4 k (by omega), g4' k (by omega)]
      exact ⟨rfl, rfl⟩
/-- both sort a stretch: they stay alike -/
theorem q_sort {w N : Nat} {m r : vl_M} {φ : Int → Int} {f lo hi : Int} {mm rr : vl_M} {G : Int → Int} {P : Int → Prop} (hN : 100000 ≤ N) (hP : s_P w m) (hE : s_E m) (hse : q_se m r φ) (hD : q_D m) (hf : vl_r32 f) (hlo : 0 ≤ lo ∧ lo ≤ hi) (hhi : hi ≤ 400) (hm : ∀ h : Nat, h ≠ 17 → mm h = m h) (hr : ∀ h : Nat, h ≠ 45 → rr h = r h) (hPE : ∀ z, P z → c_LE m z) (hBm : s_B (mm 17) lo hi P) (hBg : s_B G lo hi P) (hG : ∀ k, lo ≤ k → k < hi → rr 45 k = φ (G k)) :
    ∃ mm' rr', fn_X1_sort N mm lo hi f = some mm' ∧ fn_X8_sort N rr lo hi f = some rr' ∧ (∀ h : Nat, h ≠ 17 → mm' h = m h) ∧ (∀ h : Nat, h ≠ 45 → rr' h = r h) ∧ (∀ k, (k < lo ∨ hi ≤ k) → mm' 17 k = mm 17 k ∧ rr' 45 k = rr 45 k) ∧ (∀ k, lo ≤ k → k < hi → rr' 45 k = φ (mm' 17 k)) ∧ s_B (mm' 17) lo hi P := by
  obtain ⟨mm', a1, a2, ⟨a3, a4⟩, a5⟩ := c_s13 (P := P) (m := m) hN hP hE hPE hf ⟨hlo.1, by omega⟩ ⟨by omega, hhi⟩ 5 N 0 mm (by omega) (by omega) (by omega) hm hBm (fun e => by omega)
  obtain ⟨G', rr', b1, b2, ⟨b3, b4, b5⟩, b6⟩ := d_s3 (P := P) (m := m) (κ := fun (v3 : Int) (m4 : vl_M) => some m4) hN (fun z hz => ⟨hse z (hPE z hz), by have := (hE z (hPE z hz)).1; exact ⟨by omega, by omega⟩, (hE z (hPE z hz)).2⟩) hf hlo hhi (hi - lo).toNat N lo G rr (Int.le_refl _) (by omega) (by omega) hr (fun k _ _ k1 k2 => hG k k1 k2) hBg (fun a b x y z => by omega)
  have hu := s_uni (s_key_len m f) (fun a b ha hb e => by
    have la := hPE a ha
    have lb := hPE b hb
    have h7 : m 7 a = m 7 b ∧ c_rt m a = c_rt m b := by
      unfold s_key at e
      by_cases c : f = 0
      · rw [if_pos c, if_pos c] at e
        injection e with e1 e
        injection e with e2 e
        injection e with e3 e
        injection e with e4 e
        injection e with e5 e
        injection e with e6 e
        injection e with e7 e
        exact ⟨e3, by unfold c_rt; rw [e4, e5, e6, e7]⟩
      · rw [if_neg c, if_neg c] at e
        injection e with e1 e
        injection e with e2 e
        injection e with e3 e
        injection e with e4 e
        injection e with e5 e
        injection e with e6 e
        injection e with e7 e
        exact ⟨e3, by unfold c_rt; rw [e4, e5, e6, e7]⟩
    exact hD a b la lb h7.1 h7.2) a4 b5 a5 b6
  refine ⟨mm', rr', a1, b1, a2, b2, fun k hk => ⟨a3 k hk, (b3 k hk).1⟩, fun k k1 k2 => ?_, a4⟩
  rw [b4 k (by omega) (by omega) k1 k2, hu (k - lo).toNat.succ k k1 k2 (by omega)]
