/-! ===== PURE, 36: remove, as far as the tree ===== -/
theorem c_con_ex {w : Nat} {m : vl_M} {X : Int → Prop} (hK : s_K w m X) (hA : s_A w m X) (hX : ∀ x, ¬ X x) : ∀ (n : Nat) (u : Int), c_LN m u → 100 - m 2 u ≤ (n : Int) → ∃ k, c_con m X k u := by
  intro n
  induction n with
  | zero => intro u hu h; have := (hK u hu).1.1; omega
  | succ n ih =>
    intro u hu h
    by_cases c : u = m 11 6
    · exact ⟨0, c⟩
    · obtain ⟨b1, b2, -⟩ := q_up1 hK hA (Or.inr hu) c (hX u)
      obtain ⟨k, hk⟩ := ih (m 8 u) b1 (by omega)
      exact ⟨k + 1, c, hX u, hk⟩
theorem q_DNV_cg {w : Nat} {m m' : vl_M} (hP : s_P w m) (h12 : m' 1 12 = m 1 12) (h13 : m' 1 13 = m 1 13) (h2 : ∀ e, 0 ≤ e → e < 400 → m' 2 e = m 2 e) (h7 : ∀ e, 0 ≤ e → e < 400 → m' 7 e = m 7 e) (hrt : ∀ e, 0 ≤ e → e < 400 → c_rt m' e = c_rt m e) (g : q_D m ∧ q_N m ∧ q_V m) : q_D m' ∧ q_N m' ∧ q_V m' := by
  obtain ⟨g1, g2, g3⟩ := g
  have hp := hP.2.2.2.2
  have hLE : ∀ e, c_LE m' e → c_LE m e := fun e he => by
    obtain ⟨x, y⟩ := he
    rw [h13] at x
    rw [h2 e x.1 (by omega)] at y
    exact ⟨x, y⟩
  refine ⟨fun e e' he he' x y => ?_, q_N_congr h12 h13 h2 g2, fun e e1 e2 => by rw [h2 e e1 e2]; exact g3 e e1 e2⟩
  have l1 := c_LE_lt hP (hLE e he)
  have l2 := c_LE_lt hP (hLE e' he')
  rw [h7 e l1.1 l1.2, h7 e' l2.1 l2.2] at x
  rw [hrt e l1.1 l1.2, hrt e' l2.1 l2.2] at y
  exact g1 e e' (hLE e he) (hLE e' he') x y
/-- what all calls that change the tree keep -/
def q_Ft (k : Int) (m m' r r' : vl_M) : Prop := ((∀ h : Nat, 16 ≤ h → m' h = m h) ∧ (∀ j, 20 ≤ j → r' 23 j = r 23 j)) ∧ ((m 11 7 ≤ m' 11 7 ∧ m' 11 7 ≤ m 11 7 + k) ∧ (m 11 8 ≤ m' 11 8 ∧ m' 11 8 ≤ m 11 8 + k) ∧ (m 11 9 ≤ m' 11 9 ∧ m' 11 9 ≤ m 11 9 + k)) ∧ r' 23 14 - r 23 14 = m' 11 9 - m 11 9
set_option maxHeartbeats 1000000 in
theorem q_remove1 {w N : Nat} {m r : vl_M} {φ : Int → Int} {e : Int} (hN : 100000 ≤ N) (h : q_B w m r φ) (he : c_LE m e) :
    ∃ m' r' ψ, fn_X5_take w N m e = some m' ∧ ((fn_X8_leafOf N r (φ e)).bind fun b6 => (fn_X8_takeFrom N r b6 (φ e)).bind fun m8 => vl_gd (0 ≤ (φ e) ∧ (φ e) < 401) <| vl_lt (vl_up m8 24 (φ e) (-2)) fun m9 => vl_lt (vl_up m9 23 5 ((m9 23 5) - 1)) fun m12 => vl_lt (vl_up m12 23 17 0) fun m13 => fn_X8_remove_L81 N  (fun (v16 : Int) (m17 : vl_M) => 
    vl_lt (vl_up m17 23 14 ((m17 23 14) + (m17 23 17))) fun m18 => fn_X8_remove_L243 N  (fun (v21 : Int) (m22 : vl_M) => 
    fn_X8_remove_L276 N  (fun (m24 : vl_M) => 
    some ((m24 23 5), m24)) N m22) N 0 m18) N b6 m13) = some (r' 23 5, r') ∧ q_B w m' r' ψ ∧ q_Ft 400 m m' r r' := by
  obtain ⟨hI, ⟨hZ, hW⟩, hDNV⟩ := h
  obtain ⟨⟨hP, hK, hA, hR⟩, ⟨hE, hS⟩, hT, ⟨hsn, hsi, hso, hse⟩, hrr⟩ := id hI
  have hw11 : w ≤ 11 := hP.1.2
  have hw5 : 5 ≤ w := hP.1.1
  have hpl := hP.2.2.1
  have hge : ∀ t, c_LN m t → t ≠ m 11 6 → 2 ≤ m 9 t := fun t ht hr => by have := (hZ.1 t ht).1 hr (by have := ht.1; omega); omega
  have hel := c_LE_lt hP he
  have her : e ≠ m 11 6 := fun z => by have := hR.1.1.1; omega
  obtain ⟨b1, b2, i, i1, i2, b3⟩ := q_up1 hK hA (Or.inl he) her (fun z => z)
  have hl0 : m 2 (m 8 e) = 0 := by rw [b2, he.2]; rfl
  have hLnd := c_LN_nd hP b1
  have hzL := (hK _ b1).1.2
  have hleaf := q_leafOf hN hI he (fun z => z)
  have hφe := (hse e he).1
  have hrlow := q_root_low hP hK hge hR.1.1 hZ.2
  obtain ⟨⟨n1, n2, n3⟩, n4, -⟩ := hsn _ b1
  have hq1 := q_del (p := i) hI (Or.inr (by decide)) b1 ⟨i1, i2⟩
  rw [b3] at hq1
  have kE : ∀ j, 0 ≤ j → j < m 9 (m 8 e) → c_LE m (c_k w m (m 8 e) j) := fun j j1 j2 => by
    have := (hK _ b1).2 j j1 j2
    exact c_LT_E this.1.1 (by omega)
  have hfirst : ∀ j, 0 ≤ j → j < i → c_k w m (m 8 e) j ≠ e := fun j j1 j2 z => by
    have := ((hK _ b1).2 j j1 (by omega)).2.2 i i1 i2 (by rw [z, b3])
    omega
  have hcw : c_w w N m := ⟨hw5, hw11, hN, hP.2.1.1⟩
  have hdet : fn_X4_detach w N m e = some (c_del w m (m 8 e) i) := c_detach hcw ⟨by omega, by omega⟩ rfl hLnd (fun j j1 j2 => by have := c_LT_in hP ((hK _ b1).2 j j1 j2).1.1; exact ⟨by omega, by omega⟩) hzL.2 ⟨i1, i2⟩ b3 hfirst
  have htk : fn_X8_takeFrom N r (φ (m 8 e)) (φ e) = some (d_del r (φ (m 8 e)) i) := by
    refine d_takeFrom hN n1 ⟨by omega, by omega⟩ ⟨i1, by omega⟩ (by omega) (fun j j1 j2 => ?_) (by rw [n4 i i1 i2, b3]) (fun j j1 j2 z => ?_)
    · rw [n4 j j1 (by omega)]
      have := (hse _ (kE j j1 (by omega))).1
      exact ⟨by omega, by omega⟩
    · rw [n4 j j1 (by omega)] at z
      exact hfirst j j1 j2 (hsi.2 _ _ (kE j j1 (by omega)) he z)
  generalize hL : m 8 e = L at *
  have d1h : ∀ h : Nat, h ≠ 9 → h ≠ 10 → c_del w m L i h = m h := fun h x y => c_del_h _ _ _ _ x y
  have d19 : ∀ v, c_del w m L i 9 v = if v = L then m 9 L - 1 else m 9 v := fun v => c_del_9 _ _ _ _ _
  have d1r : ∀ h : Nat, h ≠ 27 → h ≠ 28 → d_del r (φ L) i h = r h := fun h x y => d_del_h _ _ _ x y
  generalize hm1 : c_del w m L i = m1 at *
  generalize hr1 : d_del r (φ L) i = r1 at *
  have hE1 : ∀ x, c_LE m1 x ↔ c_LE m x := fun x => by unfold c_LE; rw [d1h 1 (by decide) (by decide), d1h 2 (by decide) (by decide)]
  have hN1 : ∀ x, c_LN m1 x ↔ c_LN m x := fun x => by unfold c_LN; rw [d1h 1 (by decide) (by decide), d1h 2 (by decide) (by decide)]
  have hq2 := q_freeE (s := e) hq1 (Or.inr rfl) ((hE1 e).mpr he)
  have eX : (fun x => (False ∨ x = e) ∧ x ≠ e) = (fun x => x ∈ ([] : List Int)) := funext fun x => propext ⟨fun z => absurd (z.1.resolve_left id) z.2, fun z => (List.not_mem_nil z).elim⟩
  rw [eX] at hq2
  have r2_5 : vl_up r1 24 (φ e) (-2) 23 5 = r1 23 5 := by rw [up_h _ _ _ (by decide)]
  have f2h : ∀ h : Nat, h ≠ 1 → h ≠ 2 → h ≠ 8 → c_free m1 e h = m1 h := fun h x y z => c_free_h _ _ x y z
  have f21 : ∀ j, j ≠ 12 → j ≠ 14 → c_free m1 e 1 j = m 1 j := fun j x y => by rw [c_free_1 _ _ x y, d1h 1 (by decide) (by decide)]
  have f22 : ∀ v, c_free m1 e 2 v = if v = e then -2 else m 2 v := fun v => by rw [c_free_2, d1h 2 (by decide) (by decide)]
  have f212 : c_free m1 e 1 12 = m 1 12 - 1 := by rw [c_free_12, d1h 1 (by decide) (by decide)]
  have f2rt : ∀ v, c_rt (c_free m1 e) v = c_rt m v := fun v => c_rt_congr (by rw [f2h 3 (by decide) (by decide) (by decide), d1h 3 (by decide) (by decide)]) (by rw [f2h 4 (by decide) (by decide) (by decide), d1h 4 (by decide) (by decide)]) (by rw [f2h 5 (by decide) (by decide) (by decide), d1h 5 (by decide) (by decide)]) (by rw [f2h 6 (by decide) (by decide) (by decide), d1h 6 (by decide) (by decide)])
  have r2h : ∀ h : Nat, h ≠ 23 → h ≠ 24 → h ≠ 27 → h ≠ 28 → vl_up (vl_up r1 24 (φ e) (-2)) 23 5 (r1 23 5 - 1) h = r h := fun h x y z t => by rw [up_h _ _ _ x, up_h _ _ _ y, d1r h z t]
  have r223 : ∀ j, j ≠ 5 → vl_up (vl_up r1 24 (φ e) (-2)) 23 5 (r1 23 5 - 1) 23 j = r 23 j := fun j x => by rw [up_i _ _ x, up_h _ _ _ (by decide), d1r 23 (by decide) (by decide)]
  have hfe : fn_X4_freeEntry m1 e = some (c_free m1 e) := c_freeEntry ⟨by omega, by omega⟩
  generalize hm2 : c_free m1 e = m2 at *
  generalize hr2 : vl_up (vl_up r1 24 (φ e) (-2)) 23 5 (r1 23 5 - 1) = r2 at *
  -- none waits
  have hq3 : q_I w (vl_up m2 11 3 0) (vl_up r2 23 17 0) φ (fun x => x ∈ ([] : List Int)) L := by
    refine q_cg hq2 (up_h _ _ _ (by decide)) (up_h _ _ _ (by decide)) (up_h _ _ _ (by decide)) (up_h _ _ _ (by decide)) (up_h _ _ _ (by decide)) (fun u _ _ => c_rt_congr (up_h _ _ _ (by decide)) (up_h _ _ _ (by decide)) (up_h _ _ _ (by decide)) (up_h _ _ _ (by decide))) (fun u _ _ => by rw [up_h _ _ _ (by decide)]) (by rw [up_i _ _ (by decide)]) (fun h x y => up_h _ _ _ (by omega)) ⟨up_i _ _ (by decide), up_i _ _ (by decide)⟩ ⟨up_i _ _ (by decide), up_i _ _ (by decide)⟩ ⟨?_, ?_⟩
    · rw [up_i _ _ (by decide), up_i _ _ (by decide)]; exact hq2.2.2.2.2.2.2.2.1
    · rw [up_i _ _ (by decide), up_i _ _ (by decide)]; exact hq2.2.2.2.2.2.2.2.2
  have m3h : ∀ h : Nat, h ≠ 11 → vl_up m2 11 3 0 h = m2 h := fun h x => up_h _ _ _ x
  have m311 : ∀ j, j ≠ 3 → vl_up m2 11 3 0 11 j = m 11 j := fun j x => by rw [up_i _ _ x, f2h 11 (by decide) (by decide) (by decide), d1h 11 (by decide) (by decide)]
  have m33 : vl_up m2 11 3 0 11 3 = 0 := up_s _ _ _ _
  have r3h : ∀ h : Nat, h ≠ 23 → vl_up r2 23 17 0 h = r2 h := fun h x => up_h _ _ _ x
  have r323 : ∀ j, j ≠ 17 → vl_up r2 23 17 0 23 j = r2 23 j := fun j x => up_i _ _ x
  have r317 : vl_up r2 23 17 0 23 17 = 0 := up_s _ _ _ _
  generalize hm3 : vl_up m2 11 3 0 = m3 at *
  generalize hr3 : vl_up r2 23 17 0 = r3 at *
  have m32 : ∀ v, m3 2 v = if v = e then -2 else m 2 v := fun v => by rw [m3h 2 (by decide), f22]
  have m39 : ∀ v, m3 9 v = if v = L then m 9 L - 1 else m 9 v := fun v => by rw [m3h 9 (by decide), f2h 9 (by decide) (by decide) (by decide), d19]
  have m31 : ∀ j, j ≠ 12 → j ≠ 14 → m3 1 j = m 1 j := fun j x y => by rw [m3h 1 (by decide), f21 j x y]
  have neN : ∀ x, c_LN m x → x ≠ e := fun x hx z => by have := hx.1; omega
  have hN3 : ∀ x, c_LN m3 x ↔ c_LN m x := fun x => by
    unfold c_LN
    rw [m31 15 (by decide) (by decide), m32]
    by_cases c : x = e
    · rw [if_pos c]
      exact ⟨fun z => by omega, fun z => by omega⟩
    · rw [if_neg c]
  have m36 : m3 11 6 = m 11 6 := m311 6 (by decide)
  have m32L : m3 2 L = 0 := by rw [m32, if_neg (neN L b1), hl0]
  have m32r : m3 2 (m 11 6) = m 2 (m 11 6) := by rw [m32, if_neg (neN _ hR.1.1)]
  obtain ⟨k, hcon⟩ := c_con_ex hq3.1.2.1 hq3.1.2.2.1 (fun x => List.not_mem_nil) 100 L ((hN3 L).mpr b1) (by omega)
  have hklv := c_con_lv hq3.1.2.1 hq3.1.2.2.1 k L ((hN3 L).mpr b1) hcon
  rw [m36, m32r, m32L] at hklv
  have hZT : q_ZT m3 L := by
    unfold q_ZT q_W
    rw [m36, m31 1 (by decide) (by decide), m31 0 (by decide) (by decide), m32r]
    refine ⟨fun s hs => ?_, fun x => ⟨?_, fun y => ?_⟩, fun x y => ?_⟩
    · have hs' := (hN3 s).mp hs
      rw [m39]
      have h1 := (hZ.1 s hs').2 (by have := hs'.1; omega)
      refine ⟨fun x y => ?_, ?_⟩
      · rw [if_neg y]; exact (hZ.1 s hs').1 x (by have := hs'.1; omega)
      · by_cases c : s = L
        · rw [if_pos c, ← c]; omega
        · rw [if_neg c]; exact h1
    · rw [m39, if_pos rfl]
      have := (hZ.1 L b1).1 x (by omega)
      omega
    · rw [m39, if_neg (Ne.symm x)]; exact hW y
    · rw [← x, hl0] at y; omega
  obtain ⟨m4, r4, H, t1, t2, ⟨s1, s2⟩, ⟨s3, s4⟩, ⟨s5, s6, s7, s8⟩, s9, s10⟩ := q_thin (κ := fun (v4 : Int) (v5 : Int) (m6 : vl_M) => some m6) (κ' := fun (v16 : Int) (m17 : vl_M) => 
    vl_lt (vl_up m17 23 14 ((m17 23 14) + (m17 23 17))) fun m18 => fn_X8_remove_L243 N  (fun (v21 : Int) (m22 : vl_M) => 
    fn_X8_remove_L276 N  (fun (m24 : vl_M) => 
    some ((m24 23 5), m24)) N m22) N 0 m18) hN k m3 r3 [] L N N 0 hq3 ((hN3 L).mpr b1) List.not_mem_nil hcon hZT ⟨⟨m33, r317⟩, fun k x hx => by simp at hx⟩ List.nodup_nil (by rw [m32L]; simp) (fun x hx => (List.not_mem_nil hx).elim) (by rw [m36, m32r]; exact hrlow) (by omega) (by omega) (by omega) (by omega)
  -- the count of those that ever waited
  have hq4 : q_I w m4 (vl_up r4 23 14 (r4 23 14 + r4 23 17)) φ (fun x => x ∈ H) (-1) := by
    refine q_cg s3 rfl rfl rfl rfl rfl (fun _ _ _ => rfl) (fun _ _ _ => rfl) rfl (fun h x y => up_h _ _ _ (by omega)) ⟨up_i _ _ (by decide), up_i _ _ (by decide)⟩ ⟨up_i _ _ (by decide), up_i _ _ (by decide)⟩ ⟨?_, ?_⟩
    · rw [up_i _ _ (by decide)]; exact s3.2.2.2.2.2.2.2.1
    · rw [up_i _ _ (by decide)]; exact s3.2.2.2.2.2.2.2.2
  have r5h : ∀ h : Nat, h ≠ 23 → vl_up r4 23 14 (r4 23 14 + r4 23 17) h = r4 h := fun h x => up_h _ _ _ x
  have r523 : ∀ j, j ≠ 14 → vl_up r4 23 14 (r4 23 14 + r4 23 17) 23 j = r4 23 j := fun j x => up_i _ _ x
  have r514 : vl_up r4 23 14 (r4 23 14 + r4 23 17) 23 14 = r4 23 14 + r4 23 17 := up_s _ _ _ _
  generalize hr5 : vl_up r4 23 14 (r4 23 14 + r4 23 17) = r5 at *
  have hH5 : q_H m4 r5 φ H := by
    obtain ⟨⟨hH1, hH2⟩, hH3⟩ := s5
    unfold q_H
    rw [r523 17 (by decide), r5h 31 (by decide), r5h 32 (by decide)]
    exact ⟨⟨hH1, hH2⟩, hH3⟩
  obtain ⟨m6, r6, ψ, x1, x2, x3, x4, x5⟩ := q_reput (κ := fun (v13 : Int) (m14 : vl_M) => (fn_X5_lowerRoot w N m14).bind fun m16 => some m16) (κ' := fun (v21 : Int) (m22 : vl_M) => 
    fn_X8_remove_L276 N  (fun (m24 : vl_M) => 
    some ((m24 23 5), m24)) N m22) hN s6 s7 H.length 0 N N m4 r5 φ (by omega) (by omega) (by omega) (by rw [List.drop_zero]; exact hq4) s4 hH5 (fun x hx => s3.1.2.2.2.2.2 x hx) s8
  have hge6 : ∀ t, c_LN m6 t → t ≠ m6 11 6 → 2 ≤ m6 9 t := fun t ht hr => by
    have := (x4.1 t ht).1 hr (by have := ht.1; omega)
    have := x3.1.1.2.2.1
    omega
  have hrl6 := q_root_low x3.1.1 x3.1.2.1 hge6 x3.1.2.2.2.1.1 x4.2
  obtain ⟨m7, r7, z, y1, y2, y3, y4, y5⟩ := q_lowerL (κ := fun (v3 : Int) (m4 : vl_M) => some m4) (κ' := fun (m24 : vl_M) => some ((m24 23 5), m24)) hN 8 N N 0 m6 r6 hrl6 (by omega) (by omega) (by omega) (by omega) x3 x4
  refine ⟨m7, r7, ψ, ?_, ?_, ⟨y3, y4, ?_⟩, ?_⟩
  · unfold fn_X5_take
    rw [pu_gd ⟨by omega, by omega⟩, pu_lt, hL, hdet, Option.bind_some, hfe, Option.bind_some, pu_lt, hm3]
    unfold fn_X5_thinUpwards
    rw [s1, Option.bind_some]
    have x1' := x1
    rw [show ((0 : Nat) : Int) = 0 from rfl] at x1'
    rw [x1']
    unfold fn_X5_lowerRoot
    rw [y1, Option.bind_some]
  · rw [hleaf, Option.bind_some, htk, Option.bind_some, pu_gd ⟨by omega, by omega⟩, pu_lt, r2_5, pu_lt, hr2, pu_lt, hr3, s2, pu_lt]
    have x2' := x2
    rw [show ((0 : Nat) : Int) = 0 from rfl] at x2'
    rw [x2', y2]
  · -- no entry twice, their count
    have g2 : q_D m2 ∧ q_N m2 ∧ q_V m2 := by
      obtain ⟨gd, gn, gv⟩ := hDNV
      have hp := hP.2.2.2.2
      have hLE2 : ∀ x, c_LE m2 x → c_LE m x ∧ x ≠ e := fun x hx => by
        obtain ⟨q1, q2⟩ := hx
        rw [f21 13 (by decide) (by decide)] at q1
        rw [f22] at q2
        by_cases c : x = e
        · rw [if_pos c] at q2; omega
        · rw [if_neg c] at q2; exact ⟨⟨q1, q2⟩, c⟩
      refine ⟨fun a b ha hb p q => ?_, ?_, fun a a1 a2 => ?_⟩
      · rw [f2h 7 (by decide) (by decide) (by decide), d1h 7 (by decide) (by decide)] at p
        rw [f2rt, f2rt] at q
        exact gd a b (hLE2 a ha).1 (hLE2 b hb).1 p q
      · unfold q_N at gn ⊢
        have hk : ((e.toNat : Nat) : Int) = e := by omega
        have := pu_cnt_add (p := fun x => decide (m2 2 x = -1 ∧ x < m2 1 13)) (q := fun x => decide (m 2 x = -1 ∧ x < m 1 13)) (k := e.toNat) (decide_eq_false (by rw [hk, f22, if_pos rfl]; exact fun z => absurd z.1 (by decide))) (decide_eq_true (by rw [hk]; exact ⟨he.2, he.1.2⟩)) (fun j hj => by
          have hne : (j : Int) ≠ e := by omega
          rw [f22, if_neg hne, f21 13 (by decide) (by decide)]) 400 (by omega)
        rw [f212, gn, this]
        omega
      · rw [f22]
        by_cases c : a = e
        · rw [if_pos c]; decide
        · rw [if_neg c]; exact gv a a1 a2
    have g3 : q_D m3 ∧ q_N m3 ∧ q_V m3 := q_DNV_cg hq2.1.1 (by rw [m3h 1 (by decide)]) (by rw [m3h 1 (by decide)]) (fun a _ _ => by rw [m3h 2 (by decide)]) (fun a _ _ => by rw [m3h 7 (by decide)]) (fun a _ _ => c_rt_congr (m3h 3 (by decide)) (m3h 4 (by decide)) (m3h 5 (by decide)) (m3h 6 (by decide))) g2
    have g4 : q_D m4 ∧ q_N m4 ∧ q_V m4 := q_DNV_cg hq3.1.1 (s9.1.2.1 12 (by decide)) (s9.1.2.1 13 (by decide)) (fun a _ a2 => (s9.2.1 a (Or.inl a2)).1) (fun a _ _ => by rw [s9.1.1 7 (by omega)]) (fun a _ a2 => (s9.2.1 a (Or.inl a2)).2) g3
    have g6 := q_DNV_F x5 s3.1.1 g4
    exact q_DNV_cg x3.1.1 (y5.1.2.1 12 (by decide)) (y5.1.2.1 13 (by decide)) (fun a _ a2 => y5.2.1 a (Or.inl a2)) (fun a _ _ => by rw [y5.1.1 7 (by omega) (by decide)]) (fun a _ _ => c_rt_congr (y5.1.1 3 (by omega) (by decide)) (y5.1.1 4 (by omega) (by decide)) (y5.1.1 5 (by omega) (by decide)) (y5.1.1 6 (by omega) (by decide))) g6
  · obtain ⟨⟨a1, a2, a3⟩, a4, ⟨⟨a5, a6⟩, a7⟩, a8, a9⟩ := s9
    obtain ⟨⟨c1, c2, c3⟩, ⟨c4, c5⟩, ⟨c6, c7, c8⟩, c9, c10⟩ := x5
    obtain ⟨⟨e1, e2, e3⟩, e4, e5, e6⟩ := y5
    obtain ⟨⟨hH1, hH2⟩, -⟩ := s5
    have k7 : m7 11 7 = m6 11 7 := e3 7 (by decide)
    have k8 : m7 11 8 = m6 11 8 := e3 8 (by decide)
    have k9 : m7 11 9 = m6 11 9 := e3 9 (by decide)
    have l8 : m6 11 8 = m4 11 8 := c3 8 (by decide) (by decide)
    have l9 : m6 11 9 = m4 11 9 := c3 9 (by decide) (by decide)
    have q7 : m4 11 7 = m3 11 7 := a3 7 (by decide) (by decide) (by decide)
    have j7 : m3 11 7 = m 11 7 := m311 7 (by decide)
    have j8 : m3 11 8 = m 11 8 := m311 8 (by decide)
    have j9 : m3 11 9 = m 11 9 := m311 9 (by decide)
    have w14 : r7 23 14 = r5 23 14 := by rw [e6 14 (by decide), c10 14 (by decide) (by decide)]
    have w4 : r4 23 14 = r 23 14 := by rw [a9 14 (by decide) (by decide), r323 14 (by decide), r223 14 (by decide)]
    refine ⟨⟨fun h x => ?_, fun j x => ?_⟩, ⟨⟨by omega, by omega⟩, ⟨by omega, by omega⟩, ⟨by omega, by omega⟩⟩, by omega⟩
    · rw [e1 h (by omega) (by omega), c1 h (by omega), a1 h (by omega), m3h h (by omega), f2h h (by omega) (by omega) (by omega), d1h h (by omega) (by omega)]
    · rw [e6 j (by omega), c10 j (by omega) (by omega), r523 j (by omega), a9 j (by omega) (by omega), r323 j (by omega), r223 j (by omega)]
