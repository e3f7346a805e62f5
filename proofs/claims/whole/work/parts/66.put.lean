/-! ===== PURE, 27: putting a thing into the tree ===== -/
theorem pu_nmem {a b : Int} {l : List Int} : a ∉ b :: l ↔ (a ≠ b ∧ a ∉ l) := by
  rw [List.mem_cons]
  exact ⟨fun h => ⟨fun z => h (Or.inl z), fun z => h (Or.inr z)⟩, fun h z => z.elim h.1 h.2⟩
def c_cv (m : vl_M) (b : pR) : List Int → vl_M
  | [] => m
  | u :: P => c_set (c_cv m b P) u (r_cv (c_rt m u) b)
theorem c_cv_h (m : vl_M) (b : pR) {h : Nat} (h3 : h ≠ 3) (h4 : h ≠ 4) (h5 : h ≠ 5) (h6 : h ≠ 6) : ∀ P : List Int, c_cv m b P h = m h := by
  intro P
  induction P with
  | nil => rfl
  | cons u P ih => show c_set (c_cv m b P) u (r_cv (c_rt m u) b) h = m h; rw [c_set_h _ _ _ h3 h4 h5 h6, ih]
theorem c_cv_in (m : vl_M) (b : pR) : ∀ (P : List Int) (u : Int), u ∈ P → c_rt (c_cv m b P) u = r_cv (c_rt m u) b := by
  intro P
  induction P with
  | nil => intro u h; simp at h
  | cons p P ih =>
    intro u h
    show c_rt (c_set (c_cv m b P) p (r_cv (c_rt m p) b)) u = _
    by_cases c : u = p
    · rw [c, c_set_s]
    · rw [c_set_ne _ _ c]
      exact ih u ((List.mem_cons.mp h).resolve_left c)
theorem c_cv_out (m : vl_M) (b : pR) : ∀ (P : List Int) (u : Int), u ∉ P → c_rt (c_cv m b P) u = c_rt m u := by
  intro P
  induction P with
  | nil => intro u h; rfl
  | cons p P ih =>
    intro u h
    show c_rt (c_set (c_cv m b P) p (r_cv (c_rt m p) b)) u = _
    have h' := pu_nmem.mp h
    rw [c_set_ne _ _ h'.1]
    exact ih u h'.2
/-- the way up to the root -/
def c_up (m : vl_M) (X : Int → Prop) : Int → List Int → Prop
  | u, [] => u = m 11 6
  | u, p :: P => (u ≠ m 11 6 ∧ ¬ X u) ∧ m 8 u = p ∧ c_up m X p P
theorem c_up_con {m : vl_M} {X : Int → Prop} : ∀ (P : List Int) (u : Int), c_up m X u P → c_con m X P.length u := by
  intro P
  induction P with
  | nil => intro u h; exact h
  | cons p P ih =>
    intro u h
    obtain ⟨⟨h1, h2⟩, h3, h4⟩ := h
    exact ⟨h1, h2, by rw [h3]; exact ih p h4⟩
theorem c_up_lv {w : Nat} {m : vl_M} {X : Int → Prop} (hK : s_K w m X) (hA : s_A w m X) : ∀ (P : List Int) (u : Int), c_LN m u → c_up m X u P → ∀ p, p ∈ P → c_LN m p ∧ m 2 u < m 2 p := by
  intro P
  induction P with
  | nil => intro u hu h p hp; simp at hp
  | cons q P ih =>
    intro u hu h p hp
    obtain ⟨⟨h1, h2⟩, h3, h4⟩ := h
    obtain ⟨b1, b2, -⟩ := q_up1 hK hA (Or.inr hu) h1 h2
    rw [h3] at b1 b2
    rcases List.mem_cons.mp hp with e | e
    · rw [e]; exact ⟨b1, by omega⟩
    · obtain ⟨c1, c2⟩ := ih q b1 h4 p e
      exact ⟨c1, by omega⟩
/-- nodes on the way up are not outside -/
theorem c_up_X {m : vl_M} {X : Int → Prop} (hR : ¬ X (m 11 6)) : ∀ (P : List Int) (u : Int), c_up m X u P → ¬ X u ∧ ∀ p, p ∈ P → ¬ X p := by
  intro P
  induction P with
  | nil => intro u h; have h' : u = m 11 6 := h; exact ⟨by rw [h']; exact hR, fun p hp => by simp at hp⟩
  | cons q P ih =>
    intro u h
    obtain ⟨⟨h1, h2⟩, h3, h4⟩ := h
    obtain ⟨a, b⟩ := ih q h4
    refine ⟨h2, fun p hp => ?_⟩
    rcases List.mem_cons.mp hp with e | e
    · rw [e]; exact a
    · exact b p e
/-- the descent, in both -/
theorem q_desc {w N : Nat} {m r : vl_M} {φ : Int → Int} {X : Int → Prop} {t : Int} {b : pR} {κ : Int → Int → vl_M → Option vl_M} {κ' : Int → Option vl_M} (hN : 100000 ≤ N) (h : q_I w m r φ X (-1)) (hZ : q_Z m (-1) (-1)) (ht : X t) (hb : c_rt m t = b) (h0 : c_LN m t → 0 < m 9 t) :
    ∀ (d fu fu' : Nat) (v at_ : Int) (P : List Int), c_LN m at_ → c_up m X at_ P → m 2 at_ = m 2 t + 1 + (d : Int) → 0 ≤ v → v + (d : Int) < 40 → d < fu → d < fu' →
      ∃ u Q z, fn_X5_put_L7 w N t κ fu at_ v (c_cv m b P) = κ u z (c_cv m b Q) ∧ fn_X8_put_L5 N r (m 2 t) (φ t) κ' fu' (φ at_) = κ' (φ u) ∧ c_LN m u ∧ c_up m X u Q ∧ m 2 u = m 2 t + 1 := by
  obtain ⟨⟨hP, hK, hA, hR⟩, ⟨hE, hS⟩, hT, ⟨hsn, hsi, hso, hse⟩, hrr⟩ := id h
  have hw11 : w ≤ 11 := hP.1.2
  have hw5 : 5 ≤ w := hP.1.1
  have hpl := hP.2.2.1
  have hge : ∀ t, c_LN m t → t ≠ m 11 6 → 2 ≤ m 9 t := fun t ht hr => by have := (hZ.1 t ht).1 hr (by have := ht.1; omega); omega
  have htT := hR.2.2 t ht
  have htin := c_LT_in hP htT
  obtain ⟨y1, y2, y3⟩ := q_thing h htT (by omega) h0
  rw [hb] at y2 y3
  have htl : -1 ≤ m 2 t := by
    rcases htT with q | q
    · rw [q.2]; omega
    · have := q.2; omega
  intro d
  induction d with
  | zero =>
    intro fu fu' v u P hu hup hl v1 v2 f1 f2
    obtain ⟨fu, rfl⟩ : ∃ x, fu = x + 1 := ⟨fu - 1, by omega⟩
    obtain ⟨fu', rfl⟩ : ∃ x, fu' = x + 1 := ⟨fu' - 1, by omega⟩
    obtain ⟨⟨b1, b2, b3⟩, -⟩ := hsn u hu
    have hnd := c_LN_nd hP hu
    have hl1 := (hK u hu).1.1
    have e2 : c_cv m b P 2 = m 2 := c_cv_h m b (by decide) (by decide) (by decide) (by decide) P
    refine ⟨u, P, v, ?_, ?_, hu, hup, by omega⟩
    · rw [fn_X5_put_L7, pu_gd ⟨by omega, by omega⟩, if_pos (by omega), pu_gd ⟨by omega, by omega⟩, pu_gd htin, e2, pu_gd ⟨by omega, by omega⟩, pu_gd ⟨by omega, by omega⟩, if_neg (by omega)]
    · rw [fn_X8_put_L5, pu_gd b1, b2, pu_gd ⟨by omega, by omega⟩, pu_gd ⟨by omega, by omega⟩, if_neg (by omega)]
  | succ d ih =>
    intro fu fu' v u P hu hup hl v1 v2 f1 f2
    obtain ⟨fu, rfl⟩ : ∃ x, fu = x + 1 := ⟨fu - 1, by omega⟩
    obtain ⟨fu', rfl⟩ : ∃ x, fu' = x + 1 := ⟨fu' - 1, by omega⟩
    obtain ⟨⟨b1, b2, b3⟩, b4, -⟩ := hsn u hu
    have hnd := c_LN_nd hP hu
    have hl1 := (hK u hu).1.1
    have e2 : c_cv m b P 2 = m 2 := c_cv_h m b (by decide) (by decide) (by decide) (by decide) P
    obtain ⟨hXu, hXP⟩ := c_up_X hR.2.1 P u hup
    have hlv := c_up_lv hK hA P u hu hup
    have hsz : 1 ≤ m 9 u := by
      by_cases c : u = m 11 6
      · rw [c]; exact hZ.2 (by rw [← c]; omega)
      · have := hge u hu c; omega
    obtain ⟨⟨T1, T2⟩, T3⟩ := hT u hu (by omega) (by omega)
    have hut : u ≠ t := fun z => hXu (by rw [z]; exact ht)
    have htP : t ∉ P := fun z => hXP t z ht
    have huP : u ∉ P := fun z => by have := (hlv u z).2; omega
    have ru : c_rt (c_cv m b P) u = c_rt m u := c_cv_out m b P u huP
    have rt : c_rt (c_cv m b P) t = b := by rw [c_cv_out m b P t htP, hb]
    have ecov : fn_X4_cover (c_cv m b P) u t = some (c_cv m b (u :: P)) := by
      rw [c_cover ⟨by omega, by omega⟩ htin (by rw [ru]; exact T1) (by rw [rt]; exact y3), ru, rt]; rfl
    have hh : ∀ h : Nat, h ≠ 3 → h ≠ 4 → h ≠ 5 → h ≠ 6 → c_cv m b (u :: P) h = m h := fun h x y z q => c_cv_h m b x y z q (u :: P)
    have ek : ∀ i, c_k w (c_cv m b (u :: P)) u i = c_k w m u i := fun i => by unfold c_k; rw [hh 10 (by decide) (by decide) (by decide) (by decide)]
    have e9 : c_cv m b (u :: P) 9 u = m 9 u := by rw [hh 9 (by decide) (by decide) (by decide) (by decide)]
    have kid : ∀ i, 0 ≤ i → i < m 9 u → c_LN m (c_k w m u i) ∧ m 2 (c_k w m u i) = m 2 u - 1 ∧ (m 8 (c_k w m u i) = u ∧ ¬ X (c_k w m u i) ∧ c_k w m u i ≠ m 11 6) := fun i i1 i2 => by
      obtain ⟨⟨a1, a2⟩, a3, -⟩ := (hK u hu).2 i i1 i2
      exact ⟨c_LT_N a1 (by omega), a2, a3⟩
    obtain ⟨j, j1, j2, g1, g2⟩ := j_choose (w := w) (N := N) (m := c_cv m b (u :: P)) (r := r) (s := u) (t := t) (n := φ u) (l := m 2 t) (u := φ t) (f := fun i => c_rt m (c_k w m u i)) (b := b) ⟨hw5, hw11, hN, by rw [hh 1 (by decide) (by decide) (by decide) (by decide)]; exact hP.2.1.1⟩ hnd b1 (by rw [e9]; exact ⟨hsz, (hK u hu).1.2.2⟩) (by rw [e9, b3]) htin (c_cv_out m b (u :: P) t (fun z => by
        rcases List.mem_cons.mp z with q | q
        · exact hut q.symm
        · exact htP q) |>.trans hb) y3 y1 y2 (fun i i1 i2 => by
      rw [e9] at i2
      obtain ⟨k1, k2, k3, k4, k5⟩ := kid i i1 i2
      obtain ⟨⟨c1, c2, c3⟩, -⟩ := hsn _ k1
      have hs2 := hge _ k1 k5
      obtain ⟨⟨q1, q2⟩, -⟩ := hT _ k1 (by have := k1.1; omega) (by omega)
      have hkl := (hK _ k1).1.1
      have hk0 := k1.2
      rw [ek, b4 i i1 i2]
      refine ⟨c_LT_in hP (Or.inr k1), c_cv_out m b (u :: P) _ (fun z => ?_), q1, c1, by rw [c2]; omega, by rw [d_rt_pos _ _ (by rw [c2]; exact hk0)]; exact q2⟩
      rcases List.mem_cons.mp z with q | q
      · rw [q] at k2; omega
      · have := (hlv _ q).2; omega)
    rw [e9] at j2
    obtain ⟨k1, k2, k3, k4, k5⟩ := kid j j1 j2
    obtain ⟨u', Q, z, g3, g4, g5, g6, g7⟩ := ih fu fu' (v + 1) (c_k w m u j) (u :: P) k1 ⟨⟨k5, k4⟩, k3, hup⟩ (by omega) (by omega) (by omega) (by omega) (by omega)
    refine ⟨u', Q, z, ?_, ?_, g5, g6, g7⟩
    · rw [fn_X5_put_L7, pu_gd ⟨by omega, by omega⟩, if_pos (by omega), pu_gd ⟨by omega, by omega⟩, pu_gd htin, e2, pu_gd ⟨by omega, by omega⟩, pu_gd ⟨by omega, by omega⟩, if_pos (by omega), ecov, Option.bind_some, g1, Option.bind_some, pu_lt, ek, g3]
    · rw [fn_X8_put_L5, pu_gd b1, b2, pu_gd ⟨by omega, by omega⟩, pu_gd ⟨by omega, by omega⟩, if_pos (by omega), g2, Option.bind_some, b4 j j1 j2, g4]
/-- measuring upwards where one grew by b -/
theorem q_mupG {w N : Nat} {b : pR} {φ : Int → Int} {X : Int → Prop} {κ : Int → vl_M → Option vl_M} (hN : 100000 ≤ N) (hb : r_ok b) :
    ∀ (P : List Int) (u : Int) (m r : vl_M) (fu : Nat), q_I w m r φ X u → (∀ s, c_LN m s → s ≠ m 11 6 → 0 < m 9 s) → c_LN m u → 0 < m 9 u → c_up m X u P → r_ok (c_rt m u) → r_is (r_cv (c_rt m u) b) (fun p => ∃ i, 0 ≤ i ∧ i < m 9 u ∧ p = c_rt m (c_k w m u i)) → P.length + 1 < fu →
      ∃ m' r', fn_X8_measureUp_L2 N κ fu (φ u) r = κ (-2) r' ∧ q_I w m' r' φ X (-1) ∧ ((∀ h : Nat, h ≠ 3 → h ≠ 4 → h ≠ 5 → h ≠ 6 → m' h = m h) ∧ (∀ v, v ∈ u :: P → c_rt m' v = r_cv (c_rt m v) b) ∧ (∀ v, v ∉ u :: P → c_rt m' v = c_rt m v)) ∧ ∀ h : Nat, h ≠ 29 → r' h = r h := by
  intro P
  induction P with
  | nil =>
    intro u m r fu h h0 hu hpos hup hok hq hf
    obtain ⟨⟨hP, hK, hA, hR⟩, -, hT, ⟨hsn, hsi, -, -⟩, -⟩ := id h
    obtain ⟨fu, rfl⟩ : ∃ x, fu = x + 2 := ⟨fu - 2, by omega⟩
    obtain ⟨⟨b1, b2, b3⟩, -, b5, b6⟩ := hsn u hu
    have hc' : u = m 11 6 := hup
    have hka : ∀ i, 0 ≤ i → i < m 9 u → c_k w m u i ≠ u := fun i i1 i2 z => by
      have := ((hK u hu).2 i i1 i2).1.2
      rw [z] at this; omega
    have hqf := q_fit h hu (r_cv_ok hok hb) hq
    have h8 : m 8 u = -1 := by rw [hc']; exact hR.1.2
    rw [h8] at hqf
    refine ⟨_, _, ?_, hqf, ⟨fun h x y z t => c_set_h _ _ _ x y z t, fun v hv => ?_, fun v hv => ?_⟩, fun h x => d_set_h _ _ _ x⟩
    · rw [fn_X8_measureUp_L2, pu_gd ⟨by omega, by omega⟩, if_neg (by omega), q_mea hN h hu hka h0 hpos hq, Option.bind_some, pu_gd b1, pu_lt, d_set_h _ _ _ (by decide), b6 hc', fn_X8_measureUp_L2, pu_gd (by decide), if_pos (by decide)]
    · have : v = u := by simpa using hv
      rw [this, c_set_s]
    · have : v ≠ u := by simpa using hv
      rw [c_set_ne _ _ this]
  | cons p P ih =>
    intro u m r fu h h0 hu hpos hup hok hq hf
    obtain ⟨⟨hP, hK, hA, hR⟩, -, hT, ⟨hsn, hsi, -, -⟩, -⟩ := id h
    obtain ⟨fu, rfl⟩ : ∃ x, fu = x + 1 := ⟨fu - 1, by omega⟩
    obtain ⟨⟨b1, b2, b3⟩, -, b5, b6⟩ := hsn u hu
    obtain ⟨⟨c1, c2⟩, c3, c4⟩ := hup
    have hka : ∀ i, 0 ≤ i → i < m 9 u → c_k w m u i ≠ u := fun i i1 i2 z => by
      have := ((hK u hu).2 i i1 i2).1.2
      rw [z] at this; omega
    obtain ⟨d1, d2, i0, i1, i2, d3⟩ := q_up1 hK hA (Or.inr hu) c1 c2
    have hqf := q_fit h hu (r_cv_ok hok hb) hq
    rw [c3] at hqf d1 d2 i2 d3
    have hpu : p ≠ u := fun z => by rw [z] at d2; omega
    obtain ⟨⟨T1, T2⟩, T3⟩ := hT p d1 hpu (by omega)
    have hh : ∀ h : Nat, h ≠ 3 → h ≠ 4 → h ≠ 5 → h ≠ 6 → c_set m u (r_cv (c_rt m u) b) h = m h := fun h x y z t => c_set_h _ _ _ x y z t
    have rp : c_rt (c_set m u (r_cv (c_rt m u) b)) p = c_rt m p := c_set_ne _ _ hpu
    have rne : ∀ v, v ≠ u → c_rt (c_set m u (r_cv (c_rt m u) b)) v = c_rt m v := fun v hv => c_set_ne _ _ hv
    have rs : c_rt (c_set m u (r_cv (c_rt m u) b)) u = r_cv (c_rt m u) b := c_set_s _ _ _
    have hm' : fn_X8_measureUp_L2 N κ (fu + 1) (φ u) r = fn_X8_measureUp_L2 N κ fu (φ p) (d_set r (φ u) (r_cv (c_rt m u) b)) := by
      rw [fn_X8_measureUp_L2, pu_gd ⟨by omega, by omega⟩, if_neg (by omega), q_mea hN h hu hka h0 hpos hq, Option.bind_some, pu_gd b1, pu_lt, d_set_h _ _ _ (by decide), b5 c1 c2, c3]
    generalize hm1 : c_set m u (r_cv (c_rt m u) b) = m1 at *
    have e9 := hh 9 (by decide) (by decide) (by decide) (by decide)
    have e11 := hh 11 (by decide) (by decide) (by decide) (by decide)
    have e8 := hh 8 (by decide) (by decide) (by decide) (by decide)
    have LN : ∀ v, c_LN m1 v ↔ c_LN m v := fun v => by unfold c_LN; rw [hh 1 (by decide) (by decide) (by decide) (by decide), hh 2 (by decide) (by decide) (by decide) (by decide)]
    have ek : ∀ v i, c_k w m1 v i = c_k w m v i := fun v i => by unfold c_k; rw [hh 10 (by decide) (by decide) (by decide) (by decide)]
    have hup1 : ∀ (P : List Int) (v : Int), c_up m X v P → c_up m1 X v P := by
      intro P
      induction P with
      | nil => intro v hv; show v = m1 11 6; rw [e11]; exact hv
      | cons q P ih => intro v hv; exact ⟨by rw [e11]; exact hv.1, by rw [e8]; exact hv.2.1, ih q hv.2.2⟩
    have huP : u ∉ p :: P := fun z => by
      have := (c_up_lv hK hA (p :: P) u hu ⟨⟨c1, c2⟩, c3, c4⟩ u z).2
      omega
    have hpos' : 0 < m1 9 p := by rw [e9]; omega
    obtain ⟨m', r', g1, g2, ⟨g3, g4, g5⟩, g6⟩ := ih p m1 _ fu hqf (fun s hs hr => by rw [e11] at hr; rw [e9]; exact h0 s ((LN s).mp hs) hr) ((LN p).mpr d1) hpos' (hup1 P p c4) (by rw [rp]; exact T1) (by
      rw [rp, e9]
      refine r_is_grow (c0 := c_rt m u) T3 ⟨i0, i1, i2, by rw [d3]⟩ ?_ ?_ ?_
      · rintro q ⟨i, j1, j2, e⟩
        rw [ek] at e
        by_cases c : c_k w m p i = u
        · rw [c, rs] at e; exact Or.inr e
        · rw [rne _ c] at e; exact Or.inl ⟨i, j1, j2, e⟩
      · rintro q ⟨i, j1, j2, e⟩
        by_cases c : c_k w m p i = u
        · rw [c] at e; exact Or.inl e
        · exact Or.inr ⟨i, j1, j2, by rw [ek, rne _ c]; exact e⟩
      · exact ⟨i0, i1, i2, by rw [ek, d3, rs]⟩) (by simp at hf; omega)
    refine ⟨m', r', by rw [hm', g1], g2, ⟨fun h x y z t => by rw [g3 h x y z t, hh h x y z t], fun v hv => ?_, fun v hv => ?_⟩, fun h x => by rw [g6 h x, d_set_h _ _ _ x]⟩
    · by_cases cu : v = u
      · rw [cu, g5 u huP, rs]
      · rw [g4 v ((List.mem_cons.mp hv).resolve_left cu), rne v cu]
    · have hv' := pu_nmem.mp hv
      rw [g5 v hv'.2, rne v hv'.1]
