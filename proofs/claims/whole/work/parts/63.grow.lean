/-! ===== PURE, 24: the new half gets its place ===== -/
def d_shr (r : vl_M) (b lo hi : Int) : vl_M := fun h j => if h = 28 ∧ b + lo < j ∧ j ≤ b + hi then r 28 (j - 1) else r h j
theorem d_shr_h (r : vl_M) (b lo hi : Int) {h : Nat} (hh : h ≠ 28) : d_shr r b lo hi h = r h := by funext j; simp [d_shr, hh]
theorem d_shrL {N : Nat} {o n p : Int} {κ : Int → vl_M → Option vl_M} (hn : d_nd n) (hp : 0 ≤ p) : ∀ (fu : Nat) (v : Int) (r : vl_M), p ≤ v → v < 11 → v - p < (fu : Int) → fn_X8_split_L505 N o n p κ fu v r = κ p (d_shr r (11 * n) p v) := by
  intro fu
  induction fu with
  | zero => intro v r h1 h2 h3; omega
  | succ fu ih =>
    intro v r h1 h2 h3
    rw [fn_X8_split_L505, pu_gd ⟨by omega, by omega⟩, pu_gd ⟨by omega, by omega⟩]
    by_cases c : p < v
    · rw [if_pos c, pu_gd ⟨by omega, by omega⟩, pu_gd ⟨by omega, by omega⟩, pu_lt, pu_lt]
      rw [ih (v + -1) _ (by omega) (by omega) (by omega)]
      congr 1
      funext h j
      unfold d_shr vl_up
      by_cases h28 : h = 28
      · subst h28
        by_cases c1 : j = 11 * n + v
        · subst c1
          rw [if_neg (by omega), if_pos ⟨rfl, rfl⟩, if_pos ⟨rfl, by omega, by omega⟩]
        · by_cases c2 : 11 * n + p < j ∧ j ≤ 11 * n + v
          · rw [if_pos ⟨rfl, by omega, by omega⟩, if_neg (by omega), if_pos ⟨rfl, c2⟩]
          · rw [if_neg (by omega), if_neg (by omega), if_neg (fun z => c2 z.2)]
      · simp [h28]
    · have e : v = p := by omega
      subst e
      rw [if_neg c]
      congr 1
      funext h j
      unfold d_shr
      rw [if_neg (by omega)]
theorem d_insAt_is {r : vl_M} {n p t : Int} (hl : 0 < r 26 n) (hp : 0 ≤ p ∧ p ≤ r 27 n) (hc : r 27 n < 11) : d_isIns r (vl_up (vl_up (vl_up (d_shr r (11 * n) p (r 27 n)) 28 (11 * n + p) t) 27 n (r 27 n + 1)) 30 t n) n p t := by
  refine ⟨⟨fun h x y z => ?_, fun u => ?_⟩, fun u i i1 i2 => ?_, fun u => ?_⟩
  · rw [up_h _ _ _ z, up_h _ _ _ x, up_h _ _ _ y, d_shr_h _ _ _ _ y]
  · rw [up_h _ _ _ (by decide)]
    by_cases c : u = n
    · rw [c, up_s, if_pos rfl]
    · rw [up_i _ _ c, if_neg c, up_h _ _ _ (by decide), d_shr_h _ _ _ _ (by decide)]
  · unfold d_k
    rw [up_h _ _ _ (by decide), up_h _ _ _ (by decide)]
    by_cases c : u = n
    · subst c
      rw [if_pos rfl]
      by_cases c1 : i = p
      · rw [c1, up_s, if_neg (by omega), if_pos rfl]
      · rw [up_i _ _ (by omega)]
        unfold d_shr
        by_cases c2 : i < p
        · rw [if_pos c2, if_neg (by omega)]
        · rw [if_neg c2, if_neg c1]
          by_cases c3 : i ≤ r 27 u
          · rw [if_pos c3, if_pos ⟨rfl, by omega, by omega⟩]
            congr 1; omega
          · rw [if_neg c3, if_neg (by omega)]
    · rw [if_neg c, up_i _ _ (by omega)]
      unfold d_shr
      rw [if_neg (by omega)]
  · by_cases c : u = t
    · rw [c, up_s, if_pos ⟨hl, rfl⟩]
    · rw [up_i _ _ c, if_neg (fun z => c z.2), up_h _ _ _ (by decide), up_h _ _ _ (by decide), d_shr_h _ _ _ _ (by decide)]
theorem q_up1 {w : Nat} {m : vl_M} {X : Int → Prop} (hK : s_K w m X) (hA : s_A w m X) {u : Int} (hu : c_LT m u) (h1 : u ≠ m 11 6) (h2 : ¬ X u) : c_LN m (m 8 u) ∧ m 2 (m 8 u) = m 2 u + 1 ∧ ∃ i, 0 ≤ i ∧ i < m 9 (m 8 u) ∧ c_k w m (m 8 u) i = u := by
  obtain ⟨a1, i, i1, i2, e⟩ := hA u hu h1 h2
  have := ((hK _ a1).2 i i1 i2).1.2
  rw [e] at this
  exact ⟨a1, by omega, i, i1, i2, e⟩
theorem c_con_lv {w : Nat} {m : vl_M} {X : Int → Prop} (hK : s_K w m X) (hA : s_A w m X) : ∀ (k : Nat) (u : Int), c_LN m u → c_con m X k u → m 2 (m 11 6) = m 2 u + (k : Int) := by
  intro k
  induction k with
  | zero => intro u hu hc; have hc' : u = m 11 6 := hc; rw [hc']; omega
  | succ k ih =>
    intro u hu hc
    obtain ⟨c1, c2, c3⟩ := hc
    obtain ⟨b1, b2, -⟩ := q_up1 hK hA (Or.inr hu) c1 c2
    have := ih _ b1 c3
    omega
theorem c_con_cg {w : Nat} {m m' : vl_M} {X : Int → Prop} {L : Int} (hK : s_K w m X) (hA : s_A w m X) (h6 : m' 11 6 = m 11 6) (h8 : ∀ u, c_LN m u → L ≤ m 2 u → m' 8 u = m 8 u) : ∀ (k : Nat) (u : Int), c_LN m u → L ≤ m 2 u → c_con m X k u → c_con m' X k u := by
  intro k
  induction k with
  | zero => intro u hu hl hc; have hc' : u = m 11 6 := hc; show u = m' 11 6; rw [h6]; exact hc'
  | succ k ih =>
    intro u hu hl hc
    obtain ⟨c1, c2, c3⟩ := hc
    obtain ⟨b1, b2, -⟩ := q_up1 hK hA (Or.inr hu) c1 c2
    refine ⟨by rw [h6]; exact c1, c2, ?_⟩
    rw [h8 u hu hl]
    exact ih _ b1 (by omega) c3
theorem q_root_low {w : Nat} {m : vl_M} {X : Int → Prop} (hP : s_P w m) (hK : s_K w m X) (h2 : ∀ s, c_LN m s → s ≠ m 11 6 → 2 ≤ m 9 s) (hr : c_LN m (m 11 6)) (h1 : 0 < m 2 (m 11 6) → 1 ≤ m 9 (m 11 6)) : m 2 (m 11 6) ≤ 8 := by
  by_cases c : 0 < m 2 (m 11 6)
  · obtain ⟨⟨a1, a2⟩, ⟨-, -, a3⟩, -⟩ := (hK _ hr).2 0 (by omega) (by have := h1 c; omega)
    have := c_low hP hK h2 (c_LT_N a1 (by omega)) a3
    omega
  · omega
/-- a root that is no leaf has two -/
def q_W (m : vl_M) : Prop := 0 < m 2 (m 11 6) → 2 ≤ m 9 (m 11 6)
/-- not the root: the new one comes behind -/
theorem q_behind {w N k : Nat} {m r : vl_M} {φ : Int → Int} {X : Int → Prop} {a0 s : Int} (hN : 100000 ≤ N) (h : q_I w m r φ X a0) (ha0 : a0 < 0) (hs : c_LN m s) (hw : m 9 s = (w : Int)) (hZ : q_Z m s (-1)) (hcon : c_con m X (k + 1) s) :
    ∃ m' r' ψ, ((∀ (κ : Int → Int → vl_M → Option vl_M) (fu : Nat) (v : Int), 0 ≤ v → v < 40 → fn_X5_splitUpwards_L4 w N κ (fu + 1) s v m = fn_X5_splitUpwards_L4 w N κ fu (m' 8 s) (v + 1) m') ∧ fn_X8_split N r (φ s) = some r') ∧
      (q_I w m' r' ψ X (-1) ∧ q_Z m' (m' 8 s) (-1) ∧ q_F 1 m m' r r' φ ψ) ∧ (m' 8 s = m 8 s ∧ m' 11 6 = m 11 6) ∧ c_con m' X k (m 8 s) ∧ (q_W m → q_W m') := by
  obtain ⟨⟨hP, hK, hA, hR⟩, ⟨hE, hS⟩, hT, ⟨hsn, hsi, hso, hse⟩, hrr⟩ := id h
  have hw11 : w ≤ 11 := hP.1.2
  have hw5 : 5 ≤ w := hP.1.1
  have hpm : m 1 0 = (w : Int) - 1 := hP.2.1.2
  have hpl := hP.2.2.1
  obtain ⟨hcon1, hsX, hcon2⟩ := hcon
  obtain ⟨hZ1, hZ2⟩ := hZ
  have hge : ∀ t, c_LN m t → t ≠ m 11 6 → m 1 1 ≤ m 9 t := fun t ht hr => (hZ1 t ht).1 hr (by have := ht.1; omega)
  have h2 : ∀ t, c_LN m t → t ≠ m 11 6 → 2 ≤ m 9 t := fun t ht hr => by have := hge t ht hr; omega
  obtain ⟨fr, m3, ψ, r3, ⟨e1, e2, e3⟩, hq3, ⟨⟨f1, f1'⟩, f2, ⟨f3, f4⟩, f5⟩, ⟨⟨z1, z2, z3⟩, z4⟩, ⟨⟨t1, t2, t3⟩, t4, t5⟩, ⟨p1, p2, p3, p4⟩, hF⟩ := q_halve hN h ha0 hs hw h2
  obtain ⟨⟨hP3, hK3, hA3, hR3⟩, -, hT3, ⟨hsn3, hsi3, hso3, -⟩, hrr3⟩ := id hq3
  obtain ⟨b1, b2, i0, i1, i2, b3⟩ := q_up1 hK hA (Or.inr hs) hcon1 hsX
  have hl0 := hs.2
  have hsf : s ≠ fr := fun z => f1 (by rw [← z]; exact hs)
  have hbf : m 8 s ≠ fr := fun z => f1 (by rw [← z]; exact b1)
  have hbs : m 8 s ≠ s := fun z => by rw [z] at b2; omega
  have hbsz := (hZ1 _ b1).2 hbs
  obtain ⟨y1, y2, y3⟩ := z4 _ hbs hbf
  have hkid : ∀ u, c_LN m u → m 2 s ≤ m 2 u → u ≠ fr ∧ ∀ i, 0 ≤ i → i < m 9 s → u ≠ c_k w m s i := fun u hu hl => by
    refine ⟨fun z => f1 (by rw [← z]; exact hu), fun i j1 j2 z => ?_⟩
    have := ((hK s hs).2 i j1 j2).1.2
    rw [← z] at this
    omega
  have h8 : ∀ u, c_LN m u → m 2 s ≤ m 2 u → m3 8 u = m 8 u := fun u hu hl => t5 u (hkid u hu hl).1 (hkid u hu hl).2
  have h8s := h8 s hs (Int.le_refl _)
  generalize hb : m 8 s = b at *
  have hc3 : c_w w N m3 := ⟨hw5, hw11, hN, hP3.2.1.1⟩
  have hb3 : c_LN m3 b := (f2 b).mpr (Or.inl b1)
  have hs3 : c_LN m3 s := (f2 s).mpr (Or.inl hs)
  have hf3 : c_LN m3 fr := (f2 fr).mpr (Or.inr rfl)
  have hk3 : ∀ i, 0 ≤ i → i < m 9 b → c_k w m3 b i = c_k w m b i := fun i j1 j2 => y3 i j1 (by have := (hK b b1).1.2.2; omega)
  have hkin : ∀ i, 0 ≤ i → i < m 9 b → c_in (c_k w m b i) := fun i j1 j2 => c_LT_in hP ((hK b b1).2 i j1 j2).1.1
  have hfirst : ∀ i, 0 ≤ i → i < i0 → c_k w m b i ≠ s := fun i j1 j2 z => by
    have := ((hK b b1).2 i j1 (by omega)).2.2 i0 i1 i2 (by rw [z, b3])
    omega
  have hbnd := c_LN_nd hP b1
  have hsnd := c_LN_nd hP hs
  have hbeh : fn_X4_attachBehind w N m3 s fr = some (c_ins w m3 b (i0 + 1) fr) := by
    unfold fn_X4_attachBehind
    rw [pu_gd ⟨by omega, by omega⟩, pu_lt, h8s, pu_gd ⟨by omega, by omega⟩, if_neg (by omega), c_indexIn (p := i0) hc3 hbnd ⟨by omega, by omega⟩ (fun i j1 j2 => by rw [y1] at j2; have := hkin i j1 j2; rw [hk3 i j1 j2]; exact ⟨by omega, by omega⟩) (by rw [y1]; omega) ⟨i1, by rw [y1]; exact i2⟩ (by rw [hk3 i0 i1 i2]; exact b3) (fun i j1 j2 => by rw [hk3 i j1 (by omega)]; exact hfirst i j1 j2), Option.bind_some, c_attachAt hc3 hbnd ⟨by omega, by omega⟩ (by omega) (by rw [y1]; omega) (by rw [y1]; omega), Option.bind_some]
  -- the reference
  have hψs : ψ s = φ s := f5 s hsf
  have hψb : ψ b = φ b := f5 b hbf
  obtain ⟨⟨n1, n2, n3⟩, n4, n5, -⟩ := hsn3 b hb3
  obtain ⟨⟨s1, s2, s3⟩, -, s5, -⟩ := hsn3 s hs3
  obtain ⟨⟨g1, g2, g3⟩, -⟩ := hsn3 fr hf3
  have hsX3 : ¬ (X s ∨ s = fr) := fun z => z.elim hsX hsf
  have h30 : r3 30 (φ s) = ψ b := by rw [← hψs, s5 (by rw [p1]; exact hcon1) hsX3, h8s]
  have hkφ : ∀ i, 0 ≤ i → i < m 9 b → d_k r3 (ψ b) i = ψ (c_k w m b i) := fun i j1 j2 => by rw [n4 i j1 (by omega), hk3 i j1 j2]
  have hkLN : ∀ i, 0 ≤ i → i < m 9 b → c_LN m3 (c_k w m b i) := fun i j1 j2 => by
    have := (hK b b1).2 i j1 j2
    exact (f2 _).mpr (Or.inl (c_LT_N this.1.1 (by omega)))
  have hpl2 : fn_X8_placeIn N r3 (ψ b) (φ s) = some i0 := by
    refine d_placeIn hN n1 ⟨by omega, by omega⟩ ⟨i1, by omega⟩ (fun i j1 j2 => ?_) (by rw [hkφ i0 i1 i2, b3, hψs]) (fun i j1 j2 z => ?_)
    · rw [hkφ i j1 (by omega)]
      have := (hsn3 _ (hkLN i j1 (by omega))).1.1
      exact ⟨by omega, by omega⟩
    · rw [hkφ i j1 (by omega), ← hψs] at z
      exact hfirst i j1 j2 (hsi3.1 _ _ (hkLN i j1 (by omega)) hs3 z)
  have hroot : c_LN m3 (m 11 6) := (f2 _).mpr (Or.inl hR.1.1)
  have hne : φ s ≠ r3 23 11 := fun z => by
    rw [hrr3.1, p1, ← hψs] at z
    exact hcon1 (hsi3.1 _ _ hs3 hroot z)
  generalize hr4 : vl_up (vl_up (vl_up (d_shr r3 (11 * ψ b) (i0 + 1) (r3 27 (ψ b))) 28 (11 * ψ b + (i0 + 1)) (ψ fr)) 27 (ψ b) (r3 27 (ψ b) + 1)) 30 (ψ fr) (ψ b) = r4
  have hins : d_isIns r3 r4 (ψ b) (i0 + 1) (ψ fr) := by
    rw [← hr4]
    have := f4 b hbf
    exact d_insAt_is (by omega) ⟨by omega, by omega⟩ (by omega)
  have hq4 := q_ins (t := fr) (idx := i0 + 1) hq3 (Or.inl rfl) hb3 (Or.inr rfl) (by rw [f3, f4 b hbf]; omega) ⟨by omega, by omega⟩ (by omega) hins
  have eX : (fun x => (X x ∨ x = fr) ∧ x ≠ fr) = X := funext fun x => propext ⟨fun z => z.1.resolve_right z.2, fun z => ⟨Or.inl z, fun y => by
    rw [y] at z
    rcases hR.2.2 fr z with q | q
    · have := c_LE_lt hP q; omega
    · exact f1 q⟩⟩
  rw [eX] at hq4
  generalize hm4 : c_ins w m3 b (i0 + 1) fr = m4 at hq4 hbeh
  have m4h : ∀ h : Nat, h ≠ 8 → h ≠ 9 → h ≠ 10 → m4 h = m3 h := fun h x y z => by rw [← hm4, c_ins_h _ _ _ _ _ x y z]
  have m4rt : ∀ u, c_rt m4 u = c_rt m3 u := fun u => c_rt_congr (m4h 3 (by decide) (by decide) (by decide)) (m4h 4 (by decide) (by decide) (by decide)) (m4h 5 (by decide) (by decide) (by decide)) (m4h 6 (by decide) (by decide) (by decide))
  have m4_9 : ∀ u, m4 9 u = if u = b then m 9 b + 1 else m3 9 u := fun u => by rw [← hm4, c_ins_9, y1]
  have m4_8 : ∀ u, m4 8 u = if u = fr then b else m3 8 u := fun u => by rw [← hm4, c_ins_8]
  have m4k : ∀ i, 0 ≤ i → i < m 9 b + 1 → c_k w m4 b i = if i < i0 + 1 then c_k w m b i else if i = i0 + 1 then fr else c_k w m b (i - 1) := fun i j1 j2 => by
    rw [← hm4, c_ins_k hw5 hw11 (by omega) (by omega) (by omega) ⟨j1, by omega⟩, if_pos rfl]
    by_cases c1 : i < i0 + 1
    · rw [if_pos c1, if_pos c1, hk3 i j1 (by omega)]
    · rw [if_neg c1, if_neg c1]
      by_cases c2 : i = i0 + 1
      · rw [if_pos c2, if_pos c2]
      · rw [if_neg c2, if_neg c2, if_pos (by omega), hk3 (i - 1) (by omega) (by omega)]
  have krt : ∀ i, 0 ≤ i → i < m 9 b → c_k w m b i ≠ s → c_rt m4 (c_k w m b i) = c_rt m (c_k w m b i) := fun i j1 j2 hne => by
    obtain ⟨q1, -, -⟩ := (hK b b1).2 i j1 j2
    rw [m4rt, (z4 _ hne (fun z => f1 (by rw [← z]; exact c_LT_N q1.1 (by omega)))).2.1]
  obtain ⟨⟨T1, T2⟩, T3⟩ := hT b b1 (by omega) (by omega)
  have hbT : r_is (c_rt m b) (fun p => ∃ i, 0 ≤ i ∧ i < m4 9 b ∧ p = c_rt m4 (c_k w m4 b i)) := by
    rw [m4_9, if_pos rfl]
    refine r_is_two (a := c_rt m3 s) (b := c_rt m3 fr) (c0 := c_rt m s) T3 ⟨i0, i1, i2, by rw [b3]⟩ t1 ?_ ?_ ?_ ?_
    · rintro p ⟨i, j1, j2, e⟩
      rw [m4k i j1 j2] at e
      by_cases c1 : i < i0 + 1
      · rw [if_pos c1] at e
        by_cases c3 : c_k w m b i = s
        · rw [c3, m4rt] at e; exact Or.inr (Or.inl e)
        · rw [krt i j1 (by omega) c3] at e; exact Or.inl ⟨i, j1, by omega, e⟩
      · rw [if_neg c1] at e
        by_cases c2 : i = i0 + 1
        · rw [if_pos c2, m4rt] at e; exact Or.inr (Or.inr e)
        · rw [if_neg c2] at e
          by_cases c3 : c_k w m b (i - 1) = s
          · rw [c3, m4rt] at e; exact Or.inr (Or.inl e)
          · rw [krt (i - 1) (by omega) (by omega) c3] at e; exact Or.inl ⟨i - 1, by omega, by omega, e⟩
    · rintro p ⟨i, j1, j2, e⟩
      by_cases c3 : c_k w m b i = s
      · rw [c3] at e; exact Or.inl e
      · right
        by_cases c1 : i < i0 + 1
        · exact ⟨i, j1, by omega, by rw [m4k i j1 (by omega), if_pos c1, krt i j1 j2 c3]; exact e⟩
        · exact ⟨i + 1, by omega, by omega, by rw [m4k (i + 1) (by omega) (by omega), if_neg (by omega), if_neg (by omega), show i + 1 - 1 = i by omega, krt i j1 j2 c3]; exact e⟩
    · exact ⟨i0, i1, by omega, by rw [m4k i0 i1 (by omega), if_pos (by omega), b3, m4rt]⟩
    · exact ⟨i0 + 1, by omega, by omega, by rw [m4k (i0 + 1) (by omega) (by omega), if_neg (by omega), if_pos rfl, m4rt]⟩
  have hbrt : c_rt m4 b = c_rt m b := by rw [m4rt, y2]
  have r4h : ∀ h : Nat, h ≠ 27 → h ≠ 28 → h ≠ 30 → r4 h = r3 h := hins.1.1
  have hdb : d_rt r4 0 (ψ b) = c_rt m b := by
    rw [d_rt_congr (r4h 25 (by decide) (by decide) (by decide)) (r4h 29 (by decide) (by decide) (by decide)), p4 _ (fun z => by rw [← hψs] at z; exact hbs (hsi3.1 _ _ hb3 hs3 z)) (fun z => hbf (hsi3.1 _ _ hb3 hf3 z)), hψb]
    exact T2
  have hq5 : q_I w m4 r4 ψ X (-1) := q_tight (-1) hq4 (fun _ _ => ⟨⟨by rw [hbrt]; exact T1, by rw [hbrt]; exact hdb⟩, by rw [hbrt]; exact hbT⟩)
  have m4LN : ∀ u, c_LN m4 u ↔ (c_LN m u ∨ u = fr) := fun u => by
    rw [← f2]; unfold c_LN; rw [m4h 1 (by decide) (by decide) (by decide), m4h 2 (by decide) (by decide) (by decide)]
  have m4_6 : m4 11 6 = m 11 6 := by rw [m4h 11 (by decide) (by decide) (by decide), p1]
  have m4_1 : ∀ j, j ≠ 15 → j ≠ 16 → m4 1 j = m 1 j := fun j x y => by rw [m4h 1 (by decide) (by decide) (by decide)]; exact hF.1.2.1 j x y
  have m4_2 : m4 2 = m3 2 := m4h 2 (by decide) (by decide) (by decide)
  have m4_8s : m4 8 s = b := by rw [m4_8, if_neg hsf, h8s]
  have hrf : m 11 6 ≠ fr := fun z => f1 (by rw [← z]; exact hR.1.1)
  have hZ4 : q_Z m4 (m4 8 s) (-1) := by
    rw [m4_8s]
    constructor
    · intro t ht
      rw [m4_6, m4_1 1 (by decide) (by decide), m4_1 0 (by decide) (by decide), m4_9]
      rcases (m4LN t).mp ht with q | q
      · by_cases cb : t = b
        · rw [if_pos cb, cb]
          exact ⟨fun x y => by have := hge b b1 x; omega, fun x => absurd rfl x⟩
        · rw [if_neg cb]
          by_cases cs : t = s
          · rw [cs]; exact ⟨fun _ _ => z1, fun _ => by omega⟩
          · have hf' : t ≠ fr := fun z => f1 (by rw [← z]; exact q)
            rw [(z4 t cs hf').1]
            exact ⟨fun x y => hge t q x, fun x => (hZ1 t q).2 cs⟩
      · rw [q, if_neg (Ne.symm hbf)]
        exact ⟨fun _ _ => z2, fun _ => by omega⟩
    · rw [m4_6, m4_2, f4 _ hrf, m4_9]
      intro x
      have := hZ2 x
      by_cases cb : m 11 6 = b
      · rw [if_pos cb, ← cb]; omega
      · rw [if_neg cb, (z4 _ (Ne.symm hcon1) hrf).1]; exact this
  have hW4 : q_W m → q_W m4 := fun hW => by
    unfold q_W
    rw [m4_6, m4_2, f4 _ hrf, m4_9]
    intro x
    have := hW x
    by_cases cb : m 11 6 = b
    · rw [if_pos cb, ← cb]; omega
    · rw [if_neg cb, (z4 _ (Ne.symm hcon1) hrf).1]; exact this
  have hcon4 : c_con m4 X k b := by
    refine c_con_cg (L := m 2 s) hK hA m4_6 (fun u hu hl => ?_) k b b1 (by omega) hcon2
    rw [m4_8, if_neg (hkid u hu hl).1, h8 u hu hl]
  have hklv := c_con_lv hK hA k b b1 hcon2
  have hrlow := q_root_low hP hK h2 hR.1.1 hZ2
  have hmup : fn_X8_measureUp N r4 (ψ b) = some r4 := by
    unfold fn_X8_measureUp
    refine q_mup hN hq5 (by decide) (fun t ht hr => ?_) ?_ k N b ((m4LN b).mpr (Or.inl b1)) hcon4 (by have := b1.2; omega)
    · have := (hZ4.1 t ht).1 hr (by have := ht.1; omega)
      rw [m4_1 1 (by decide) (by decide)] at this
      omega
    · have := hZ4.2 (by rw [m4_6, m4_2, f4 _ hrf]; have := b1.2; have := hs.2; omega)
      omega
  have esplit : fn_X8_split N r (φ s) = some r4 := by
    rw [e3]
    unfold d_tail2
    have e27 : (vl_up (d_shr r3 (11 * ψ b) (i0 + 1) (r3 27 (ψ b))) 28 (11 * ψ b + (i0 + 1)) (ψ fr)) 27 (ψ b) = r3 27 (ψ b) := by rw [up_h _ _ _ (by decide), d_shr_h _ _ _ _ (by decide)]
    rw [pu_gd (by rw [hrr3.1]; have := (hsn3 _ hroot).1.1; rw [p1]; exact ⟨by omega, by omega⟩), if_neg hne, pu_lt, h30, hpl2, Option.bind_some, pu_lt, pu_gd n1, pu_lt, d_shrL n1 (by omega) N (r3 27 (ψ b)) r3 (by omega) (by omega) (by omega), pu_gd ⟨by omega, by omega⟩, pu_lt, pu_lt, e27, pu_gd g1, pu_lt, hr4, hmup, Option.bind_some]
  refine ⟨m4, r4, ψ, ⟨fun κ fu v v1 v2 => ?_, esplit⟩, ⟨hq5, hZ4, ?_⟩, ⟨m4_8s, m4_6⟩, hcon4, hW4⟩
  · rw [fn_X5_splitUpwards_L4, pu_gd ⟨by omega, by omega⟩, if_pos v2, pu_gd ⟨by omega, by omega⟩, if_neg (by omega), pu_gd ⟨by omega, by omega⟩, pu_gd ⟨by omega, by omega⟩, pu_gd ⟨by omega, by omega⟩, if_pos (by omega), e1, Option.bind_some, pu_un, pu_lt, e2, Option.bind_some, pu_gd (by rw [p1]; have := c_LN_nd hP hR.1.1; exact ⟨by omega, by omega⟩), pu_jn, if_neg (by rw [p1]; exact hcon1), hbeh, Option.bind_some]
    rfl
  · obtain ⟨⟨a1, a2, a3⟩, ⟨a4, a5⟩, ⟨a6, a7, a8⟩, a9, a10⟩ := hF
    refine ⟨⟨fun h x => by rw [m4h h (by omega) (by omega) (by omega), a1 h x], fun j x y => m4_1 j x y, fun j x y => by rw [m4h 11 (by decide) (by decide) (by decide), a3 j x y]⟩, ⟨fun u x => ?_, fun u x => ?_⟩, ⟨by rw [m4_6, m4_2, ← p1]; exact p1 ▸ a6, by rw [m4h 11 (by decide) (by decide) (by decide)]; exact a7, by rw [m4h 11 (by decide) (by decide) (by decide)]; exact a8⟩, fun h x => by rw [r4h h (by omega) (by omega) (by omega), a9 h x], fun j x y => by rw [r4h 23 (by decide) (by decide) (by decide), a10 j x y]⟩
    · rw [m4_2, m4rt]; exact a4 u x
    · obtain ⟨c1, c2, c3⟩ := a5 u x
      exact ⟨(m4LN u).mpr (Or.inl x), by rw [m4_2]; exact c2, c3⟩
