/-! ===== PURE, 23: one node becomes two, in both ===== -/
theorem c_newn_11 (m : vl_M) (l j v : Int) : c_newn (vl_up m 11 j v) l = vl_up (c_newn m l) 11 j v := by
  have e1 : (vl_up m 11 j v) 1 = m 1 := up_h _ _ _ (by decide)
  have e8 : (vl_up m 11 j v) 8 = m 8 := up_h _ _ _ (by decide)
  have ef : c_fn (vl_up m 11 j v) = c_fn m := by unfold c_fn; rw [e1]
  unfold c_newn
  rw [ef, e1, e8]
  funext h k
  by_cases c : m 1 16 = -1
  · rw [if_pos c, if_pos c]
    unfold vl_up
    by_cases h11 : h = 11
    · subst h11; simp
    · simp [h11]
  · rw [if_neg c, if_neg c]
    unfold vl_up
    by_cases h11 : h = 11
    · subst h11; simp
    · simp [h11]
/-- what stays when nodes are split -/
def q_F (k : Int) (m m' r r' : vl_M) (φ ψ : Int → Int) : Prop :=
  ((∀ h : Nat, (h = 0 ∨ h = 7 ∨ h = 12 ∨ h = 13 ∨ 16 ≤ h) → m' h = m h) ∧ (∀ j, j ≠ 15 → j ≠ 16 → m' 1 j = m 1 j) ∧ (∀ j, j ≠ 6 → j ≠ 7 → m' 11 j = m 11 j)) ∧
  ((∀ u, (u < 400 ∨ 804 ≤ u) → m' 2 u = m 2 u ∧ c_rt m' u = c_rt m u ∧ ψ u = φ u) ∧ (∀ u, c_LN m u → c_LN m' u ∧ m' 2 u = m 2 u ∧ ψ u = φ u)) ∧
  (m 2 (m 11 6) ≤ m' 2 (m' 11 6) ∧ m 11 7 ≤ m' 11 7 ∧ m' 11 7 ≤ m 11 7 + k) ∧
  ((∀ h : Nat, (h = 24 ∨ h = 25 ∨ (31 ≤ h ∧ h ≤ 36) ∨ 42 ≤ h) → r' h = r h) ∧ (∀ j, j ≠ 11 → j ≠ 12 → r' 23 j = r 23 j))
theorem q_F_trans {k l : Int} {m m' m'' r r' r'' : vl_M} {φ ψ χ : Int → Int} (h : q_F k m m' r r' φ ψ) (g : q_F l m' m'' r' r'' ψ χ) : q_F (k + l) m m'' r r'' φ χ := by
  obtain ⟨⟨a1, a2, a3⟩, ⟨a4, a5⟩, ⟨a6, a7, a8⟩, a9, a10⟩ := h
  obtain ⟨⟨b1, b2, b3⟩, ⟨b4, b5⟩, ⟨b6, b7, b8⟩, b9, b10⟩ := g
  refine ⟨⟨fun h x => by rw [b1 h x, a1 h x], fun j x y => by rw [b2 j x y, a2 j x y], fun j x y => by rw [b3 j x y, a3 j x y]⟩, ⟨fun u x => ?_, fun u x => ?_⟩, ⟨by omega, by omega, by omega⟩, fun h x => by rw [b9 h x, a9 h x], fun j x y => by rw [b10 j x y, a10 j x y]⟩
  · obtain ⟨c1, c2, c3⟩ := a4 u x
    obtain ⟨d1, d2, d3⟩ := b4 u x
    exact ⟨by rw [d1, c1], by rw [d2, c2], by rw [d3, c3]⟩
  · obtain ⟨c1, c2, c3⟩ := a5 u x
    obtain ⟨d1, d2, d3⟩ := b5 u c1
    exact ⟨d1, by rw [d2, c2], by rw [d3, c3]⟩
theorem q_F_refl (m r : vl_M) (φ : Int → Int) : q_F 0 m m r r φ φ := ⟨⟨fun _ _ => rfl, fun _ _ _ => rfl, fun _ _ _ => rfl⟩, ⟨fun _ _ => ⟨rfl, rfl, rfl⟩, fun _ h => ⟨h, rfl, rfl⟩⟩, ⟨Int.le_refl _, Int.le_refl _, by omega⟩, fun _ _ => rfl, fun _ _ _ => rfl⟩
theorem q_F_LE {k : Int} {w : Nat} {m m' r r' : vl_M} {φ ψ : Int → Int} (h : q_F k m m' r r' φ ψ) (hP : s_P w m) (e : Int) : c_LE m' e ↔ c_LE m e := by
  obtain ⟨⟨a1, a2, a3⟩, ⟨a4, a5⟩, -⟩ := h
  unfold c_LE
  have p := hP.2.2.2.2
  rw [a2 13 (by decide) (by decide)]
  constructor
  · rintro ⟨x, y⟩
    rw [(a4 e (by omega)).1] at y; exact ⟨x, y⟩
  · rintro ⟨x, y⟩
    rw [← (a4 e (by omega)).1] at y; exact ⟨x, y⟩
/-- the two halves, before the new one has a place -/
theorem q_halve {w N : Nat} {m r : vl_M} {φ : Int → Int} {X : Int → Prop} {a0 s : Int} (hN : 100000 ≤ N) (h : q_I w m r φ X a0) (ha0 : a0 < 0) (hs : c_LN m s) (hw : m 9 s = (w : Int)) (h2 : ∀ t, c_LN m t → t ≠ m 11 6 → 2 ≤ m 9 t) :
    ∃ fr m3 ψ r3, (fn_X4_newNode m (m 2 s) = some (fr, c_newn m (m 2 s)) ∧ fn_X3_share w N (vl_up (c_newn m (m 2 s)) 11 7 ((c_newn m (m 2 s)) 11 7 + 1)) s fr = some m3 ∧ fn_X8_split N r (φ s) = d_tail2 N (φ s) (ψ fr) r3) ∧
      q_I w m3 r3 ψ (fun x => X x ∨ x = fr) (m 8 s) ∧
      ((¬ c_LN m fr ∧ c_nd fr) ∧ (∀ u, c_LN m3 u ↔ (c_LN m u ∨ u = fr)) ∧ (m3 2 fr = m 2 s ∧ ∀ u, u ≠ fr → m3 2 u = m 2 u) ∧ (∀ u, u ≠ fr → ψ u = φ u)) ∧
      ((m 1 1 ≤ m3 9 s ∧ m 1 1 ≤ m3 9 fr ∧ m3 9 s + m3 9 fr = (w : Int)) ∧ (∀ u, u ≠ s → u ≠ fr → m3 9 u = m 9 u ∧ c_rt m3 u = c_rt m u ∧ ∀ i, 0 ≤ i → i < (w : Int) → c_k w m3 u i = c_k w m u i)) ∧
      ((c_rt m s = r_cv (c_rt m3 s) (c_rt m3 fr) ∧ r_ok (c_rt m3 s) ∧ r_ok (c_rt m3 fr)) ∧ (m3 8 fr = -1 ∧ ∀ u, u ≠ fr → (∀ i, 0 ≤ i → i < m 9 s → u ≠ c_k w m s i) → m3 8 u = m 8 u)) ∧
      (m3 11 6 = m 11 6 ∧ m3 11 7 = m 11 7 + 1 ∧ r3 30 (ψ fr) = -2 ∧ ∀ u, u ≠ φ s → u ≠ ψ fr → d_rt r3 0 u = d_rt r 0 u) ∧ q_F 1 m m3 r r3 φ ψ := by
  obtain ⟨⟨hP, hK, hA, hR⟩, ⟨hE, hS⟩, hT, ⟨hsn, hsi, hso, hse⟩, hrr⟩ := id h
  have hw11 : w ≤ 11 := hP.1.2
  have hw5 : 5 ≤ w := hP.1.1
  have hpm : m 1 0 = (w : Int) - 1 := hP.2.1.2
  have hpl := hP.2.2.1
  have hroom : m 1 16 = -1 → m 1 15 < 804 := fun z => c_room hP hK hS h2 z
  obtain ⟨f1, f2, f3⟩ := c_fn_ok hP hS hroom
  obtain ⟨o, o1, o2, o3, o4⟩ := q_free hP hso
  have hl0 := hs.2
  have hl1 := (hK s hs).1.1
  have hsf : s ≠ c_fn m := fun z => f2 (by rw [← z]; exact hs)
  obtain ⟨⟨b1, b2, b3⟩, b4, -⟩ := hsn s hs
  generalize hf : (fun x => c_rt m (c_k w m s x)) = f
  have kid : ∀ x, 0 ≤ x → x < (w : Int) → (c_LT m (c_k w m s x) ∧ m 2 (c_k w m s x) = m 2 s - 1) ∧ (c_k w m s x ≠ s ∧ c_k w m s x ≠ c_fn m) ∧ d_in (m 2 s - 1) (φ (c_k w m s x)) ∧ d_rt r (m 2 s - 1) (φ (c_k w m s x)) = f x ∧ r_ok (f x) := fun x x1 x2 => by
    obtain ⟨⟨a1, a2⟩, ⟨a3, a4, a5⟩, -⟩ := (hK s hs).2 x x1 (by omega)
    have q := q_thing h a1 (by have := c_LT_in hP a1; omega) (fun z => by have := h2 _ z a5; omega)
    rw [a2] at q
    refine ⟨⟨a1, a2⟩, ⟨fun z => by rw [z] at a2; omega, fun z => ?_⟩, by rw [← hf]; exact q⟩
    rcases a1 with y | y
    · have := c_LE_lt hP y; omega
    · exact f2 (by rw [← z]; exact y)
  have inj : ∀ x y, (0 ≤ x ∧ x < (w : Int)) → (0 ≤ y ∧ y < (w : Int)) → c_k w m s x = c_k w m s y → x = y := fun x y hx hy e => ((hK s hs).2 x hx.1 (by omega)).2.2 y hy.1 (by omega) e
  -- the reference's parts
  obtain ⟨r', C', e1, hdh⟩ := d_splitA (N := N) (r := r) (n := w) (a := φ s) (l := m 2 s - 1) (M := m 1 1) (f := f) hN b1 (by rw [b3, hw]) (by rw [b2]) hw11 hrr.2.1.2 ⟨by omega, by omega⟩ (fun x x1 x2 => by
    obtain ⟨-, -, k3⟩ := kid x x1 x2
    rw [b4 x x1 (by omega)]; exact k3)
  generalize hAB : spl f w (m 1 1) = AB at hdh
  obtain ⟨A, B⟩ := AB
  dsimp only at hdh
  have hperm : (A ++ B).Perm (pu_rng w) := by have := spl_perm f (n := w) (m 1 1) (by omega); rw [hAB] at this; exact this
  have hleast : m 1 1 ≤ (A.length : Int) ∧ m 1 1 ≤ (B.length : Int) := by have := spl_least f (n := w) (N := m 1 1) (by omega) (by omega) (by omega); rw [hAB] at this; exact this
  have hlen : A.length + B.length = w := by have := hperm.length_eq; rw [List.length_append, pu_rng_len] at this; exact this
  have hAne : A ≠ [] := fun z => by rw [z] at hleast; simp at hleast; omega
  have hBne : B ≠ [] := fun z => by rw [z] at hleast; simp at hleast; omega
  have hmem : ∀ x, (x ∈ A ∨ x ∈ B) ↔ (0 ≤ x ∧ x < (w : Int)) := fun x => by rw [← List.mem_append, hperm.mem_iff, pu_rng_mem]
  have hdh' := hdh
  obtain ⟨⟨g1, -⟩, -, g3, g4, g5, g6, g7, g8⟩ := hdh
  have rh : ∀ h : Nat, h ≠ 23 → (h < 37 ∨ 41 < h) → r' h = r h := fun h x y => by
    rw [g1 h (by omega), d_th_h _ _ _ (by omega) (by omega), up_h _ _ _ x]
  have r23 : ∀ j, j ≠ 12 → r' 23 j = r 23 j := fun j x => by rw [g1 23 (by omega), d_th_h _ _ _ (by omega) (by omega), up_i _ _ x]
  have r12 : r' 23 12 = r 23 12 + 1 := by rw [g1 23 (by omega), d_th_h _ _ _ (by omega) (by omega), up_s]
  have r37 : ∀ x, 0 ≤ x → x < (w : Int) → r' 37 x = φ (c_k w m s x) := fun x x1 x2 => by
    rw [g1 37 (by omega)]
    unfold d_th
    rw [if_pos ⟨rfl, x1, x2⟩, d_k_congr (up_h _ _ _ (by decide)), b4 x x1 (by omega)]
  -- the count of splits
  have hq1 : q_I w (vl_up m 11 7 (m 11 7 + 1)) r' φ X a0 := by
    refine q_cg h (up_h _ _ _ (by decide)) (up_h _ _ _ (by decide)) (up_h _ _ _ (by decide)) (up_h _ _ _ (by decide)) (up_h _ _ _ (by decide)) (fun u _ _ => c_rt_congr (up_h _ _ _ (by decide)) (up_h _ _ _ (by decide)) (up_h _ _ _ (by decide)) (up_h _ _ _ (by decide))) (fun u _ _ => by rw [up_h _ _ _ (by decide)]) (by rw [up_i _ _ (by decide)]) (fun h x y => rh h (by omega) (by omega)) ⟨r23 1 (by decide), r23 2 (by decide)⟩ ⟨r23 5 (by decide), r23 11 (by decide)⟩ ⟨?_, ?_⟩
    · rw [r12, up_s, hrr.2.2.2.1]
    · rw [r23 13 (by decide), up_i _ _ (by decide)]; exact hrr.2.2.2.2
  -- the new node
  generalize hm1 : vl_up m 11 7 (m 11 7 + 1) = m1 at hq1
  have m1h : ∀ h : Nat, h ≠ 11 → m1 h = m h := fun h x => by rw [← hm1, up_h _ _ _ x]
  have efn : c_fn m1 = c_fn m := by unfold c_fn; rw [m1h 1 (by decide)]
  obtain ⟨ψ, hψ1, hψ2⟩ : ∃ ψ : Int → Int, ψ (c_fn m1) = o ∧ ∀ u, u ≠ c_fn m1 → ψ u = φ u := ⟨fun u => if u = c_fn m1 then o else φ u, if_pos rfl, fun u hu => if_neg hu⟩
  have hq2 := q_new (l := m 2 s) hψ1 hψ2 hq1 ⟨hl0, by omega⟩ (by rw [m1h 1 (by decide)]; exact hroom) ⟨o1, o2⟩ (by rw [rh 26 (by decide) (by decide)]; exact o3)
  have em2 : vl_up (c_newn m (m 2 s)) 11 7 ((c_newn m (m 2 s)) 11 7 + 1) = c_newn m1 (m 2 s) := by
    rw [c_newn_h m (m 2 s) (h := 11) (by decide) (by decide) (by decide) (by decide), ← hm1, c_newn_11]
  rw [efn] at hψ1 hψ2 hq2
  have hP1 : s_P w m1 := hq1.1.1
  have hS1 : s_S m1 := hq1.2.1.2
  generalize hm2 : c_newn m1 (m 2 s) = m2 at hq2 em2
  have m2h : ∀ h : Nat, h ≠ 1 → h ≠ 2 → h ≠ 8 → h ≠ 9 → h ≠ 11 → m2 h = m h := fun h x y z t v => by rw [← hm2, c_newn_h _ _ x y z t, m1h h v]
  have m2_11 : ∀ j, j ≠ 7 → m2 11 j = m 11 j := fun j x => by rw [← hm2, c_newn_h _ _ (by decide) (by decide) (by decide) (by decide), ← hm1, up_i _ _ x]
  have m2_117 : m2 11 7 = m 11 7 + 1 := by rw [← hm2, c_newn_h _ _ (by decide) (by decide) (by decide) (by decide), ← hm1, up_s]
  have m2_1 : ∀ j, j ≠ 15 → j ≠ 16 → m2 1 j = m 1 j := fun j x y => by rw [← hm2, c_newn_1 _ _ x y, m1h 1 (by decide)]
  have m2_2 : ∀ u, m2 2 u = if u = c_fn m then m 2 s else m 2 u := fun u => by rw [← hm2, c_newn_2, efn, m1h 2 (by decide)]
  have m2_9 : ∀ u, m2 9 u = if u = c_fn m then 0 else m 9 u := fun u => by rw [← hm2, c_newn_9, efn, m1h 9 (by decide)]
  have m2_8 : ∀ u, m2 8 u = if u = c_fn m then -1 else m 8 u := fun u => by rw [← hm2, c_newn_8, efn, m1h 8 (by decide)]
  have m2rt : ∀ u, c_rt m2 u = c_rt m u := fun u => c_rt_congr (m2h 3 (by decide) (by decide) (by decide) (by decide) (by decide)) (m2h 4 (by decide) (by decide) (by decide) (by decide) (by decide)) (m2h 5 (by decide) (by decide) (by decide) (by decide) (by decide)) (m2h 6 (by decide) (by decide) (by decide) (by decide) (by decide))
  have m2k : ∀ u i, c_k w m2 u i = c_k w m u i := fun u i => by unfold c_k; rw [m2h 10 (by decide) (by decide) (by decide) (by decide) (by decide)]
  have m2LN : ∀ u, c_LN m2 u ↔ (c_LN m u ∨ u = c_fn m) := fun u => by
    rw [← hm2, c_newn_LN hP1 hS1 (by rw [m1h 1 (by decide)]; exact hroom) hl0, efn]
    unfold c_LN
    rw [m1h 1 (by decide), m1h 2 (by decide)]
  -- the class's share
  have hcw : c_w w N m2 := ⟨hw5, hw11, hN, by rw [m2_1 10 (by decide) (by decide)]; exact hP.2.1.1⟩
  have eks : c_k w m2 s = c_k w m s := by funext i; exact m2k s i
  obtain ⟨m3, e3, hsh⟩ := c_share (w := w) (N := N) (n := w) (m := m2) (s := s) (fr := c_fn m) (f := f) hcw
    ⟨⟨by rw [pu_rng_len]; exact Nat.le_refl _, c_LN_nd hP hs, f1, hsf⟩, fun x hx => by
      have hx' := pu_rng_mem.mp hx
      obtain ⟨⟨k1, -⟩, ⟨k2, k3⟩, -, -, k4⟩ := kid x hx'.1 hx'.2
      rw [eks]
      exact ⟨c_LT_in hP k1, k2, k3, by rw [m2rt, ← hf], k4⟩, fun x y hx hy e => by
      rw [eks] at e
      exact inj x y (pu_rng_mem.mp hx) (pu_rng_mem.mp hy) e⟩ (by rw [m2_9, if_neg hsf, hw]) (by omega) (by rw [m2_9, if_pos rfl]) (by rw [m2_1 1 (by decide) (by decide)]; exact ⟨by omega, by omega⟩)
  rw [m2_1 1 (by decide) (by decide), hAB] at hsh
  dsimp only at hsh
  -- the reference's node and its rows
  have hn : fn_X8_node N r' (r' 26 (φ s)) = some (o, d_new r' o (m 2 s)) := by
    rw [rh 26 (by decide) (by decide), b2]
    obtain ⟨⟨-, hK', -, -⟩, -, -, ⟨hsn', -, hso', -⟩, -⟩ := hq1
    exact d_node' hN hK' hsn' hso' ⟨o1, o2⟩ (by rw [rh 26 (by decide) (by decide)]; exact o3) (fun i i1 i2 => by rw [rh 26 (by decide) (by decide)]; exact o4 i i1 i2)
  have hao : φ s ≠ o := fun z => by
    have := b2
    rw [z, o3] at this
    omega
  have hkn : ∀ x, 0 ≤ x → x < (w : Int) → ψ (c_k w m s x) = φ (c_k w m s x) := fun x x1 x2 => hψ2 _ (kid x x1 x2).2.1.2
  have hdgL := dg_L (N := N) (r0 := d_new r' o (m 2 s)) (a := φ s) (o := o) (L := m 2 s) (ds := fun x => ψ (c_k w m s x)) (n := w) (A := A) (C := C') (κ := fun (v37 : Int) (m38 : vl_M) => (fn_X8_measure N m38 (φ s)).bind fun m40 => (fn_X8_measure N m40 o).bind fun m42 => d_tail2 N (φ s) o m42) b1 ⟨o1, o2⟩ hao (by rw [d_new_26, if_neg hao, rh 26 (by decide) (by decide), b2]) (by rw [d_new_26, if_pos rfl]) ⟨by omega, by omega⟩ hw11 (by omega) (fun x hx => by
      have hx' := (g6 x).mp hx
      have hx2 := (hmem x).mp hx'
      obtain ⟨z1, z2, z3⟩ := g3 x hx2.1 hx2.2
      refine ⟨⟨hx2.1, by omega⟩, ?_, ?_, ?_, ?_⟩
      · rw [d_new_h _ _ _ (by decide) (by decide) (by decide), r37 x hx2.1 hx2.2, hkn x hx2.1 hx2.2]
      · intro y; rw [d_new_h _ _ _ (by decide) (by decide) (by decide)]; exact z1 y
      · intro y; rw [d_new_h _ _ _ (by decide) (by decide) (by decide)]
        exact z2 (hx'.resolve_left y)
      · intro y
        obtain ⟨⟨k1, k2⟩, -⟩ := kid x hx2.1 hx2.2
        show 0 ≤ ψ (c_k w m s x) ∧ ψ (c_k w m s x) < 500
        rw [hkn x hx2.1 hx2.2]
        exact (hsn _ (c_LT_N k1 (by omega))).1.1) (fun k x hx => by rw [d_new_h _ _ _ (by decide) (by decide) (by decide)]; exact g4 k x hx) (fun x y hx hy e => by
      have hx2 := (hmem x).mp ((g6 x).mp hx)
      have hy2 := (hmem y).mp ((g6 y).mp hy)
      have e' : ψ (c_k w m s x) = ψ (c_k w m s y) := e
      rw [hkn x hx2.1 hx2.2, hkn y hy2.1 hy2.2] at e'
      obtain ⟨⟨k1, k2⟩, -⟩ := kid x hx2.1 hx2.2
      obtain ⟨⟨k3, k4⟩, -⟩ := kid y hy2.1 hy2.2
      refine inj x y hx2 hy2 ?_
      by_cases c : 0 ≤ m 2 s - 1
      · exact hsi.1 _ _ (c_LT_N k1 (by omega)) (c_LT_N k3 (by omega)) e'
      · exact hsi.2 _ _ (c_LT_E k1 (by omega)) (c_LT_E k3 (by omega)) e') C' 0 N [] [] (vl_up (d_new r' o (m 2 s)) 27 (φ s) 0) rfl (by omega) ((dh_perm hdh').nodup_iff.mp (hperm.nodup_iff.mpr (pu_rng_nodup w))) (by omega) (by simp; omega) (fun y hy => by simp at hy) ⟨⟨fun h x _ _ => up_h _ _ _ x, ⟨by rw [up_s]; rfl, by rw [up_i _ _ (Ne.symm hao), d_new_27, if_pos rfl]; rfl⟩, fun u x y => up_i _ _ x⟩, ⟨⟨fun i x hx => by simp at hx, fun i x hx => by simp at hx⟩, fun u i _ _ _ _ => d_k_congr (up_h _ _ _ (by decide)) u i⟩, fun _ => ⟨fun x hx => by simp at hx, fun x hx => by simp at hx⟩, fun u _ => by rw [up_h _ _ _ (by decide)]⟩
  obtain ⟨r1, e4, hdg⟩ := hdgL
  rw [List.nil_append, List.nil_append, g7, g8] at hdg
  -- measuring the two
  have hdg' := hdg
  obtain ⟨⟨d1, ⟨d2, d3⟩, -⟩, ⟨⟨dk1, dk2⟩, -⟩, -⟩ := hdg
  have r1h : ∀ h : Nat, h ≠ 23 → h ≠ 26 → h ≠ 27 → h ≠ 28 → h ≠ 30 → (h < 37 ∨ 41 < h) → r1 h = r h := fun h x y z t v q => by rw [d1 h z t v, d_new_h _ _ _ y z v, rh h x q]
  have hkd : ∀ x, 0 ≤ x → x < (w : Int) → d_in (m 2 s - 1) (ψ (c_k w m s x)) ∧ (m 2 s - 1 < 0 ∨ ψ (c_k w m s x) ≠ φ s) ∧ (m 2 s - 1 < 0 ∨ ψ (c_k w m s x) ≠ o) ∧ d_rt r1 (m 2 s - 1) (ψ (c_k w m s x)) = f x ∧ r_ok (f x) := fun x x1 x2 => by
    obtain ⟨⟨k1, k2⟩, ⟨k3, -⟩, k4, k5, k6⟩ := kid x x1 x2
    rw [hkn x x1 x2, d_rt_congr (r1h 25 (by decide) (by decide) (by decide) (by decide) (by decide) (by decide)) (r1h 29 (by decide) (by decide) (by decide) (by decide) (by decide) (by decide))]
    refine ⟨k4, ?_, ?_, k5, k6⟩
    · by_cases c : m 2 s - 1 < 0
      · exact Or.inl c
      · exact Or.inr (fun z => k3 (hsi.1 _ _ (c_LT_N k1 (by omega)) hs z))
    · by_cases c : m 2 s - 1 < 0
      · exact Or.inl c
      · right
        intro z
        have := (hsn _ (c_LT_N k1 (by omega))).1.2.1
        rw [z, o3] at this
        omega
  have hme1 : fn_X8_measure N r1 (φ s) = some (d_set r1 (φ s) (mbl f A)) := d_meaL (L := m 2 s) (ds := fun x => ψ (c_k w m s x)) hN b1 hAne d2 (by omega) (by rw [d1 26 (by decide) (by decide) (by decide), d_new_26, if_neg hao, rh 26 (by decide) (by decide), b2]) ⟨hl0, by omega⟩ dk1 (fun x hx => by
    have hx2 := (hmem x).mp (Or.inl hx)
    obtain ⟨q1, q2, q3, q4, q5⟩ := hkd x hx2.1 hx2.2
    exact ⟨q1, q2, q4, q5⟩)
  have hme2 : fn_X8_measure N (d_set r1 (φ s) (mbl f A)) o = some (d_set (d_set r1 (φ s) (mbl f A)) o (mbl f B)) := d_meaL (L := m 2 s) (ds := fun x => ψ (c_k w m s x)) hN ⟨o1, o2⟩ hBne (by rw [d_set_h _ _ _ (by decide)]; exact d3) (by omega) (by rw [d_set_h _ _ _ (by decide), d1 26 (by decide) (by decide) (by decide), d_new_26, if_pos rfl]) ⟨hl0, by omega⟩ (fun i x hx => by rw [d_k_congr (d_set_h _ _ _ (by decide))]; exact dk2 i x hx) (fun x hx => by
    have hx2 := (hmem x).mp (Or.inr hx)
    obtain ⟨q1, q2, q3, q4, q5⟩ := hkd x hx2.1 hx2.2
    refine ⟨q1, q3, ?_, q5⟩
    show d_rt (d_set r1 (φ s) (mbl f A)) (m 2 s - 1) (ψ (c_k w m s x)) = f x
    rw [d_set_ne _ _ q2]; exact q4)
  have esplit : fn_X8_split N r (φ s) = d_tail2 N (φ s) o (d_set (d_set r1 (φ s) (mbl f A)) o (mbl f B)) := by
    rw [e1]
    unfold d_tail
    have e4' := e4
    rw [show ((0 : Nat) : Int) = 0 from rfl] at e4'
    rw [hn, Option.bind_some, pu_un, pu_lt, e4', hme1, Option.bind_some, hme2, Option.bind_some]
  -- together
  have hψs : ψ s = φ s := hψ2 s hsf
  have hq3 : q_I w m3 (d_set (d_set r1 (φ s) (mbl f A)) o (mbl f B)) ψ (fun x => X x ∨ x = c_fn m) (m 8 s) := by
    have := q_share (n := w) (m' := m3) (r1 := r1) (s := s) (fr := c_fn m) (f := f) (A := A) (B := B) hq2 ha0 ((m2LN s).mpr (Or.inl hs)) (Or.inr rfl) ((m2LN _).mpr (Or.inr rfl)) (by rw [m2_9, if_pos rfl]) (by rw [m2_2, if_pos rfl, m2_2, if_neg hsf]) hsf (by rw [m2_9, if_neg hsf, hw]) (fun x x1 x2 => ⟨by rw [eks, m2rt, ← hf], (kid x x1 x2).2.2.2.2⟩) hperm hAne hBne hsh (by rw [hψ1, hψs, eks, m2_2, if_neg hsf]; exact hdg')
    rw [hψ1, hψs, m2_8, if_neg hsf] at this
    exact this
  obtain ⟨⟨s1, -⟩, ⟨⟨s2, s3⟩, s4⟩, ⟨-, s5⟩, ⟨⟨t1, t2⟩, t3⟩, ⟨-, -⟩, o5⟩ := hsh
  have m3_2 : m3 2 = m2 2 := s1 2 (by omega) (by decide) (by decide)
  have m3_1 : m3 1 = m2 1 := s1 1 (by omega) (by decide) (by decide)
  have m3_11 : m3 11 = m2 11 := s1 11 (by omega) (by decide) (by decide)
  have m3LN : ∀ u, c_LN m3 u ↔ (c_LN m u ∨ u = c_fn m) := fun u => by
    rw [← m2LN]; unfold c_LN; rw [m3_1, m3_2]
  have okf : ∀ x, (x ∈ A ∨ x ∈ B) → r_ok (f x) := fun x hx => (kid x ((hmem x).mp hx).1 ((hmem x).mp hx).2).2.2.2.2
  refine ⟨c_fn m, m3, ψ, _, ⟨c_newNode (fun z => ⟨hP.2.2.2.1.1, hroom z⟩) (fun z => (f3 z).1), by rw [em2]; exact e3, by rw [hψ1]; exact esplit⟩, hq3, ⟨⟨f2, f1⟩, m3LN, ⟨by rw [m3_2, m2_2, if_pos rfl], fun u hu => by rw [m3_2, m2_2, if_neg hu]⟩, hψ2⟩, ⟨⟨by omega, by omega, by omega⟩, fun u x y => ⟨by rw [s4 u x y, m2_9, if_neg y], by rw [t3 u x y, m2rt], fun i i1 i2 => by rw [s5 u i x y i1 i2, m2k]⟩⟩, ⟨⟨?_, ?_, ?_⟩, ?_, ?_⟩, ⟨by rw [m3_11, m2_11 6 (by decide)], by rw [m3_11, m2_117], ?_, ?_⟩, ?_⟩
  · rw [t1 hAne, t2 hBne]
    obtain ⟨-, t⟩ := hT s hs (by have := hs.1; omega) (by omega)
    refine r_is_uni t (r_is_congr (fun p => ?_) (r_is_both (mbl_is f A hAne) (mbl_is f B hBne)))
    constructor
    · rintro (⟨x, hx, e⟩ | ⟨x, hx, e⟩)
      · have := (hmem x).mp (Or.inl hx)
        exact ⟨x, this.1, by omega, by rw [e, ← hf]⟩
      · have := (hmem x).mp (Or.inr hx)
        exact ⟨x, this.1, by omega, by rw [e, ← hf]⟩
    · rintro ⟨i, i1, i2, e⟩
      rcases (hmem i).mpr ⟨i1, by omega⟩ with y | y
      · exact Or.inl ⟨i, y, by rw [e, ← hf]⟩
      · exact Or.inr ⟨i, y, by rw [e, ← hf]⟩
  · rw [t1 hAne]; exact mbl_ok A hAne (fun x hx => okf x (Or.inl hx))
  · rw [t2 hBne]; exact mbl_ok B hBne (fun x hx => okf x (Or.inr hx))
  · rw [o5 _ (fun x hx => by rw [eks]; have := (hmem x).mp (Or.inl hx); exact Ne.symm (kid x this.1 this.2).2.1.2) (fun x hx => by rw [eks]; have := (hmem x).mp (Or.inr hx); exact Ne.symm (kid x this.1 this.2).2.1.2), m2_8, if_pos rfl]
  · intro u hu hk
    rw [o5 u (fun x hx => by rw [eks]; have := (hmem x).mp (Or.inl hx); exact hk x this.1 (by omega)) (fun x hx => by rw [eks]; have := (hmem x).mp (Or.inr hx); exact hk x this.1 (by omega)), m2_8, if_neg hu]
  · have hd := hdg'.2.2.2
    rw [d_set_h _ _ _ (by decide), d_set_h _ _ _ (by decide), hψ1, hd o (fun hL => ⟨fun x hx z => ?_, fun x hx z => ?_⟩), d_new_30, if_pos rfl]
    · have := (hmem x).mp (Or.inl hx)
      rcases (hkd x this.1 this.2).2.2.1 with y | y
      · omega
      · exact y z.symm
    · have := (hmem x).mp (Or.inr hx)
      rcases (hkd x this.1 this.2).2.2.1 with y | y
      · omega
      · exact y z.symm
  · intro u u1 u2
    rw [hψ1] at u2
    rw [d_set_ne _ _ (Or.inr u2), d_set_ne _ _ (Or.inr u1)]
    exact d_rt_congr (r1h 25 (by decide) (by decide) (by decide) (by decide) (by decide) (by decide)) (r1h 29 (by decide) (by decide) (by decide) (by decide) (by decide) (by decide)) 0 u
  · refine ⟨⟨fun h x => ?_, fun j x y => by rw [m3_1, m2_1 j x y], fun j x y => by rw [m3_11, m2_11 j y]⟩, ⟨fun u x => ?_, fun u x => ?_⟩, ⟨?_, by rw [m3_11, m2_117]; omega, by rw [m3_11, m2_117]; omega⟩, fun h x => ?_, fun j x y => ?_⟩
    · rw [s1 h (by omega) (by omega) (by omega), m2h h (by omega) (by omega) (by omega) (by omega) (by omega)]
    · have hne : u ≠ c_fn m := by omega
      have hne2 : u ≠ s := by have := c_LN_nd hP hs; omega
      exact ⟨by rw [m3_2, m2_2, if_neg hne], by rw [t3 u hne2 hne, m2rt], hψ2 u hne⟩
    · have hne : u ≠ c_fn m := fun z => f2 (by rw [← z]; exact x)
      exact ⟨(m3LN u).mpr (Or.inl x), by rw [m3_2, m2_2, if_neg hne], hψ2 u hne⟩
    · have hne : m 11 6 ≠ c_fn m := fun z => f2 (by rw [← z]; exact hR.1.1)
      rw [m3_11, m2_11 6 (by decide), m3_2, m2_2, if_neg hne]; exact Int.le_refl _
    · rw [d_set_h _ _ _ (by omega), d_set_h _ _ _ (by omega)]
      exact r1h h (by omega) (by omega) (by omega) (by omega) (by omega) (by omega)
    · rw [d_set_h _ _ _ (by decide), d_set_h _ _ _ (by decide), d1 23 (by decide) (by decide) (by decide), d_new_h _ _ _ (by decide) (by decide) (by decide), r23 j y]
