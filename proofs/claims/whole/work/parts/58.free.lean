/-! ===== PURE, 19: a node goes; the root goes; in both ===== -/
theorem c_fren_h (m : vl_M) (s : Int) {h : Nat} (h1 : h ≠ 1) (h2 : h ≠ 2) (h3 : h ≠ 8) : c_fren m s h = m h := by
  unfold c_fren
  rw [up_h _ _ _ h1, up_h _ _ _ h3, up_h _ _ _ h2]
theorem c_fren_1 (m : vl_M) (s : Int) {j : Int} (h : j ≠ 16) : c_fren m s 1 j = m 1 j := by
  unfold c_fren
  rw [up_i _ _ h, up_h _ _ _ (by decide), up_h _ _ _ (by decide)]
theorem c_fren_16 (m : vl_M) (s : Int) : c_fren m s 1 16 = s := up_s _ _ _ _
theorem c_fren_2 (m : vl_M) (s x : Int) : c_fren m s 2 x = if x = s then -2 else m 2 x := by
  unfold c_fren
  rw [up_h _ _ _ (by decide), up_h _ _ _ (by decide)]
  by_cases c : x = s
  · rw [c, up_s, if_pos rfl]
  · rw [up_i _ _ c, if_neg c]
theorem c_fren_8 (m : vl_M) (s x : Int) : c_fren m s 8 x = if x = s then m 1 16 else m 8 x := by
  unfold c_fren
  rw [up_h _ _ _ (by decide)]
  by_cases c : x = s
  · rw [c, up_s, if_pos rfl]
  · rw [up_i _ _ c, if_neg c, up_h _ _ _ (by decide)]
theorem q_freeN {w : Nat} {m r : vl_M} {φ : Int → Int} {X : Int → Prop} {a s : Int} (h : q_I w m r φ X a) (hs : X s) (hsN : c_LN m s) : q_I w (c_fren m s) (vl_up r 26 (φ s) (-2)) φ (fun x => (X x ∧ x ≠ s) ∨ ∃ i, (0 ≤ i ∧ i < m 9 s) ∧ x = c_k w m s i) a := by
  obtain ⟨⟨hP, hK, hA, hR⟩, ⟨hE, hS⟩, hT, ⟨hsn, hsi, hso, hse⟩, hrr⟩ := h
  have p3 := hP.2.2.2.1
  have p4 := hP.2.2.2.2
  have hs1 := hsN.1
  have eh : ∀ h : Nat, h ≠ 1 → h ≠ 2 → h ≠ 8 → c_fren m s h = m h := fun h x y z => c_fren_h _ _ x y z
  have e1 : ∀ j, j ≠ 16 → c_fren m s 1 j = m 1 j := fun j x => c_fren_1 _ _ x
  have e2 := fun x => c_fren_2 m s x
  have e8 := fun x => c_fren_8 m s x
  have e9 := eh 9 (by decide) (by decide) (by decide)
  have e11 := eh 11 (by decide) (by decide) (by decide)
  have ek : ∀ x i, c_k w (c_fren m s) x i = c_k w m x i := fun x i => by unfold c_k; rw [eh 10 (by decide) (by decide) (by decide)]
  have ert : ∀ x, c_rt (c_fren m s) x = c_rt m x := fun x => c_rt_congr (eh 3 (by decide) (by decide) (by decide)) (eh 4 (by decide) (by decide) (by decide)) (eh 5 (by decide) (by decide) (by decide)) (eh 6 (by decide) (by decide) (by decide))
  have LN : ∀ x, c_LN (c_fren m s) x ↔ (c_LN m x ∧ x ≠ s) := fun x => by
    unfold c_LN
    rw [e1 15 (by decide), e2]
    by_cases c : x = s
    · rw [if_pos c]
      exact ⟨fun z => absurd z.2 (by decide), fun z => absurd c z.2⟩
    · rw [if_neg c]
      exact ⟨fun z => ⟨z, c⟩, fun z => z.1⟩
  have LE : ∀ x, c_LE (c_fren m s) x ↔ c_LE m x := fun x => by
    unfold c_LE
    rw [e1 13 (by decide), e2]
    by_cases c : x = s
    · rw [if_pos c]
      exact ⟨fun z => by omega, fun z => by omega⟩
    · rw [if_neg c]
  have LT : ∀ x, c_LT (c_fren m s) x ↔ (c_LT m x ∧ x ≠ s) := fun x => by
    unfold c_LT
    rw [LE, LN]
    constructor
    · rintro (z | z)
      · exact ⟨Or.inl z, fun y => by have := z.1; omega⟩
      · exact ⟨Or.inr z.1, z.2⟩
    · rintro ⟨z | z, y⟩
      · exact Or.inl z
      · exact Or.inr ⟨z, y⟩
  have rh : ∀ h : Nat, h ≠ 26 → vl_up r 26 (φ s) (-2) h = r h := fun h x => up_h _ _ _ x
  have hsr : m 11 6 ≠ s := fun z => hR.2.1 (by rw [z]; exact hs)
  have hks : ∀ u i, c_LN m u → 0 ≤ i → i < m 9 u → c_k w m u i ≠ s := fun u i hu i1 i2 z => ((hK u hu).2 i i1 i2).2.1.2.1 (by rw [z]; exact hs)
  refine ⟨⟨?_, ?_, ?_, ?_⟩, ⟨?_, ?_⟩, ?_, ⟨?_, ?_, ?_, ?_⟩, ?_⟩
  · unfold s_P
    rw [e1 10 (by decide), e1 0 (by decide), e1 1 (by decide), e1 15 (by decide), e1 13 (by decide)]
    exact hP
  · intro u hu
    obtain ⟨hu', hus⟩ := (LN u).mp hu
    rw [e2, if_neg hus, e9]
    obtain ⟨k1, k2⟩ := hK u hu'
    refine ⟨k1, fun i i1 i2 => ?_⟩
    obtain ⟨⟨a1, a2⟩, ⟨a3, a4, a5⟩, a6⟩ := k2 i i1 i2
    have hne := hks u i hu' i1 i2
    simp only [ek]
    rw [LT, e2, if_neg hne, e8, if_neg hne, e11]
    refine ⟨⟨⟨a1, hne⟩, a2⟩, ⟨a3, ?_, a5⟩, a6⟩
    rintro (z | ⟨j, j1, j2⟩)
    · exact a4 z.1
    · exact hus (q_one hK hu' hsN ⟨i1, i2⟩ j1 j2).1
  · intro c hc h1 h2
    obtain ⟨hc', hcs⟩ := (LT c).mp hc
    rw [e11] at h1
    obtain ⟨a1, i, a2, a3, a4⟩ := hA c hc' h1 (fun z => h2 (Or.inl ⟨z, hcs⟩))
    rw [e8, if_neg hcs]
    refine ⟨(LN _).mpr ⟨a1, fun z => h2 (Or.inr ⟨i, ⟨a2, by rw [← z]; exact a3⟩, by rw [← z]; exact a4.symm⟩)⟩, i, a2, by rw [e9]; exact a3, by rw [ek]; exact a4⟩
  · obtain ⟨⟨a1, a2⟩, a3, a4⟩ := hR
    unfold s_R
    rw [e11, LN, e8, if_neg hsr]
    refine ⟨⟨⟨a1, hsr⟩, a2⟩, ?_, ?_⟩
    · rintro (z | ⟨j, j1, j2⟩)
      · exact a3 z.1
      · exact ((hK s hsN).2 j j1.1 j1.2).2.1.2.2 j2.symm
    · rintro c (z | ⟨j, j1, j2⟩)
      · exact (LT c).mpr ⟨a4 c z.1, z.2⟩
      · rw [j2]
        exact (LT _).mpr ⟨((hK s hsN).2 j j1.1 j1.2).1.1, hks s j hsN j1.1 j1.2⟩
  · intro e he
    rw [eh 7 (by decide) (by decide) (by decide), ert]
    exact hE e ((LE e).mp he)
  · obtain ⟨⟨L, l1, l2, l3⟩, L', l4, l5, l6⟩ := hS
    have hsL : s ∉ L := fun z => by have := ((l3 s).mp z).2; have := hsN.2; omega
    refine ⟨⟨s :: L, ⟨c_fren_16 m s, ?_⟩, List.nodup_cons.mpr ⟨hsL, l2⟩, ?_⟩, L', ?_, l5, ?_⟩
    · rw [e8, if_pos rfl]
      exact c_ch_congr L _ (fun b hb => by rw [e8, if_neg (fun z => hsL (by rw [← z]; exact hb))]) l1
    · intro x
      rw [List.mem_cons, l3, e1 15 (by decide), e2]
      by_cases c : x = s
      · rw [if_pos c]
        exact ⟨fun _ => ⟨by omega, by decide⟩, fun _ => Or.inl c⟩
      · rw [if_neg c]
        exact ⟨fun z => z.resolve_left c, fun z => Or.inr z⟩
    · rw [e1 14 (by decide)]
      exact c_ch_congr L' _ (fun b hb => by rw [e8, if_neg (fun z => by have := ((l6 b).mp hb).1; omega)]) l4
    · intro x
      rw [l6, e1 13 (by decide), e2]
      by_cases c : x = s
      · rw [if_pos c]
        exact ⟨fun z => by omega, fun z => by omega⟩
      · rw [if_neg c]
  · intro u hu hua h0
    obtain ⟨hu', hus⟩ := (LN u).mp hu
    rw [e9] at h0 ⊢
    obtain ⟨⟨t1, t2⟩, t3⟩ := hT u hu' hua h0
    rw [ert, d_rt_congr (rh 25 (by decide)) (rh 29 (by decide))]
    simp only [ek, ert]
    exact ⟨⟨t1, t2⟩, t3⟩
  · intro u hu
    obtain ⟨hu', hus⟩ := (LN u).mp hu
    obtain ⟨⟨b1, b2, b3⟩, b4, b5, b6⟩ := hsn u hu'
    have hne : φ u ≠ φ s := fun z => hus (hsi.1 u s hu' hsN z)
    rw [up_i _ _ hne, rh 27 (by decide), rh 30 (by decide), e2, if_neg hus, e9, e8, if_neg hus, e11]
    refine ⟨⟨b1, b2, b3⟩, fun i i1 i2 => ?_, fun z1 z2 => b5 z1 (fun z => z2 (Or.inl ⟨z, hus⟩)), b6⟩
    rw [d_k_congr (rh 28 (by decide)), ek]; exact b4 i i1 i2
  · exact ⟨fun x t hx ht e => hsi.1 x t ((LN x).mp hx).1 ((LN t).mp ht).1 e, fun x t hx ht e => hsi.2 x t ((LE x).mp hx) ((LE t).mp ht) e⟩
  · constructor
    · intro n hn
      by_cases c : n = φ s
      · rw [c, up_s]; exact Or.inr rfl
      · rw [up_i _ _ c]
        rcases hso.1 n hn with ⟨z, x, hx, e⟩ | z
        · exact Or.inl ⟨z, x, (LN x).mpr ⟨hx, fun y => c (by rw [← e, y])⟩, e⟩
        · exact Or.inr z
    · intro n n1 n2
      rw [rh 24 (by decide)]
      rcases hso.2 n n1 n2 with ⟨z, x, hx, e⟩ | z
      · exact Or.inl ⟨z, x, (LE x).mpr hx, e⟩
      · exact Or.inr z
  · intro e he
    obtain ⟨b1, b2, b3⟩ := hse e ((LE e).mp he)
    rw [rh 24 (by decide), eh 7 (by decide) (by decide) (by decide), d_rt_congr (rh 25 (by decide)) (rh 29 (by decide)), ert]
    exact ⟨b1, b2, b3⟩
  · unfold q_rr
    rw [rh 23 (by decide), e11, e1 0 (by decide), e1 1 (by decide), e1 12 (by decide)]
    exact hrr
/-- the root, with one below it, goes; that one is the root -/
theorem q_lower {w : Nat} {m r : vl_M} {φ : Int → Int} {X : Int → Prop} {a b : Int} (h : q_I w m r φ X a) (hl : 0 < m 2 (m 11 6)) (h1 : m 9 (m 11 6) = 1) (hb : b = c_k w m (m 11 6) 0) : q_I w (vl_up (vl_up (c_fren m (m 11 6)) 8 b (-1)) 11 6 b) (vl_up (vl_up (vl_up r 26 (φ (m 11 6)) (-2)) 23 11 (φ b)) 30 (φ b) (-2)) φ X a := by
  obtain ⟨⟨hP, hK, hA, hR⟩, ⟨hE, hS⟩, hT, ⟨hsn, hsi, hso, hse⟩, hrr⟩ := h
  have hsN := hR.1.1
  generalize hs : m 11 6 = s at *
  have p3 := hP.2.2.2.1
  have p4 := hP.2.2.2.2
  have hs1 := hsN.1
  obtain ⟨⟨b1, b2⟩, ⟨b3, b4, b5⟩, -⟩ := (hK s hsN).2 0 (by omega) (by omega)
  rw [← hb] at b1 b2 b3 b4 b5
  rw [hs] at b5
  have hbN : c_LN m b := c_LT_N b1 (by omega)
  have hbs : b ≠ s := b5
  generalize hm' : vl_up (vl_up (c_fren m s) 8 b (-1)) 11 6 b = m'
  have eh : ∀ h : Nat, h ≠ 1 → h ≠ 2 → h ≠ 8 → h ≠ 11 → m' h = m h := fun h x y z t => by rw [← hm', up_h _ _ _ t, up_h _ _ _ z, c_fren_h _ _ x y z]
  have e1 : ∀ j, j ≠ 16 → m' 1 j = m 1 j := fun j x => by rw [← hm', up_h _ _ _ (by decide), up_h _ _ _ (by decide), c_fren_1 _ _ x]
  have e16 : m' 1 16 = s := by rw [← hm', up_h _ _ _ (by decide), up_h _ _ _ (by decide), c_fren_16]
  have e2 : ∀ x, m' 2 x = if x = s then -2 else m 2 x := fun x => by rw [← hm', up_h _ _ _ (by decide), up_h _ _ _ (by decide), c_fren_2]
  have e8 : ∀ x, m' 8 x = if x = b then -1 else if x = s then m 1 16 else m 8 x := fun x => by
    rw [← hm', up_h _ _ _ (by decide)]
    by_cases c : x = b
    · rw [c, up_s, if_pos rfl]
    · rw [up_i _ _ c, if_neg c, c_fren_8]
  have e9 := eh 9 (by decide) (by decide) (by decide) (by decide)
  have e6 : m' 11 6 = b := by rw [← hm', up_s]
  have e11 : ∀ j, j ≠ 6 → m' 11 j = m 11 j := fun j x => by rw [← hm', up_i _ _ x, up_h _ _ _ (by decide), c_fren_h _ _ (by decide) (by decide) (by decide)]
  have ek : ∀ x i, c_k w m' x i = c_k w m x i := fun x i => by unfold c_k; rw [eh 10 (by decide) (by decide) (by decide) (by decide)]
  have ert : ∀ x, c_rt m' x = c_rt m x := fun x => c_rt_congr (eh 3 (by decide) (by decide) (by decide) (by decide)) (eh 4 (by decide) (by decide) (by decide) (by decide)) (eh 5 (by decide) (by decide) (by decide) (by decide)) (eh 6 (by decide) (by decide) (by decide) (by decide))
  have LN : ∀ x, c_LN m' x ↔ (c_LN m x ∧ x ≠ s) := fun x => by
    unfold c_LN
    rw [e1 15 (by decide), e2]
    by_cases c : x = s
    · rw [if_pos c]
      exact ⟨fun z => absurd z.2 (by decide), fun z => absurd c z.2⟩
    · rw [if_neg c]
      exact ⟨fun z => ⟨z, c⟩, fun z => z.1⟩
  have LE : ∀ x, c_LE m' x ↔ c_LE m x := fun x => by
    unfold c_LE
    rw [e1 13 (by decide), e2]
    by_cases c : x = s
    · rw [if_pos c]
      exact ⟨fun z => by omega, fun z => by omega⟩
    · rw [if_neg c]
  have LT : ∀ x, c_LT m' x ↔ (c_LT m x ∧ x ≠ s) := fun x => by
    unfold c_LT
    rw [LE, LN]
    constructor
    · rintro (z | z)
      · exact ⟨Or.inl z, fun y => by have := z.1; omega⟩
      · exact ⟨Or.inr z.1, z.2⟩
    · rintro ⟨z | z, y⟩
      · exact Or.inl z
      · exact Or.inr ⟨z, y⟩
  generalize hr' : vl_up (vl_up (vl_up r 26 (φ s) (-2)) 23 11 (φ b)) 30 (φ b) (-2) = r'
  have rh : ∀ h : Nat, h ≠ 23 → h ≠ 26 → h ≠ 30 → r' h = r h := fun h x y z => by rw [← hr', up_h _ _ _ z, up_h _ _ _ x, up_h _ _ _ y]
  have r26 : ∀ x, r' 26 x = if x = φ s then -2 else r 26 x := fun x => by
    rw [← hr', up_h _ _ _ (by decide), up_h _ _ _ (by decide)]
    by_cases c : x = φ s
    · rw [c, up_s, if_pos rfl]
    · rw [up_i _ _ c, if_neg c]
  have r30 : ∀ x, r' 30 x = if x = φ b then -2 else r 30 x := fun x => by
    rw [← hr']
    by_cases c : x = φ b
    · rw [c, up_s, if_pos rfl]
    · rw [up_i _ _ c, if_neg c, up_h _ _ _ (by decide), up_h _ _ _ (by decide)]
  have r23 : ∀ j, j ≠ 11 → r' 23 j = r 23 j := fun j x => by rw [← hr', up_h _ _ _ (by decide), up_i _ _ x, up_h _ _ _ (by decide)]
  have r11 : r' 23 11 = φ b := by rw [← hr', up_h _ _ _ (by decide), up_s]
  have hks : ∀ u i, c_LN m u → 0 ≤ i → i < m 9 u → c_k w m u i ≠ s := fun u i hu i1 i2 z => ((hK u hu).2 i i1 i2).2.1.2.2 (by rw [hs]; exact z)
  -- what is held by another than s is not b
  have hkb : ∀ u i, c_LN m u → u ≠ s → 0 ≤ i → i < m 9 u → c_k w m u i ≠ b := fun u i hu hus i1 i2 z => by
    have := ((hK u hu).2 i i1 i2).2.1.1
    rw [z, b3] at this
    exact hus this.symm
  refine ⟨⟨?_, ?_, ?_, ?_⟩, ⟨?_, ?_⟩, ?_, ⟨?_, ?_, ?_, ?_⟩, ?_⟩
  · unfold s_P
    rw [e1 10 (by decide), e1 0 (by decide), e1 1 (by decide), e1 15 (by decide), e1 13 (by decide)]
    exact hP
  · intro u hu
    obtain ⟨hu', hus⟩ := (LN u).mp hu
    rw [e2, if_neg hus, e9]
    obtain ⟨k1, k2⟩ := hK u hu'
    refine ⟨k1, fun i i1 i2 => ?_⟩
    obtain ⟨⟨a1, a2⟩, ⟨a3, a4, a5⟩, a6⟩ := k2 i i1 i2
    have hne := hks u i hu' i1 i2
    have hnb := hkb u i hu' hus i1 i2
    simp only [ek]
    rw [LT, e2, if_neg hne, e8, if_neg hnb, if_neg hne, e6]
    exact ⟨⟨⟨a1, hne⟩, a2⟩, ⟨a3, a4, hnb⟩, a6⟩
  · intro c hc h1' h2
    obtain ⟨hc', hcs⟩ := (LT c).mp hc
    rw [e6] at h1'
    obtain ⟨a1, i, a2, a3, a4⟩ := hA c hc' (by rw [hs]; exact hcs) h2
    rw [e8, if_neg h1', if_neg hcs]
    refine ⟨(LN _).mpr ⟨a1, fun z => h1' ?_⟩, i, a2, by rw [e9]; exact a3, by rw [ek]; exact a4⟩
    rw [z] at a3 a4
    have : i = 0 := by omega
    rw [← a4, this, hb]
  · obtain ⟨⟨a1, a2⟩, a3, a4⟩ := hR
    unfold s_R
    rw [e6, LN, e8, if_pos rfl]
    refine ⟨⟨⟨hbN, hbs⟩, rfl⟩, b4, fun c hc => (LT c).mpr ⟨a4 c hc, fun z => ?_⟩⟩
    rw [z] at hc
    rw [hs] at a3
    exact a3 hc
  · intro e he
    rw [eh 7 (by decide) (by decide) (by decide) (by decide), ert]
    exact hE e ((LE e).mp he)
  · obtain ⟨⟨L, l1, l2, l3⟩, L', l4, l5, l6⟩ := hS
    have hsL : s ∉ L := fun z => by have := ((l3 s).mp z).2; have := hsN.2; omega
    have hbL : b ∉ L := fun z => by have := ((l3 b).mp z).2; have := hbN.2; omega
    refine ⟨⟨s :: L, ⟨e16, ?_⟩, List.nodup_cons.mpr ⟨hsL, l2⟩, ?_⟩, L', ?_, l5, ?_⟩
    · rw [e8, if_neg (Ne.symm hbs), if_pos rfl]
      exact c_ch_congr L _ (fun x hx => by rw [e8, if_neg (fun z => hbL (by rw [← z]; exact hx)), if_neg (fun z => hsL (by rw [← z]; exact hx))]) l1
    · intro x
      rw [List.mem_cons, l3, e1 15 (by decide), e2]
      by_cases c : x = s
      · rw [if_pos c]
        exact ⟨fun _ => ⟨by omega, by decide⟩, fun _ => Or.inl c⟩
      · rw [if_neg c]
        exact ⟨fun z => z.resolve_left c, fun z => Or.inr z⟩
    · rw [e1 14 (by decide)]
      have hb1 := hbN.1
      exact c_ch_congr L' _ (fun x hx => by rw [e8, if_neg (fun z => by have := ((l6 x).mp hx).1; omega), if_neg (fun z => by have := ((l6 x).mp hx).1; omega)]) l4
    · intro x
      rw [l6, e1 13 (by decide), e2]
      by_cases c : x = s
      · rw [if_pos c]
        exact ⟨fun z => by omega, fun z => by omega⟩
      · rw [if_neg c]
  · intro u hu hua h0
    obtain ⟨hu', hus⟩ := (LN u).mp hu
    rw [e9] at h0 ⊢
    obtain ⟨⟨t1, t2⟩, t3⟩ := hT u hu' hua h0
    rw [ert, d_rt_congr (rh 25 (by decide) (by decide) (by decide)) (rh 29 (by decide) (by decide) (by decide))]
    simp only [ek, ert]
    exact ⟨⟨t1, t2⟩, t3⟩
  · intro u hu
    obtain ⟨hu', hus⟩ := (LN u).mp hu
    obtain ⟨⟨c1, c2, c3⟩, c4, c5, c6⟩ := hsn u hu'
    have hne : φ u ≠ φ s := fun z => hus (hsi.1 u s hu' hsN z)
    rw [r26, if_neg hne, rh 27 (by decide) (by decide) (by decide), r30, e2, if_neg hus, e9, e6]
    refine ⟨⟨c1, c2, c3⟩, fun i i1 i2 => ?_, fun z1 z2 => ?_, fun z => ?_⟩
    · rw [d_k_congr (rh 28 (by decide) (by decide) (by decide)), ek]; exact c4 i i1 i2
    · rw [if_neg (fun z => z1 (hsi.1 u b hu' hbN z)), e8, if_neg z1, if_neg hus]
      exact c5 (by rw [hs]; exact hus) z2
    · rw [if_pos (by rw [z])]
  · exact ⟨fun x t hx ht e => hsi.1 x t ((LN x).mp hx).1 ((LN t).mp ht).1 e, fun x t hx ht e => hsi.2 x t ((LE x).mp hx) ((LE t).mp ht) e⟩
  · constructor
    · intro n hn
      rw [r26]
      by_cases c : n = φ s
      · rw [if_pos c]; exact Or.inr rfl
      · rw [if_neg c]
        rcases hso.1 n hn with ⟨z, x, hx, e⟩ | z
        · exact Or.inl ⟨z, x, (LN x).mpr ⟨hx, fun y => c (by rw [← e, y])⟩, e⟩
        · exact Or.inr z
    · intro n n1 n2
      rw [rh 24 (by decide) (by decide) (by decide)]
      rcases hso.2 n n1 n2 with ⟨z, x, hx, e⟩ | z
      · exact Or.inl ⟨z, x, (LE x).mpr hx, e⟩
      · exact Or.inr z
  · intro e he
    obtain ⟨c1, c2, c3⟩ := hse e ((LE e).mp he)
    rw [rh 24 (by decide) (by decide) (by decide), eh 7 (by decide) (by decide) (by decide) (by decide), d_rt_congr (rh 25 (by decide) (by decide) (by decide)) (rh 29 (by decide) (by decide) (by decide)), ert]
    exact ⟨c1, c2, c3⟩
  · obtain ⟨c1, ⟨c2, c3⟩, c4, c5, c6⟩ := hrr
    unfold q_rr
    rw [r11, e6, r23 1 (by decide), r23 2 (by decide), r23 5 (by decide), r23 12 (by decide), r23 13 (by decide), e1 0 (by decide), e1 1 (by decide), e1 12 (by decide), e11 7 (by decide), e11 8 (by decide)]
    exact ⟨rfl, ⟨c2, c3⟩, c4, c5, c6⟩
