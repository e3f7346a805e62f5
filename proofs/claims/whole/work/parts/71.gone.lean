/-! ===== PURE, 32: an entry goes, in both ===== -/
theorem d_rt_neg {r r' : vl_M} (h : r' 25 = r 25) (t : Int) : d_rt r' (-1) t = d_rt r (-1) t := by
  unfold d_rt
  rw [if_pos (by decide), if_pos (by decide), h]
/-- as q_cg, where only what lives need have the same rectangle -/
theorem q_cg2 {w : Nat} {m m' r r' : vl_M} {φ : Int → Int} {X : Int → Prop} {a : Int} (h : q_I w m r φ X a) (h1 : m' 1 = m 1) (h2 : m' 2 = m 2) (h8 : m' 8 = m 8) (h9 : m' 9 = m 9) (h10 : m' 10 = m 10) (hrt : ∀ u, c_LT m u → c_rt m' u = c_rt m u) (h7 : ∀ u, 0 ≤ u → u < 400 → m' 7 u = m 7 u) (h6 : m' 11 6 = m 11 6) (hr : ∀ h : Nat, 24 ≤ h → h ≤ 30 → h ≠ 29 → r' h = r h) (hr9 : ∀ s, c_LN m s → d_rt r' 0 (φ s) = d_rt r 0 (φ s)) (hr1 : r' 23 1 = r 23 1 ∧ r' 23 2 = r 23 2) (hr5 : r' 23 5 = r 23 5 ∧ r' 23 11 = r 23 11) (hc : r' 23 12 = m' 11 7 ∧ r' 23 13 = m' 11 8) : q_I w m' r' φ X a := by
  obtain ⟨⟨hP, hK, hA, hR⟩, ⟨hE, hS⟩, hT, ⟨hsn, hsi, hso, hse⟩, hrr⟩ := h
  have LN : ∀ u, c_LN m' u ↔ c_LN m u := fun u => by unfold c_LN; rw [h1, h2]
  have LE : ∀ u, c_LE m' u ↔ c_LE m u := fun u => by unfold c_LE; rw [h1, h2]
  have LT : ∀ u, c_LT m' u ↔ c_LT m u := fun u => by unfold c_LT; rw [LE, LN]
  have hk : ∀ s i, c_k w m' s i = c_k w m s i := fun s i => by unfold c_k; rw [h10]
  have hdk : ∀ n i, d_k r' n i = d_k r n i := fun n i => d_k_congr (hr 28 (by omega) (by omega) (by omega)) n i
  have hdr : ∀ t, d_rt r' (-1) t = d_rt r (-1) t := fun t => d_rt_neg (hr 25 (by omega) (by omega) (by omega)) t
  refine ⟨⟨?_, ?_, ?_, ?_⟩, ⟨?_, ?_⟩, ?_, ⟨?_, ?_, ?_, ?_⟩, ?_⟩
  · unfold s_P; rw [h1]; exact hP
  · intro s hs
    rw [h2, h9]
    obtain ⟨k1, k2⟩ := hK s ((LN s).mp hs)
    refine ⟨k1, fun i i1 i2 => ?_⟩
    simp only [hk]
    rw [LT, h8, h6]
    exact k2 i i1 i2
  · intro c hc h1 h2
    rw [h6] at h1
    obtain ⟨a1, i, a2, a3, a4⟩ := hA c ((LT c).mp hc) h1 h2
    rw [h8, LN]
    exact ⟨a1, i, a2, by rw [h9]; exact a3, by rw [hk]; exact a4⟩
  · obtain ⟨⟨a1, a2⟩, a3, a4⟩ := hR
    unfold s_R
    rw [h6, LN, h8]
    exact ⟨⟨a1, a2⟩, a3, fun c hc => (LT c).mpr (a4 c hc)⟩
  · intro e he
    have he' := (LE e).mp he
    have := c_LE_lt hP he'
    rw [h7 e this.1 this.2, hrt e (Or.inl he')]
    exact hE e he'
  · obtain ⟨⟨L, l1, l2, l3⟩, L', l4, l5, l6⟩ := hS
    refine ⟨⟨L, ?_, l2, ?_⟩, L', ?_, l5, ?_⟩
    · rw [h1]; exact c_ch_congr L _ (fun b _ => by rw [h8]) l1
    · rw [h1, h2]; exact l3
    · rw [h1]; exact c_ch_congr L' _ (fun b _ => by rw [h8]) l4
    · rw [h1, h2]; exact l6
  · intro s hs hsa h0
    have hs' := (LN s).mp hs
    rw [h9] at h0
    obtain ⟨⟨t1, t2⟩, t3⟩ := hT s hs' hsa h0
    rw [hrt s (Or.inr hs'), hr9 s hs', h9]
    refine ⟨⟨t1, t2⟩, r_is_congr (fun p => ?_) t3⟩
    constructor
    · rintro ⟨i, i1, i2, e⟩
      refine ⟨i, i1, i2, ?_⟩
      rw [hk, hrt _ ((hK s hs').2 i i1 i2).1.1]; exact e
    · rintro ⟨i, i1, i2, e⟩
      refine ⟨i, i1, i2, ?_⟩
      rw [hk, hrt _ ((hK s hs').2 i i1 i2).1.1] at e; exact e
  · intro s hs
    obtain ⟨b1, b2, b3⟩ := hsn s ((LN s).mp hs)
    rw [hr 26 (by omega) (by omega) (by omega), hr 27 (by omega) (by omega) (by omega), hr 30 (by omega) (by omega) (by omega), h2, h9, h8, h6]
    refine ⟨b1, fun i i1 i2 => ?_, b3⟩
    rw [hdk, hk]; exact b2 i i1 i2
  · exact ⟨fun s t hs ht e => hsi.1 s t ((LN s).mp hs) ((LN t).mp ht) e, fun s t hs ht e => hsi.2 s t ((LE s).mp hs) ((LE t).mp ht) e⟩
  · constructor
    · intro n hn
      rw [hr 26 (by omega) (by omega) (by omega)]
      rcases hso.1 n hn with ⟨z, s, hs, e⟩ | z
      · exact Or.inl ⟨z, s, (LN s).mpr hs, e⟩
      · exact Or.inr z
    · intro n n1 n2
      rw [hr 24 (by omega) (by omega) (by omega)]
      rcases hso.2 n n1 n2 with ⟨z, s, hs, e⟩ | z
      · exact Or.inl ⟨z, s, (LE s).mpr hs, e⟩
      · exact Or.inr z
  · intro e he
    have he' := (LE e).mp he
    have := c_LE_lt hP he'
    obtain ⟨b1, b2, b3⟩ := hse e he'
    rw [hr 24 (by omega) (by omega) (by omega), h7 e this.1 this.2, hdr, hrt e (Or.inl he')]
    exact ⟨b1, b2, b3⟩
  · obtain ⟨b1, ⟨b2, b3⟩, b4, b5, b6⟩ := hrr
    unfold q_rr
    rw [hr1.1, hr1.2, hr5.1, hr5.2, h6, h1]
    exact ⟨b1, ⟨b2, b3⟩, b4, hc.1, hc.2⟩
def c_free (m : vl_M) (e : Int) : vl_M := vl_up (vl_up (vl_up (vl_up m 1 12 (m 1 12 - 1)) 2 e (-2)) 8 e (m 1 14)) 1 14 e
theorem c_freeEntry {m : vl_M} {e : Int} (h : c_in e) : fn_X4_freeEntry m e = some (c_free m e) := by
  unfold fn_X4_freeEntry
  rw [pu_lt, pu_gd h, pu_lt, pu_lt, pu_lt]
  unfold c_free
  have : vl_up (vl_up m 1 12 (m 1 12 - 1)) 2 e (-2) 1 14 = m 1 14 := by rw [up_h _ _ _ (by decide), up_i _ _ (by decide)]
  rw [this]
theorem c_free_h (m : vl_M) (e : Int) {h : Nat} (h1 : h ≠ 1) (h2 : h ≠ 2) (h3 : h ≠ 8) : c_free m e h = m h := by
  unfold c_free
  rw [up_h _ _ _ h1, up_h _ _ _ h3, up_h _ _ _ h2, up_h _ _ _ h1]
theorem c_free_1 (m : vl_M) (e : Int) {j : Int} (h : j ≠ 12) (h' : j ≠ 14) : c_free m e 1 j = m 1 j := by
  unfold c_free
  rw [up_i _ _ h', up_h _ _ _ (by decide), up_h _ _ _ (by decide), up_i _ _ h]
theorem c_free_12 (m : vl_M) (e : Int) : c_free m e 1 12 = m 1 12 - 1 := by
  unfold c_free
  rw [up_i _ _ (by decide), up_h _ _ _ (by decide), up_h _ _ _ (by decide), up_s]
theorem c_free_14 (m : vl_M) (e : Int) : c_free m e 1 14 = e := up_s _ _ _ _
theorem c_free_2 (m : vl_M) (e x : Int) : c_free m e 2 x = if x = e then -2 else m 2 x := by
  unfold c_free
  rw [up_h _ _ _ (by decide), up_h _ _ _ (by decide)]
  by_cases c : x = e
  · rw [c, up_s, if_pos rfl]
  · rw [up_i _ _ c, if_neg c, up_h _ _ _ (by decide)]
theorem c_free_8 (m : vl_M) (e x : Int) : c_free m e 8 x = if x = e then m 1 14 else m 8 x := by
  unfold c_free
  rw [up_h _ _ _ (by decide)]
  by_cases c : x = e
  · rw [c, up_s, if_pos rfl]
  · rw [up_i _ _ c, if_neg c, up_h _ _ _ (by decide), up_h _ _ _ (by decide)]
theorem q_freeE {w : Nat} {m r : vl_M} {φ : Int → Int} {X : Int → Prop} {a s : Int} (h : q_I w m r φ X a) (hs : X s) (hsE : c_LE m s) : q_I w (c_free m s) (vl_up (vl_up r 24 (φ s) (-2)) 23 5 (r 23 5 - 1)) φ (fun x => X x ∧ x ≠ s) a := by
  obtain ⟨⟨hP, hK, hA, hR⟩, ⟨hE, hS⟩, hT, ⟨hsn, hsi, hso, hse⟩, hrr⟩ := h
  have p3 := hP.2.2.2.1
  have p4 := hP.2.2.2.2
  have hs1 := hsE.1
  have eh : ∀ h : Nat, h ≠ 1 → h ≠ 2 → h ≠ 8 → c_free m s h = m h := fun h x y z => c_free_h _ _ x y z
  have e1 : ∀ j, j ≠ 12 → j ≠ 14 → c_free m s 1 j = m 1 j := fun j x y => c_free_1 _ _ x y
  have e2 := fun x => c_free_2 m s x
  have e8 := fun x => c_free_8 m s x
  have e9 := eh 9 (by decide) (by decide) (by decide)
  have e11 := eh 11 (by decide) (by decide) (by decide)
  have ek : ∀ x i, c_k w (c_free m s) x i = c_k w m x i := fun x i => by unfold c_k; rw [eh 10 (by decide) (by decide) (by decide)]
  have ert : ∀ x, c_rt (c_free m s) x = c_rt m x := fun x => c_rt_congr (eh 3 (by decide) (by decide) (by decide)) (eh 4 (by decide) (by decide) (by decide)) (eh 5 (by decide) (by decide) (by decide)) (eh 6 (by decide) (by decide) (by decide))
  have LE : ∀ x, c_LE (c_free m s) x ↔ (c_LE m x ∧ x ≠ s) := fun x => by
    unfold c_LE
    rw [e1 13 (by decide) (by decide), e2]
    by_cases c : x = s
    · rw [if_pos c]
      exact ⟨fun z => absurd z.2 (by decide), fun z => absurd c z.2⟩
    · rw [if_neg c]
      exact ⟨fun z => ⟨z, c⟩, fun z => z.1⟩
  have LN : ∀ x, c_LN (c_free m s) x ↔ c_LN m x := fun x => by
    unfold c_LN
    rw [e1 15 (by decide) (by decide), e2]
    by_cases c : x = s
    · rw [if_pos c]
      exact ⟨fun z => by omega, fun z => by omega⟩
    · rw [if_neg c]
  have neN : ∀ x, c_LN m x → x ≠ s := fun x hx z => by have := hx.1; omega
  have LT : ∀ x, c_LT (c_free m s) x ↔ (c_LT m x ∧ x ≠ s) := fun x => by
    unfold c_LT
    rw [LE, LN]
    constructor
    · rintro (z | z)
      · exact ⟨Or.inl z.1, z.2⟩
      · exact ⟨Or.inr z, neN x z⟩
    · rintro ⟨z | z, y⟩
      · exact Or.inl ⟨z, y⟩
      · exact Or.inr z
  generalize hr' : vl_up (vl_up r 24 (φ s) (-2)) 23 5 (r 23 5 - 1) = r'
  have rh : ∀ h : Nat, h ≠ 23 → h ≠ 24 → r' h = r h := fun h x y => by rw [← hr', up_h _ _ _ x, up_h _ _ _ y]
  have r24 : ∀ n, r' 24 n = if n = φ s then -2 else r 24 n := fun n => by
    rw [← hr', up_h _ _ _ (by decide)]
    by_cases c : n = φ s
    · rw [c, up_s, if_pos rfl]
    · rw [up_i _ _ c, if_neg c]
  have r23 : ∀ j, j ≠ 5 → r' 23 j = r 23 j := fun j x => by rw [← hr', up_i _ _ x, up_h _ _ _ (by decide)]
  have r5 : r' 23 5 = r 23 5 - 1 := by rw [← hr', up_s]
  have hsr : m 11 6 ≠ s := neN _ hR.1.1
  have hks : ∀ u i, c_LN m u → 0 ≤ i → i < m 9 u → c_k w m u i ≠ s := fun u i hu i1 i2 z => ((hK u hu).2 i i1 i2).2.1.2.1 (by rw [z]; exact hs)
  refine ⟨⟨?_, ?_, ?_, ?_⟩, ⟨?_, ?_⟩, ?_, ⟨?_, ?_, ?_, ?_⟩, ?_⟩
  · unfold s_P
    rw [e1 10 (by decide) (by decide), e1 0 (by decide) (by decide), e1 1 (by decide) (by decide), e1 15 (by decide) (by decide), e1 13 (by decide) (by decide)]
    exact hP
  · intro u hu
    have hu' := (LN u).mp hu
    have hus := neN u hu'
    rw [e2, if_neg hus, e9]
    obtain ⟨k1, k2⟩ := hK u hu'
    refine ⟨k1, fun i i1 i2 => ?_⟩
    obtain ⟨⟨a1, a2⟩, ⟨a3, a4, a5⟩, a6⟩ := k2 i i1 i2
    have hne := hks u i hu' i1 i2
    simp only [ek]
    rw [LT, e2, if_neg hne, e8, if_neg hne, e11]
    exact ⟨⟨⟨a1, hne⟩, a2⟩, ⟨a3, fun z => a4 z.1, a5⟩, a6⟩
  · intro c hc h1 h2
    obtain ⟨hc', hcs⟩ := (LT c).mp hc
    rw [e11] at h1
    obtain ⟨a1, i, a2, a3, a4⟩ := hA c hc' h1 (fun z => h2 ⟨z, hcs⟩)
    rw [e8, if_neg hcs]
    exact ⟨(LN _).mpr a1, i, a2, by rw [e9]; exact a3, by rw [ek]; exact a4⟩
  · obtain ⟨⟨a1, a2⟩, a3, a4⟩ := hR
    unfold s_R
    rw [e11, LN, e8, if_neg hsr]
    exact ⟨⟨a1, a2⟩, fun z => a3 z.1, fun c z => (LT c).mpr ⟨a4 c z.1, z.2⟩⟩
  · intro e he
    rw [eh 7 (by decide) (by decide) (by decide), ert]
    exact hE e ((LE e).mp he).1
  · obtain ⟨⟨L, l1, l2, l3⟩, L', l4, l5, l6⟩ := hS
    have hsL : s ∉ L' := fun z => ((l6 s).mp z).2 hsE.2
    refine ⟨⟨L, ?_, l2, ?_⟩, s :: L', ⟨c_free_14 m s, ?_⟩, List.nodup_cons.mpr ⟨hsL, l5⟩, ?_⟩
    · rw [e1 16 (by decide) (by decide)]
      exact c_ch_congr L _ (fun b hb => by rw [e8, if_neg (fun z => by have := ((l3 b).mp hb).1; omega)]) l1
    · intro x
      rw [l3, e1 15 (by decide) (by decide), e2]
      by_cases c : x = s
      · rw [if_pos c]
        exact ⟨fun z => by omega, fun z => by omega⟩
      · rw [if_neg c]
    · rw [e8, if_pos rfl]
      exact c_ch_congr L' _ (fun b hb => by rw [e8, if_neg (fun z => hsL (by rw [← z]; exact hb))]) l4
    · intro x
      rw [List.mem_cons, l6, e1 13 (by decide) (by decide), e2]
      by_cases c : x = s
      · rw [if_pos c]
        exact ⟨fun _ => ⟨by omega, by decide⟩, fun _ => Or.inl c⟩
      · rw [if_neg c]
        exact ⟨fun z => z.resolve_left c, fun z => Or.inr z⟩
  · intro u hu hua h0
    have hu' := (LN u).mp hu
    rw [e9] at h0 ⊢
    obtain ⟨⟨t1, t2⟩, t3⟩ := hT u hu' hua h0
    rw [ert, d_rt_congr (rh 25 (by decide) (by decide)) (rh 29 (by decide) (by decide))]
    simp only [ek, ert]
    exact ⟨⟨t1, t2⟩, t3⟩
  · intro u hu
    have hu' := (LN u).mp hu
    have hus := neN u hu'
    obtain ⟨⟨b1, b2, b3⟩, b4, b5, b6⟩ := hsn u hu'
    rw [rh 26 (by decide) (by decide), rh 27 (by decide) (by decide), rh 30 (by decide) (by decide), e2, if_neg hus, e9, e8, if_neg hus, e11]
    refine ⟨⟨b1, b2, b3⟩, fun i i1 i2 => ?_, fun z1 z2 => b5 z1 (fun z => z2 ⟨z, hus⟩), b6⟩
    rw [d_k_congr (rh 28 (by decide) (by decide)), ek]; exact b4 i i1 i2
  · exact ⟨fun x t hx ht e => hsi.1 x t ((LN x).mp hx) ((LN t).mp ht) e, fun x t hx ht e => hsi.2 x t ((LE x).mp hx).1 ((LE t).mp ht).1 e⟩
  · constructor
    · intro n hn
      rw [rh 26 (by decide) (by decide)]
      rcases hso.1 n hn with ⟨z, x, hx, e⟩ | z
      · exact Or.inl ⟨z, x, (LN x).mpr hx, e⟩
      · exact Or.inr z
    · intro n n1 n2
      rw [r24]
      by_cases c : n = φ s
      · rw [if_pos c]; exact Or.inr rfl
      · rw [if_neg c]
        rcases hso.2 n n1 n2 with ⟨z, x, hx, e⟩ | z
        · exact Or.inl ⟨z, x, (LE x).mpr ⟨hx, fun y => c (by rw [← e, y])⟩, e⟩
        · exact Or.inr z
  · intro e he
    obtain ⟨he', hes⟩ := (LE e).mp he
    obtain ⟨b1, b2, b3⟩ := hse e he'
    rw [r24, if_neg (fun z => hes (hsi.2 e s he' hsE z)), eh 7 (by decide) (by decide) (by decide), d_rt_congr (rh 25 (by decide) (by decide)) (rh 29 (by decide) (by decide)), ert]
    exact ⟨b1, b2, b3⟩
  · obtain ⟨g1, g2, g3, g4, g5⟩ := hrr
    unfold q_rr
    rw [r5, r23 11 (by decide), r23 1 (by decide), r23 2 (by decide), r23 12 (by decide), r23 13 (by decide), e11, e1 0 (by decide) (by decide), e1 1 (by decide) (by decide), c_free_12, g3]
    exact ⟨g1, g2, rfl, g4, g5⟩
/-- the reference finds the leaf -/
theorem d_leafI {N : Nat} {r : vl_M} {e n : Int} {κ : Int → Option Int} (hn : d_nd n) (he : vl_r32 e) (hl : vl_r32 (r 26 n)) (hz : r 26 n = 0 → (0 ≤ r 27 n ∧ r 27 n ≤ 11) ∧ ∀ i, 0 ≤ i → i < r 27 n → vl_r32 (d_k r n i)) : ∀ (fu : Nat) (v : Int), 0 ≤ v → v ≤ 11 → 11 - v < (fu : Int) →
    ((r 26 n = 0 → v ≤ r 27 n) → (r 26 n = 0 → ∀ i, v ≤ i → i < r 27 n → d_k r n i ≠ e) → ∃ z, fn_X8_leafOf_L11 N r e n κ fu v = κ z) ∧ (r 26 n = 0 → ∀ p, v ≤ p → p < r 27 n → d_k r n p = e → fn_X8_leafOf_L11 N r e n κ fu v = some n) := by
  intro fu
  induction fu with
  | zero => intro v h1 h2 h3; omega
  | succ fu ih =>
    intro v h1 h2 h3
    rw [fn_X8_leafOf_L11, pu_gd hn, pu_gd hl]
    by_cases c : r 26 n = 0
    · obtain ⟨z1, z2⟩ := hz c
      rw [if_pos c, pu_gd ⟨by omega, by omega⟩, pu_gd ⟨by omega, by omega⟩]
      by_cases c1 : v < r 27 n
      · obtain ⟨i1, i2⟩ := ih (v + 1) (by omega) (by omega) (by omega)
        rw [if_pos c1, d_held hn ⟨h1, by omega⟩, Option.bind_some, pu_gd (z2 v h1 c1), pu_gd he]
        by_cases c2 : d_k r n v = e
        · rw [if_pos c2]
          exact ⟨fun _ y => absurd c2 (y c v (Int.le_refl _) c1), fun _ p _ _ _ => rfl⟩
        · rw [if_neg c2, pu_lt]
          refine ⟨fun x y => i1 (fun _ => by omega) (fun q i j1 j2 => y q i (by omega) j2), fun q p p1 p2 p3 => i2 q p ?_ p2 p3⟩
          have : v ≠ p := fun z => c2 (by rw [z]; exact p3)
          omega
      · rw [if_neg c1]
        exact ⟨fun _ _ => ⟨_, rfl⟩, fun _ p p1 p2 _ => by omega⟩
    · rw [if_neg c]
      exact ⟨fun _ _ => ⟨_, rfl⟩, fun z => absurd z c⟩
theorem d_leafL {N : Nat} {r : vl_M} {e o : Int} {κ : Int → Option Int} (hN : 100000 ≤ N) (he : vl_r32 e) (ho : d_nd o) (hl : ∀ n, d_nd n → vl_r32 (r 26 n) ∧ (r 26 n = 0 → (0 ≤ r 27 n ∧ r 27 n ≤ 11) ∧ ∀ i, 0 ≤ i → i < r 27 n → vl_r32 (d_k r n i))) (h0 : r 26 o = 0) (hp : ∃ p, 0 ≤ p ∧ p < r 27 o ∧ d_k r o p = e) (hno : ∀ n, d_nd n → n < o → r 26 n = 0 → ∀ i, 0 ≤ i → i < r 27 n → d_k r n i ≠ e) : ∀ (fu : Nat) (v : Int), 0 ≤ v → v ≤ o → o - v < (fu : Int) → fn_X8_leafOf_L2 N r e κ fu v = some o := by
  obtain ⟨p, p1, p2, p3⟩ := hp
  intro fu
  induction fu with
  | zero => intro v h1 h2 h3; omega
  | succ fu ih =>
    intro v h1 h2 h3
    have hv : d_nd v := ⟨h1, by omega⟩
    obtain ⟨l1, l2⟩ := hl v hv
    rw [fn_X8_leafOf_L2, pu_gd ⟨by omega, by omega⟩, if_pos (by omega)]
    by_cases c : v = o
    · rw [c]
      rw [c] at l1 l2
      exact (d_leafI (κ := _) ho he l1 l2 N 0 (by omega) (by omega) (by omega)).2 h0 p p1 p2 p3
    · obtain ⟨z, hz⟩ := (d_leafI (N := N) (κ := fun (v5 : Int) => vl_lt (v + 1) fun v6 => fn_X8_leafOf_L2 N r e κ fu v6) hv he l1 l2 N 0 (by omega) (by omega) (by omega)).1 (fun q => (l2 q).1.1) (fun q => hno v hv (by omega) q)
      rw [hz, pu_lt]
      exact ih (v + 1) (by omega) (by omega) (by omega)
theorem q_leafOf {w N : Nat} {m r : vl_M} {φ : Int → Int} {X : Int → Prop} {a e : Int} (hN : 100000 ≤ N) (h : q_I w m r φ X a) (he : c_LE m e) (heX : ¬ X e) : fn_X8_leafOf N r (φ e) = some (φ (m 8 e)) := by
  obtain ⟨⟨hP, hK, hA, hR⟩, ⟨hE, hS⟩, hT, ⟨hsn, hsi, hso, hse⟩, hrr⟩ := h
  have hw11 := hP.1.2
  have her : e ≠ m 11 6 := fun z => by have := c_LE_lt hP he; have := hR.1.1.1; omega
  obtain ⟨b1, b2, i, i1, i2, b3⟩ := q_up1 hK hA (Or.inl he) her heX
  have hl0 : m 2 (m 8 e) = 0 := by rw [b2, he.2]; rfl
  obtain ⟨⟨n1, n2, n3⟩, n4, -⟩ := hsn _ b1
  have hφe := (hse e he).1
  have key : ∀ n, d_nd n → vl_r32 (r 26 n) ∧ (r 26 n = 0 → ∃ s, c_LN m s ∧ φ s = n ∧ m 2 s = 0) := fun n hn => by
    rcases hso.1 n hn with ⟨z, s, hs, q⟩ | z
    · have := (hsn s hs).1.2.1
      have hl := (hK s hs).1.1
      have hl2 := hs.2
      rw [q] at this
      exact ⟨⟨by omega, by omega⟩, fun y => ⟨s, hs, q, by omega⟩⟩
    · rw [z]; exact ⟨by decide, fun y => absurd y (by decide)⟩
  unfold fn_X8_leafOf
  refine d_leafL hN ⟨by omega, by omega⟩ n1 (fun n hn => ?_) (by rw [n2, hl0]) ⟨i, i1, by omega, by rw [n4 i i1 i2, b3]⟩ (fun n hn hlt q j j1 j2 y => ?_) N 0 (by omega) n1.1 (by omega)
  · obtain ⟨k1, k2⟩ := key n hn
    refine ⟨k1, fun q => ?_⟩
    obtain ⟨s, hs, q1, q2⟩ := k2 q
    obtain ⟨⟨c1, c2, c3⟩, c4, -⟩ := hsn s hs
    have := (hK s hs).1
    rw [← q1, c3]
    refine ⟨⟨by omega, by omega⟩, fun j j1 j2 => ?_⟩
    rw [c4 j j1 j2]
    have hk := (hK s hs).2 j j1 j2
    have := (hse _ (c_LT_E hk.1.1 (by omega))).1
    exact ⟨by omega, by omega⟩
  · obtain ⟨k1, k2⟩ := key n hn
    obtain ⟨s, hs, q1, q2⟩ := k2 q
    obtain ⟨⟨c1, c2, c3⟩, c4, -⟩ := hsn s hs
    rw [← q1] at y j2
    rw [c3] at j2
    rw [c4 j j1 j2] at y
    have hk := (hK s hs).2 j j1 j2
    have := hsi.2 _ e (c_LT_E hk.1.1 (by omega)) he y
    have h8 := hk.2.1.1
    rw [this] at h8
    rw [h8, q1] at hlt
    omega
