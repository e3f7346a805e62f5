/-! ===== PURE, 17: one is put into a node in both; rectangles ===== -/
/-- what belongs together looks at nothing else -/
theorem q_cg {w : Nat} {m m' r r' : vl_M} {φ : Int → Int} {X : Int → Prop} {a : Int} (h : q_I w m r φ X a) (h1 : m' 1 = m 1) (h2 : m' 2 = m 2) (h8 : m' 8 = m 8) (h9 : m' 9 = m 9) (h10 : m' 10 = m 10) (hrt : ∀ u, 0 ≤ u → u < 804 → c_rt m' u = c_rt m u) (h7 : ∀ u, 0 ≤ u → u < 400 → m' 7 u = m 7 u) (h6 : m' 11 6 = m 11 6) (hr : ∀ h : Nat, 24 ≤ h → h ≤ 30 → r' h = r h) (hr1 : r' 23 1 = r 23 1 ∧ r' 23 2 = r 23 2) (hr5 : r' 23 5 = r 23 5 ∧ r' 23 11 = r 23 11) (hc : r' 23 12 = m' 11 7 ∧ r' 23 13 = m' 11 8) : q_I w m' r' φ X a := by
  obtain ⟨⟨hP, hK, hA, hR⟩, ⟨hE, hS⟩, hT, ⟨hsn, hsi, hso, hse⟩, hrr⟩ := h
  have LN : ∀ u, c_LN m' u ↔ c_LN m u := fun u => by unfold c_LN; rw [h1, h2]
  have LE : ∀ u, c_LE m' u ↔ c_LE m u := fun u => by unfold c_LE; rw [h1, h2]
  have LT : ∀ u, c_LT m' u ↔ c_LT m u := fun u => by unfold c_LT; rw [LE, LN]
  have hk : ∀ s i, c_k w m' s i = c_k w m s i := fun s i => by unfold c_k; rw [h10]
  have hlt : ∀ u, c_LT m u → 0 ≤ u ∧ u < 804 := fun u hu => by
    obtain ⟨-, -, -, p1, p2⟩ := hP
    rcases hu with hu | hu
    · have := hu.1; omega
    · have := hu.1; omega
  have hdk : ∀ n i, d_k r' n i = d_k r n i := fun n i => d_k_congr (hr 28 (by omega) (by omega)) n i
  have hdr : ∀ l t, d_rt r' l t = d_rt r l t := fun l t => d_rt_congr (hr 25 (by omega) (by omega)) (hr 29 (by omega) (by omega)) l t
  refine ⟨⟨?_, ?_, ?_, ?_⟩, ⟨?_, ?_⟩, ?_, ⟨?_, ?_, ?_, ?_⟩, ?_⟩
  · unfold s_P; rw [h1]; exact hP
  · intro s hs
    rw [h2, h9]
    obtain ⟨k1, k2⟩ := hK s ((LN s).mp hs)
    refine ⟨k1, fun i i1 i2 => ?_⟩
    simp only [hk]
    rw [LT, h8, h6]
    exact k2 i i1 i2
  · intro c hc h1 h2
    rw [h6] at h1
    obtain ⟨a1, i, a2, a3, a4⟩ := hA c ((LT c).mp hc) h1 h2
    rw [h8, LN]
    exact ⟨a1, i, a2, by rw [h9]; exact a3, by rw [hk]; exact a4⟩
  · obtain ⟨⟨a1, a2⟩, a3, a4⟩ := hR
    unfold s_R
    rw [h6, LN, h8]
    exact ⟨⟨a1, a2⟩, a3, fun c hc => (LT c).mpr (a4 c hc)⟩
  · intro e he
    have he' := (LE e).mp he
    have := c_LE_lt hP he'
    rw [h7 e this.1 this.2, hrt e this.1 (by omega)]
    exact hE e he'
  · obtain ⟨⟨L, l1, l2, l3⟩, L', l4, l5, l6⟩ := hS
    refine ⟨⟨L, ?_, l2, ?_⟩, L', ?_, l5, ?_⟩
    · rw [h1]; exact c_ch_congr L _ (fun b _ => by rw [h8]) l1
    · rw [h1, h2]; exact l3
    · rw [h1]; exact c_ch_congr L' _ (fun b _ => by rw [h8]) l4
    · rw [h1, h2]; exact l6
  · intro s hs hsa h0
    have hs' := (LN s).mp hs
    rw [h9] at h0
    obtain ⟨⟨t1, t2⟩, t3⟩ := hT s hs' hsa h0
    have := hlt s (Or.inr hs')
    rw [hrt s this.1 this.2, hdr, h9]
    refine ⟨⟨t1, t2⟩, r_is_congr (fun p => ?_) t3⟩
    constructor
    · rintro ⟨i, i1, i2, e⟩
      refine ⟨i, i1, i2, ?_⟩
      have := hlt _ ((hK s hs').2 i i1 i2).1.1
      rw [hk, hrt _ this.1 this.2]; exact e
    · rintro ⟨i, i1, i2, e⟩
      refine ⟨i, i1, i2, ?_⟩
      have := hlt _ ((hK s hs').2 i i1 i2).1.1
      rw [hk, hrt _ this.1 this.2] at e; exact e
  · intro s hs
    obtain ⟨b1, b2, b3⟩ := hsn s ((LN s).mp hs)
    rw [hr 26 (by omega) (by omega), hr 27 (by omega) (by omega), hr 30 (by omega) (by omega), h2, h9, h8, h6]
    refine ⟨b1, fun i i1 i2 => ?_, b3⟩
    rw [hdk, hk]; exact b2 i i1 i2
  · exact ⟨fun s t hs ht e => hsi.1 s t ((LN s).mp hs) ((LN t).mp ht) e, fun s t hs ht e => hsi.2 s t ((LE s).mp hs) ((LE t).mp ht) e⟩
  · constructor
    · intro n hn
      rw [hr 26 (by omega) (by omega)]
      rcases hso.1 n hn with ⟨z, s, hs, e⟩ | z
      · exact Or.inl ⟨z, s, (LN s).mpr hs, e⟩
      · exact Or.inr z
    · intro n n1 n2
      rw [hr 24 (by omega) (by omega)]
      rcases hso.2 n n1 n2 with ⟨z, s, hs, e⟩ | z
      · exact Or.inl ⟨z, s, (LE s).mpr hs, e⟩
      · exact Or.inr z
  · intro e he
    have he' := (LE e).mp he
    have := c_LE_lt hP he'
    obtain ⟨b1, b2, b3⟩ := hse e he'
    rw [hr 24 (by omega) (by omega), h7 e this.1 this.2, hdr, hrt e this.1 (by omega)]
    exact ⟨b1, b2, b3⟩
  · obtain ⟨b1, ⟨b2, b3⟩, b4, b5, b6⟩ := hrr
    unfold q_rr
    rw [hr1.1, hr1.2, hr5.1, hr5.2, h6, h1]
    exact ⟨b1, ⟨b2, b3⟩, b4, hc.1, hc.2⟩
/-- t comes to the place idx of n -/
def d_isIns (r r' : vl_M) (n idx t : Int) : Prop := ((∀ h : Nat, h ≠ 27 → h ≠ 28 → h ≠ 30 → r' h = r h) ∧ ∀ u, r' 27 u = if u = n then r 27 n + 1 else r 27 u) ∧ (∀ u i, 0 ≤ i → i < 11 → d_k r' u i = if u = n then (if i < idx then d_k r n i else if i = idx then t else if i ≤ r 27 n then d_k r n (i - 1) else d_k r n i) else d_k r u i) ∧ ∀ u, r' 30 u = if 0 < r 26 n ∧ u = t then n else r 30 u
theorem d_app_is {r : vl_M} {n t : Int} (hc : 0 ≤ r 27 n ∧ r 27 n < 11) : d_isIns r (d_app r n t) n (r 27 n) t := by
  refine ⟨⟨fun h a b c => d_app_h _ _ _ b a c, fun u => d_app_27 _ _ _ _⟩, fun u i i1 i2 => ?_, fun u => d_app_30 _ _ _ _⟩
  rw [d_app_k hc ⟨i1, i2⟩]
  by_cases e : u = n
  · subst e
    rw [if_pos rfl]
    by_cases c1 : i = r 27 u
    · rw [if_pos ⟨rfl, c1⟩, if_neg (by omega), if_pos c1]
    · rw [if_neg (fun z => c1 z.2)]
      by_cases c2 : i < r 27 u
      · rw [if_pos c2]
      · rw [if_neg c2, if_neg c1, if_neg (by omega)]
  · rw [if_neg (fun z => e z.1), if_neg e]
theorem q_ins {w : Nat} {m r r' : vl_M} {φ : Int → Int} {X : Int → Prop} {a u t idx : Int} (h : q_I w m r φ X a) (ha : a = u ∨ a < 0) (hu : c_LN m u) (ht : X t) (hl : m 2 t = m 2 u - 1) (hidx : 0 ≤ idx ∧ idx ≤ m 9 u) (hsz : m 9 u < (w : Int)) (hr : d_isIns r r' (φ u) idx (φ t)) :
    q_I w (c_ins w m u idx t) r' φ (fun x => X x ∧ x ≠ t) u := by
  obtain ⟨⟨hP, hK, hA, hR⟩, ⟨hE, hS⟩, hT, ⟨hsn, hsi, hso, hse⟩, hrr⟩ := h
  obtain ⟨⟨r1, r2⟩, r3, r4⟩ := hr
  have htL : c_LT m t := hR.2.2 t ht
  have hw5 : 5 ≤ w := hP.1.1
  have hw11 : w ≤ 11 := hP.1.2
  have eh : ∀ h : Nat, h ≠ 8 → h ≠ 9 → h ≠ 10 → c_ins w m u idx t h = m h := fun h x y z => c_ins_h _ _ _ _ _ x y z
  have e1 := eh 1 (by decide) (by decide) (by decide)
  have e2 := eh 2 (by decide) (by decide) (by decide)
  have e7 := eh 7 (by decide) (by decide) (by decide)
  have e11 := eh 11 (by decide) (by decide) (by decide)
  have e8 := fun x => c_ins_8 w m u idx t x
  have e9 := fun x => c_ins_9 w m u idx t x
  have ek : ∀ x i, 0 ≤ i → i < (w : Int) → c_k w (c_ins w m u idx t) x i = if x = u then (if i < idx then c_k w m u i else if i = idx then t else if i ≤ m 9 u then c_k w m u (i - 1) else c_k w m u i) else c_k w m x i := fun x i i1 i2 => c_ins_k hw5 hw11 hidx.1 hidx.2 hsz ⟨i1, i2⟩
  have ert : ∀ x, c_rt (c_ins w m u idx t) x = c_rt m x := fun x => c_rt_congr (eh 3 (by decide) (by decide) (by decide)) (eh 4 (by decide) (by decide) (by decide)) (eh 5 (by decide) (by decide) (by decide)) (eh 6 (by decide) (by decide) (by decide))
  have LN : ∀ x, c_LN (c_ins w m u idx t) x ↔ c_LN m x := fun x => by unfold c_LN; rw [e1, e2]
  have LE : ∀ x, c_LE (c_ins w m u idx t) x ↔ c_LE m x := fun x => by unfold c_LE; rw [e1, e2]
  have LT : ∀ x, c_LT (c_ins w m u idx t) x ↔ c_LT m x := fun x => by unfold c_LT; rw [LE, LN]
  have hkw : ∀ s, c_LN m s → m 9 s ≤ (w : Int) := fun s hs => (hK s hs).1.2.2
  have htr : t ≠ m 11 6 := fun z => hR.2.1 (by rw [← z]; exact ht)
  have htk : ∀ s i, c_LN m s → 0 ≤ i → i < m 9 s → c_k w m s i ≠ t := fun s i hs i1 i2 z => ((hK s hs).2 i i1 i2).2.1.2.1 (by rw [z]; exact ht)
  have hdr : ∀ l x, d_rt r' l x = d_rt r l x := fun l x => d_rt_congr (r1 25 (by decide) (by decide) (by decide)) (r1 29 (by decide) (by decide) (by decide)) l x
  -- the new row of u
  have hrow : ∀ i, 0 ≤ i → i < m 9 u + 1 → (i = idx ∧ c_k w (c_ins w m u idx t) u i = t) ∨ (i ≠ idx ∧ ∃ i', (0 ≤ i' ∧ i' < m 9 u) ∧ c_k w (c_ins w m u idx t) u i = c_k w m u i' ∧ i' = if i < idx then i else i - 1) := by
    intro i i1 i2
    rw [ek u i i1 (by omega), if_pos rfl]
    by_cases c1 : i < idx
    · exact Or.inr ⟨by omega, i, ⟨i1, by omega⟩, by rw [if_pos c1], by rw [if_pos c1]⟩
    · by_cases c2 : i = idx
      · exact Or.inl ⟨c2, by rw [if_neg c1, if_pos c2]⟩
      · exact Or.inr ⟨c2, i - 1, ⟨by omega, by omega⟩, by rw [if_neg c1, if_neg c2, if_pos (by omega)], by rw [if_neg c1]⟩
  -- t as a node of the reference
  have hφt : ∀ s, c_LN m s → s ≠ t → 0 < r 26 (φ u) → φ s ≠ φ t := fun s hs hne hp z => by
    have : 0 < m 2 u := by rw [← (hsn u hu).1.2.1]; exact hp
    exact hne (hsi.1 s t hs (c_LT_N htL (by omega)) z)
  refine ⟨⟨?_, ?_, ?_, ?_⟩, ⟨?_, ?_⟩, ?_, ⟨?_, ?_, ?_, ?_⟩, ?_⟩
  · unfold s_P; rw [e1]; exact hP
  · intro s hs
    have hs' := (LN s).mp hs
    rw [e2, e9]
    obtain ⟨k1, k2⟩ := hK s hs'
    by_cases c : s = u
    · subst c
      rw [if_pos rfl]
      refine ⟨⟨k1.1, by omega, by omega⟩, fun i i1 i2 => ?_⟩
      rcases hrow i i1 i2 with ⟨ci, ce⟩ | ⟨ci, i', ⟨q1, q2⟩, ce, qe⟩
      · refine ⟨⟨?_, ?_⟩, ⟨?_, ?_, ?_⟩, ?_⟩
        · rw [ce]; exact (LT t).mpr htL
        · rw [ce]; exact hl
        · rw [ce, e8, if_pos rfl]
        · rw [ce]; exact fun z => z.2 rfl
        · rw [ce, e11]; exact htr
        · intro j j1 j2 e
          rcases hrow j j1 j2 with ⟨cj, -⟩ | ⟨cj, j', ⟨p1, p2⟩, cf, -⟩
          · omega
          · rw [ce, cf] at e
            exact absurd e.symm (htk s j' hs' p1 p2)
      · obtain ⟨⟨a1, a2⟩, ⟨a3, a4, a5⟩, a6⟩ := k2 i' q1 q2
        refine ⟨⟨?_, ?_⟩, ⟨?_, ?_, ?_⟩, ?_⟩
        · rw [ce]; exact (LT _).mpr a1
        · rw [ce]; exact a2
        · rw [ce, e8, if_neg (htk s i' hs' q1 q2)]; exact a3
        · rw [ce]; exact fun z => a4 z.1
        · rw [ce, e11]; exact a5
        · intro j j1 j2 e
          rcases hrow j j1 j2 with ⟨cj, cf⟩ | ⟨cj, j', ⟨p1, p2⟩, cf, qf⟩
          · rw [ce, cf] at e
            exact absurd e (htk s i' hs' q1 q2)
          · rw [ce, cf] at e
            have := a6 j' p1 p2 e
            rw [qe, qf] at this
            split at this <;> split at this <;> omega
    · rw [if_neg c]
      refine ⟨k1, fun i i1 i2 => ?_⟩
      obtain ⟨⟨a1, a2⟩, ⟨a3, a4, a5⟩, a6⟩ := k2 i i1 i2
      have e : ∀ j, 0 ≤ j → j < m 9 s → c_k w (c_ins w m u idx t) s j = c_k w m s j := fun j j1 j2 => by rw [ek s j j1 (by omega), if_neg c]
      rw [e i i1 i2, e8, if_neg (htk s i hs' i1 i2), e11]
      refine ⟨⟨(LT _).mpr a1, a2⟩, ⟨a3, fun z => a4 z.1, a5⟩, fun j j1 j2 q => ?_⟩
      rw [e j j1 j2] at q
      exact a6 j j1 j2 q
  · intro c hc h1 h2
    rw [e11] at h1
    have hc' := (LT c).mp hc
    rw [e8]
    by_cases ct : c = t
    · rw [if_pos ct]
      refine ⟨(LN u).mpr hu, idx, hidx.1, by rw [e9, if_pos rfl]; omega, ?_⟩
      rw [ek u idx hidx.1 (by omega), if_pos rfl, if_neg (by omega), if_pos rfl, ct]
    · rw [if_neg ct]
      obtain ⟨a1, i, a2, a3, a4⟩ := hA c hc' h1 (fun z => h2 ⟨z, ct⟩)
      by_cases cu : m 8 c = u
      · rw [cu] at a3 a4 ⊢
        refine ⟨(LN u).mpr hu, (if i < idx then i else i + 1), by split <;> omega, by rw [e9, if_pos rfl]; split <;> omega, ?_⟩
        rw [ek u _ (by split <;> omega) (by split <;> omega), if_pos rfl]
        by_cases ci : i < idx
        · rw [if_pos ci, if_pos ci]; exact a4
        · rw [if_neg ci, if_neg (by omega), if_neg (by omega), if_pos (by omega), show i + 1 - 1 = i by omega]; exact a4
      · have := hkw _ a1
        refine ⟨(LN _).mpr a1, i, a2, by rw [e9, if_neg cu]; exact a3, ?_⟩
        rw [ek _ i a2 (by omega), if_neg cu]; exact a4
  · obtain ⟨⟨a1, a2⟩, a3, a4⟩ := hR
    unfold s_R
    rw [e11, LN, e8, if_neg (Ne.symm htr)]
    exact ⟨⟨a1, a2⟩, fun z => a3 z.1, fun c hc => (LT c).mpr (a4 c hc.1)⟩
  · intro e he
    rw [e7, ert]
    exact hE e ((LE e).mp he)
  · obtain ⟨⟨L, l1, l2, l3⟩, L', l4, l5, l6⟩ := hS
    have hp4 := hP.2.2.2.2
    refine ⟨⟨L, ?_, l2, ?_⟩, L', ?_, l5, ?_⟩
    · rw [e1]
      refine c_ch_congr L _ (fun b hb => ?_) l1
      rw [e8, if_neg (fun z => ?_)]
      have q := (l3 b).mp hb
      rw [z] at q
      rcases htL with y | y
      · have := y.1; omega
      · have := y.2; omega
    · rw [e1, e2]; exact l3
    · rw [e1]
      refine c_ch_congr L' _ (fun b hb => ?_) l4
      rw [e8, if_neg (fun z => ?_)]
      have q := (l6 b).mp hb
      rw [z] at q
      rcases htL with y | y
      · exact q.2 y.2
      · have := y.1; omega
    · rw [e1, e2]; exact l6
  · intro s hs hsu h0
    have hs' := (LN s).mp hs
    rw [e9, if_neg hsu] at h0 ⊢
    have hsa : s ≠ a := by
      rcases ha with ha | ha
      · rw [ha]; exact hsu
      · have := hs'.1; omega
    obtain ⟨⟨t1, t2⟩, t3⟩ := hT s hs' hsa h0
    rw [ert, hdr]
    refine ⟨⟨t1, t2⟩, r_is_congr (fun p => ?_) t3⟩
    have := hkw s hs'
    constructor
    · rintro ⟨i, i1, i2, e⟩
      exact ⟨i, i1, i2, by rw [ek s i i1 (by omega), if_neg hsu, ert]; exact e⟩
    · rintro ⟨i, i1, i2, e⟩
      rw [ek s i i1 (by omega), if_neg hsu, ert] at e
      exact ⟨i, i1, i2, e⟩
  · intro s hs
    have hs' := (LN s).mp hs
    obtain ⟨⟨b1, b2, b3⟩, b4, b5, b6⟩ := hsn s hs'
    have bu := (hsn u hu).1
    have bk := (hsn u hu).2.1
    rw [r1 26 (by decide) (by decide) (by decide), e2, r2, e9, e11]
    refine ⟨⟨b1, b2, ?_⟩, ?_, ?_, ?_⟩
    · by_cases c : s = u
      · rw [c, if_pos rfl, if_pos rfl, bu.2.2]
      · rw [if_neg c, if_neg (fun z => c (hsi.1 s u hs' hu z))]; exact b3
    · intro i i1 i2
      by_cases c : s = u
      · subst c
        rw [if_pos rfl] at i2
        rw [r3 (φ s) i i1 (by omega), if_pos rfl, ek s i i1 (by omega), if_pos rfl, bu.2.2]
        by_cases c1 : i < idx
        · rw [if_pos c1, if_pos c1]; exact bk i i1 (by omega)
        · rw [if_neg c1, if_neg c1]
          by_cases c2 : i = idx
          · rw [if_pos c2, if_pos c2]
          · rw [if_neg c2, if_neg c2, if_pos (by omega), if_pos (by omega)]; exact bk (i - 1) (by omega) (by omega)
      · rw [if_neg c] at i2
        have := hkw s hs'
        rw [r3 (φ s) i i1 (by omega), if_neg (fun z => c (hsi.1 s u hs' hu z)), ek s i i1 (by omega), if_neg c]
        exact b4 i i1 i2
    · intro z1 z2
      rw [r4, e8]
      by_cases ct : s = t
      · subst ct
        have h0 := hs'.2
        rw [if_pos rfl, if_pos ⟨by rw [bu.2.1]; omega, rfl⟩]
      · rw [if_neg ct, if_neg (fun z => hφt s hs' ct z.1 z.2)]
        exact b5 z1 (fun z => z2 ⟨z, ct⟩)
    · intro z
      rw [r4, if_neg (fun y => hφt s hs' (fun q => htr (q.symm.trans z)) y.1 y.2)]
      exact b6 z
  · exact ⟨fun s t hs ht e => hsi.1 s t ((LN s).mp hs) ((LN t).mp ht) e, fun s t hs ht e => hsi.2 s t ((LE s).mp hs) ((LE t).mp ht) e⟩
  · constructor
    · intro n hn
      rw [r1 26 (by decide) (by decide) (by decide)]
      rcases hso.1 n hn with ⟨z, s, hs, e⟩ | z
      · exact Or.inl ⟨z, s, (LN s).mpr hs, e⟩
      · exact Or.inr z
    · intro n n1 n2
      rw [r1 24 (by decide) (by decide) (by decide)]
      rcases hso.2 n n1 n2 with ⟨z, s, hs, e⟩ | z
      · exact Or.inl ⟨z, s, (LE s).mpr hs, e⟩
      · exact Or.inr z
  · intro e he
    obtain ⟨b1, b2, b3⟩ := hse e ((LE e).mp he)
    rw [r1 24 (by decide) (by decide) (by decide), e7, hdr, ert]
    exact ⟨b1, b2, b3⟩
  · unfold q_rr
    rw [r1 23 (by decide) (by decide) (by decide), e11, e1]
    exact hrr
