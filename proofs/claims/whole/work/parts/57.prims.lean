/-! ===== PURE, 18: rectangles are set, one is taken out, nodes go, in both ===== -/
theorem q_tight {w : Nat} {m r : vl_M} {φ : Int → Int} {X : Int → Prop} {u : Int} (b : Int) (h : q_I w m r φ X u) (ht : c_LN m u → 0 < m 9 u → (r_ok (c_rt m u) ∧ d_rt r 0 (φ u) = c_rt m u) ∧ r_is (c_rt m u) (fun p => ∃ i, 0 ≤ i ∧ i < m 9 u ∧ p = c_rt m (c_k w m u i))) : q_I w m r φ X b := by
  obtain ⟨h1, h2, hT, h3⟩ := h
  refine ⟨h1, h2, fun s hs _ h0 => ?_, h3⟩
  by_cases c : s = u
  · subst c; exact ht hs h0
  · exact hT s hs c h0
theorem q_fit {w : Nat} {m r : vl_M} {φ : Int → Int} {X : Int → Prop} {u : Int} {q : pR} (h : q_I w m r φ X u) (hu : c_LN m u) (oq : r_ok q) (hq : r_is q (fun p => ∃ i, 0 ≤ i ∧ i < m 9 u ∧ p = c_rt m (c_k w m u i))) : q_I w (c_set m u q) (d_set r (φ u) q) φ X (m 8 u) := by
  obtain ⟨⟨hP, hK, hA, hR⟩, ⟨hE, hS⟩, hT, ⟨hsn, hsi, hso, hse⟩, hrr⟩ := h
  have eh : ∀ h : Nat, (h < 3 ∨ 6 < h) → c_set m u q h = m h := fun h x => c_set_h _ _ _ (by omega) (by omega) (by omega) (by omega)
  have e1 := eh 1 (by omega)
  have e2 := eh 2 (by omega)
  have e7 := eh 7 (by omega)
  have e8 := eh 8 (by omega)
  have e9 := eh 9 (by omega)
  have e11 := eh 11 (by omega)
  have ek : ∀ s i, c_k w (c_set m u q) s i = c_k w m s i := fun s i => by unfold c_k; rw [eh 10 (by omega)]
  have LN : ∀ x, c_LN (c_set m u q) x ↔ c_LN m x := fun x => by unfold c_LN; rw [e1, e2]
  have LE : ∀ x, c_LE (c_set m u q) x ↔ c_LE m x := fun x => by unfold c_LE; rw [e1, e2]
  have LT : ∀ x, c_LT (c_set m u q) x ↔ c_LT m x := fun x => by unfold c_LT; rw [LE, LN]
  have rh : ∀ h : Nat, h ≠ 29 → d_set r (φ u) q h = r h := fun h x => d_set_h _ _ _ x
  have hue : ∀ e, c_LE m e → e ≠ u := fun e he z => by
    have := c_LE_lt hP he
    have := hu.1
    omega
  refine ⟨⟨?_, ?_, ?_, ?_⟩, ⟨?_, ?_⟩, ?_, ⟨?_, ?_, ?_, ?_⟩, ?_⟩
  · unfold s_P; rw [e1]; exact hP
  · intro s hs
    rw [e2, e9]
    obtain ⟨k1, k2⟩ := hK s ((LN s).mp hs)
    refine ⟨k1, fun i i1 i2 => ?_⟩
    simp only [ek]
    rw [LT, e8, e11]
    exact k2 i i1 i2
  · intro c hc h1 h2
    rw [e11] at h1
    obtain ⟨a1, i, a2, a3, a4⟩ := hA c ((LT c).mp hc) h1 h2
    rw [e8, LN]
    exact ⟨a1, i, a2, by rw [e9]; exact a3, by rw [ek]; exact a4⟩
  · obtain ⟨⟨a1, a2⟩, a3, a4⟩ := hR
    unfold s_R
    rw [e11, LN, e8]
    exact ⟨⟨a1, a2⟩, a3, fun c hc => (LT c).mpr (a4 c hc)⟩
  · intro e he
    have he' := (LE e).mp he
    rw [e7, c_set_ne _ _ (hue e he')]
    exact hE e he'
  · obtain ⟨⟨L, l1, l2, l3⟩, L', l4, l5, l6⟩ := hS
    refine ⟨⟨L, ?_, l2, ?_⟩, L', ?_, l5, ?_⟩
    · rw [e1]; exact c_ch_congr L _ (fun b _ => by rw [e8]) l1
    · rw [e1, e2]; exact l3
    · rw [e1]; exact c_ch_congr L' _ (fun b _ => by rw [e8]) l4
    · rw [e1, e2]; exact l6
  · intro s hs hsa h0
    have hs' := (LN s).mp hs
    rw [e9] at h0 ⊢
    by_cases c : s = u
    · subst c
      rw [c_set_s, d_set_s _ _ _ (by decide)]
      refine ⟨⟨oq, rfl⟩, r_is_congr (fun p => ?_) hq⟩
      have hne : ∀ i, 0 ≤ i → i < m 9 s → c_k w m s i ≠ s := fun i i1 i2 z => by
        have := ((hK s hs').2 i i1 i2).1.2
        rw [z] at this
        omega
      constructor
      · rintro ⟨i, i1, i2, e⟩
        exact ⟨i, i1, i2, by rw [ek, c_set_ne _ _ (hne i i1 i2)]; exact e⟩
      · rintro ⟨i, i1, i2, e⟩
        rw [ek, c_set_ne _ _ (hne i i1 i2)] at e
        exact ⟨i, i1, i2, e⟩
    · obtain ⟨⟨t1, t2⟩, t3⟩ := hT s hs' c h0
      have hne : ∀ i, 0 ≤ i → i < m 9 s → c_k w m s i ≠ u := fun i i1 i2 z => by
        have := ((hK s hs').2 i i1 i2).2.1.1
        rw [z] at this
        exact hsa this.symm
      rw [c_set_ne _ _ c, d_set_ne _ _ (Or.inr (fun z => c (hsi.1 s u hs' hu z)))]
      refine ⟨⟨t1, t2⟩, r_is_congr (fun p => ?_) t3⟩
      constructor
      · rintro ⟨i, i1, i2, e⟩
        exact ⟨i, i1, i2, by rw [ek, c_set_ne _ _ (hne i i1 i2)]; exact e⟩
      · rintro ⟨i, i1, i2, e⟩
        rw [ek, c_set_ne _ _ (hne i i1 i2)] at e
        exact ⟨i, i1, i2, e⟩
  · intro s hs
    obtain ⟨b1, b2, b3⟩ := hsn s ((LN s).mp hs)
    rw [rh 26 (by decide), rh 27 (by decide), rh 30 (by decide), e2, e9, e8, e11]
    refine ⟨b1, fun i i1 i2 => ?_, b3⟩
    rw [d_k_congr (rh 28 (by decide)), ek]; exact b2 i i1 i2
  · exact ⟨fun s t hs ht e => hsi.1 s t ((LN s).mp hs) ((LN t).mp ht) e, fun s t hs ht e => hsi.2 s t ((LE s).mp hs) ((LE t).mp ht) e⟩
  · constructor
    · intro n hn
      rw [rh 26 (by decide)]
      rcases hso.1 n hn with ⟨z, s, hs, e⟩ | z
      · exact Or.inl ⟨z, s, (LN s).mpr hs, e⟩
      · exact Or.inr z
    · intro n n1 n2
      rw [rh 24 (by decide)]
      rcases hso.2 n n1 n2 with ⟨z, s, hs, e⟩ | z
      · exact Or.inl ⟨z, s, (LE s).mpr hs, e⟩
      · exact Or.inr z
  · intro e he
    have he' := (LE e).mp he
    obtain ⟨b1, b2, b3⟩ := hse e he'
    rw [rh 24 (by decide), e7, d_set_ne _ _ (Or.inl (by decide)), c_set_ne _ _ (hue e he')]
    exact ⟨b1, b2, b3⟩
  · unfold q_rr
    rw [rh 23 (by decide), e11, e1]
    exact hrr
theorem q_del {w : Nat} {m r : vl_M} {φ : Int → Int} {X : Int → Prop} {a u p : Int} (h : q_I w m r φ X a) (ha : a = u ∨ a < 0) (hu : c_LN m u) (hp : 0 ≤ p ∧ p < m 9 u) :
    q_I w (c_del w m u p) (d_del r (φ u) p) φ (fun x => X x ∨ x = c_k w m u p) u := by
  obtain ⟨⟨hP, hK, hA, hR⟩, ⟨hE, hS⟩, hT, ⟨hsn, hsi, hso, hse⟩, hrr⟩ := h
  have hw5 : 5 ≤ w := hP.1.1
  have hw11 : w ≤ 11 := hP.1.2
  have hkw : ∀ s, c_LN m s → m 9 s ≤ (w : Int) := fun s hs => (hK s hs).1.2.2
  have huw := hkw u hu
  have eh : ∀ h : Nat, h ≠ 9 → h ≠ 10 → c_del w m u p h = m h := fun h x y => c_del_h _ _ _ _ x y
  have e1 := eh 1 (by decide) (by decide)
  have e2 := eh 2 (by decide) (by decide)
  have e7 := eh 7 (by decide) (by decide)
  have e8 := eh 8 (by decide) (by decide)
  have e11 := eh 11 (by decide) (by decide)
  have e9 := fun x => c_del_9 w m u p x
  have ek : ∀ x i, 0 ≤ i → i < (w : Int) → c_k w (c_del w m u p) x i = if x = u then (if i < p then c_k w m u i else if i < m 9 u - 1 then c_k w m u (i + 1) else c_k w m u i) else c_k w m x i := fun x i i1 i2 => c_del_k hw5 hw11 hp huw ⟨i1, i2⟩
  have ert : ∀ x, c_rt (c_del w m u p) x = c_rt m x := fun x => c_rt_congr (eh 3 (by decide) (by decide)) (eh 4 (by decide) (by decide)) (eh 5 (by decide) (by decide)) (eh 6 (by decide) (by decide))
  have LN : ∀ x, c_LN (c_del w m u p) x ↔ c_LN m x := fun x => by unfold c_LN; rw [e1, e2]
  have LE : ∀ x, c_LE (c_del w m u p) x ↔ c_LE m x := fun x => by unfold c_LE; rw [e1, e2]
  have LT : ∀ x, c_LT (c_del w m u p) x ↔ c_LT m x := fun x => by unfold c_LT; rw [LE, LN]
  have bu := (hsn u hu).1
  have bk := (hsn u hu).2.1
  have rp : 0 ≤ p ∧ p < r 27 (φ u) := by rw [bu.2.2]; exact hp
  have rc : r 27 (φ u) ≤ 11 := by rw [bu.2.2]; omega
  have rh : ∀ h : Nat, h ≠ 27 → h ≠ 28 → d_del r (φ u) p h = r h := fun h x y => d_del_h _ _ _ x y
  have hdr : ∀ l x, d_rt (d_del r (φ u) p) l x = d_rt r l x := fun l x => d_rt_congr (rh 25 (by decide) (by decide)) (rh 29 (by decide) (by decide)) l x
  have hrow : ∀ i, 0 ≤ i → i < m 9 u - 1 → ∃ i', (0 ≤ i' ∧ i' < m 9 u) ∧ c_k w (c_del w m u p) u i = c_k w m u i' ∧ i' = (if i < p then i else i + 1) := by
    intro i i1 i2
    rw [ek u i i1 (by omega), if_pos rfl]
    by_cases c1 : i < p
    · exact ⟨i, ⟨i1, by omega⟩, by rw [if_pos c1], by rw [if_pos c1]⟩
    · exact ⟨i + 1, ⟨by omega, by omega⟩, by rw [if_neg c1, if_pos i2], by rw [if_neg c1]⟩
  obtain ⟨⟨t1, t2⟩, ⟨t3, t4, t5⟩, t6⟩ := (hK u hu).2 p hp.1 hp.2
  refine ⟨⟨?_, ?_, ?_, ?_⟩, ⟨?_, ?_⟩, ?_, ⟨?_, ?_, ?_, ?_⟩, ?_⟩
  · unfold s_P; rw [e1]; exact hP
  · intro s hs
    have hs' := (LN s).mp hs
    rw [e2, e9, e8, e11]
    obtain ⟨k1, k2⟩ := hK s hs'
    by_cases c : s = u
    · subst c
      rw [if_pos rfl]
      refine ⟨⟨k1.1, by omega, by omega⟩, fun i i1 i2 => ?_⟩
      obtain ⟨i', q, ce, qe⟩ := hrow i i1 i2
      obtain ⟨⟨a1, a2⟩, ⟨a3, a4, a5⟩, a6⟩ := k2 i' q.1 q.2
      rw [ce]
      refine ⟨⟨(LT _).mpr a1, a2⟩, ⟨a3, fun z => z.elim a4 (fun y => ?_), a5⟩, fun j j1 j2 e => ?_⟩
      · have := a6 p hp.1 hp.2 y
        rw [qe] at this
        split at this <;> omega
      · obtain ⟨j', qj, cf, qf⟩ := hrow j j1 j2
        rw [cf] at e
        have := a6 j' qj.1 qj.2 e
        rw [qe, qf] at this
        split at this <;> split at this <;> omega
    · rw [if_neg c]
      refine ⟨k1, fun i i1 i2 => ?_⟩
      obtain ⟨⟨a1, a2⟩, ⟨a3, a4, a5⟩, a6⟩ := k2 i i1 i2
      have e : ∀ j, 0 ≤ j → j < m 9 s → c_k w (c_del w m u p) s j = c_k w m s j := fun j j1 j2 => by rw [ek s j j1 (by omega), if_neg c]
      rw [e i i1 i2]
      refine ⟨⟨(LT _).mpr a1, a2⟩, ⟨a3, fun z => z.elim a4 (fun y => c (q_one hK hs' hu ⟨i1, i2⟩ hp y).1), a5⟩, fun j j1 j2 q => ?_⟩
      rw [e j j1 j2] at q
      exact a6 j j1 j2 q
  · intro c hc h1 h2
    rw [e11] at h1
    have hc' := (LT c).mp hc
    rw [e8]
    obtain ⟨a1, i, a2, a3, a4⟩ := hA c hc' h1 (fun z => h2 (Or.inl z))
    by_cases cu : m 8 c = u
    · rw [cu] at a3 a4 ⊢
      have hip : i ≠ p := fun z => h2 (Or.inr (by rw [← a4, z]))
      refine ⟨(LN u).mpr hu, (if i < p then i else i - 1), by split <;> omega, by rw [e9, if_pos rfl]; split <;> omega, ?_⟩
      rw [ek u _ (by split <;> omega) (by split <;> omega), if_pos rfl]
      by_cases ci : i < p
      · rw [if_pos ci, if_pos ci]; exact a4
      · rw [if_neg ci, if_neg (by omega), if_pos (by omega), show i - 1 + 1 = i by omega]; exact a4
    · have := hkw _ a1
      refine ⟨(LN _).mpr a1, i, a2, by rw [e9, if_neg cu]; exact a3, ?_⟩
      rw [ek _ i a2 (by omega), if_neg cu]; exact a4
  · obtain ⟨⟨a1, a2⟩, a3, a4⟩ := hR
    unfold s_R
    rw [e11, LN, e8]
    exact ⟨⟨a1, a2⟩, fun z => z.elim a3 (fun y => t5 y.symm), fun c hc => (LT c).mpr (hc.elim (a4 c) (fun y => by rw [y]; exact t1))⟩
  · intro e he
    rw [e7, ert]
    exact hE e ((LE e).mp he)
  · obtain ⟨⟨L, l1, l2, l3⟩, L', l4, l5, l6⟩ := hS
    refine ⟨⟨L, ?_, l2, ?_⟩, L', ?_, l5, ?_⟩
    · rw [e1]; exact c_ch_congr L _ (fun b _ => by rw [e8]) l1
    · rw [e1, e2]; exact l3
    · rw [e1]; exact c_ch_congr L' _ (fun b _ => by rw [e8]) l4
    · rw [e1, e2]; exact l6
  · intro s hs hsu h0
    have hs' := (LN s).mp hs
    rw [e9, if_neg hsu] at h0 ⊢
    have hsa : s ≠ a := by
      rcases ha with ha | ha
      · rw [ha]; exact hsu
      · have := hs'.1; omega
    obtain ⟨⟨t1, t2⟩, t3⟩ := hT s hs' hsa h0
    rw [ert, hdr]
    refine ⟨⟨t1, t2⟩, r_is_congr (fun p => ?_) t3⟩
    have := hkw s hs'
    constructor
    · rintro ⟨i, i1, i2, e⟩
      exact ⟨i, i1, i2, by rw [ek s i i1 (by omega), if_neg hsu, ert]; exact e⟩
    · rintro ⟨i, i1, i2, e⟩
      rw [ek s i i1 (by omega), if_neg hsu, ert] at e
      exact ⟨i, i1, i2, e⟩
  · intro s hs
    have hs' := (LN s).mp hs
    obtain ⟨⟨b1, b2, b3⟩, b4, b5, b6⟩ := hsn s hs'
    rw [rh 26 (by decide) (by decide), e2, d_del_27, e9, e11, rh 30 (by decide) (by decide), e8]
    refine ⟨⟨b1, b2, ?_⟩, ?_, fun z1 z2 => b5 z1 (fun z => z2 (Or.inl z)), b6⟩
    · by_cases c : s = u
      · rw [c, if_pos rfl, if_pos rfl, bu.2.2]
      · rw [if_neg c, if_neg (fun z => c (hsi.1 s u hs' hu z))]; exact b3
    · intro i i1 i2
      by_cases c : s = u
      · subst c
        rw [if_pos rfl] at i2
        rw [d_del_k rp rc ⟨i1, by omega⟩, if_pos rfl, ek s i i1 (by omega), if_pos rfl, bu.2.2]
        by_cases c1 : i < p
        · rw [if_pos c1, if_pos c1]; exact bk i i1 (by omega)
        · rw [if_neg c1, if_neg c1, if_pos i2, if_pos i2]; exact bk (i + 1) (by omega) (by omega)
      · rw [if_neg c] at i2
        have := hkw s hs'
        rw [d_del_k rp rc ⟨i1, by omega⟩, if_neg (fun z => c (hsi.1 s u hs' hu z)), ek s i i1 (by omega), if_neg c]
        exact b4 i i1 i2
  · exact ⟨fun s t hs ht e => hsi.1 s t ((LN s).mp hs) ((LN t).mp ht) e, fun s t hs ht e => hsi.2 s t ((LE s).mp hs) ((LE t).mp ht) e⟩
  · constructor
    · intro n hn
      rw [rh 26 (by decide) (by decide)]
      rcases hso.1 n hn with ⟨z, s, hs, e⟩ | z
      · exact Or.inl ⟨z, s, (LN s).mpr hs, e⟩
      · exact Or.inr z
    · intro n n1 n2
      rw [rh 24 (by decide) (by decide)]
      rcases hso.2 n n1 n2 with ⟨z, s, hs, e⟩ | z
      · exact Or.inl ⟨z, s, (LE s).mpr hs, e⟩
      · exact Or.inr z
  · intro e he
    obtain ⟨b1, b2, b3⟩ := hse e ((LE e).mp he)
    rw [rh 24 (by decide) (by decide), e7, hdr, ert]
    exact ⟨b1, b2, b3⟩
  · unfold q_rr
    rw [rh 23 (by decide) (by decide), e11, e1]
    exact hrr
/-- another node becomes the root -/
theorem q_root {w : Nat} {m r : vl_M} {φ : Int → Int} {X : Int → Prop} {a b : Int} (h : q_I w m r φ X a) (hb : X b) (hbN : c_LN m b) (h8 : m 8 b = -1) (h30 : r 30 (φ b) = -2) : q_I w (vl_up m 11 6 b) (vl_up r 23 11 (φ b)) φ (fun x => (X x ∧ x ≠ b) ∨ x = m 11 6) a := by
  obtain ⟨⟨hP, hK, hA, hR⟩, ⟨hE, hS⟩, hT, ⟨hsn, hsi, hso, hse⟩, hrr⟩ := h
  have eh : ∀ h : Nat, h ≠ 11 → vl_up m 11 6 b h = m h := fun h x => up_h _ _ _ x
  have e6 : vl_up m 11 6 b 11 6 = b := up_s _ _ _ _
  have ek : ∀ s i, c_k w (vl_up m 11 6 b) s i = c_k w m s i := fun s i => by unfold c_k; rw [eh 10 (by decide)]
  have ert : ∀ x, c_rt (vl_up m 11 6 b) x = c_rt m x := fun x => c_rt_congr (eh 3 (by decide)) (eh 4 (by decide)) (eh 5 (by decide)) (eh 6 (by decide))
  have LN : ∀ x, c_LN (vl_up m 11 6 b) x ↔ c_LN m x := fun x => by unfold c_LN; rw [eh 1 (by decide), eh 2 (by decide)]
  have LE : ∀ x, c_LE (vl_up m 11 6 b) x ↔ c_LE m x := fun x => by unfold c_LE; rw [eh 1 (by decide), eh 2 (by decide)]
  have LT : ∀ x, c_LT (vl_up m 11 6 b) x ↔ c_LT m x := fun x => by unfold c_LT; rw [LE, LN]
  have rh : ∀ h : Nat, h ≠ 23 → vl_up r 23 11 (φ b) h = r h := fun h x => up_h _ _ _ x
  refine ⟨⟨?_, ?_, ?_, ?_⟩, ⟨?_, ?_⟩, ?_, ⟨?_, ?_, ?_, ?_⟩, ?_⟩
  · unfold s_P; rw [eh 1 (by decide)]; exact hP
  · intro s hs
    rw [eh 2 (by decide), eh 9 (by decide)]
    obtain ⟨k1, k2⟩ := hK s ((LN s).mp hs)
    refine ⟨k1, fun i i1 i2 => ?_⟩
    simp only [ek]
    rw [LT, eh 8 (by decide), e6]
    obtain ⟨a1, ⟨a3, a4, a5⟩, a6⟩ := k2 i i1 i2
    exact ⟨a1, ⟨a3, fun z => z.elim (fun y => a4 y.1) a5, fun z => a4 (by rw [z]; exact hb)⟩, a6⟩
  · intro c hc h1 h2
    rw [e6] at h1
    obtain ⟨a1, i, a2, a3, a4⟩ := hA c ((LT c).mp hc) (fun z => h2 (Or.inr z)) (fun z => h2 (Or.inl ⟨z, h1⟩))
    rw [eh 8 (by decide), LN]
    exact ⟨a1, i, a2, by rw [eh 9 (by decide)]; exact a3, by rw [ek]; exact a4⟩
  · obtain ⟨⟨a1, a2⟩, a3, a4⟩ := hR
    unfold s_R
    rw [e6, LN, eh 8 (by decide)]
    refine ⟨⟨hbN, h8⟩, fun z => z.elim (fun y => y.2 rfl) (fun y => a3 (by rw [← y]; exact hb)), fun c hc => (LT c).mpr (hc.elim (fun y => a4 c y.1) (fun y => by rw [y]; exact Or.inr a1))⟩
  · intro e he
    rw [eh 7 (by decide), ert]
    exact hE e ((LE e).mp he)
  · obtain ⟨⟨L, l1, l2, l3⟩, L', l4, l5, l6⟩ := hS
    refine ⟨⟨L, ?_, l2, ?_⟩, L', ?_, l5, ?_⟩
    · rw [eh 1 (by decide)]; exact c_ch_congr L _ (fun b _ => by rw [eh 8 (by decide)]) l1
    · rw [eh 1 (by decide), eh 2 (by decide)]; exact l3
    · rw [eh 1 (by decide)]; exact c_ch_congr L' _ (fun b _ => by rw [eh 8 (by decide)]) l4
    · rw [eh 1 (by decide), eh 2 (by decide)]; exact l6
  · intro s hs hsa h0
    have hs' := (LN s).mp hs
    rw [eh 9 (by decide)] at h0 ⊢
    obtain ⟨⟨t1, t2⟩, t3⟩ := hT s hs' hsa h0
    rw [ert, d_rt_congr (rh 25 (by decide)) (rh 29 (by decide))]
    simp only [ek, ert]
    exact ⟨⟨t1, t2⟩, t3⟩
  · intro s hs
    have hs' := (LN s).mp hs
    obtain ⟨b1, b2, b3, b4⟩ := hsn s hs'
    rw [rh 26 (by decide), rh 27 (by decide), rh 30 (by decide), eh 2 (by decide), eh 9 (by decide), eh 8 (by decide), e6]
    refine ⟨b1, fun i i1 i2 => ?_, fun z1 z2 => b3 (fun z => z2 (Or.inr z)) (fun z => z2 (Or.inl ⟨z, z1⟩)), fun z => by rw [z]; exact h30⟩
    rw [d_k_congr (rh 28 (by decide)), ek]; exact b2 i i1 i2
  · exact ⟨fun s t hs ht e => hsi.1 s t ((LN s).mp hs) ((LN t).mp ht) e, fun s t hs ht e => hsi.2 s t ((LE s).mp hs) ((LE t).mp ht) e⟩
  · constructor
    · intro n hn
      rw [rh 26 (by decide)]
      rcases hso.1 n hn with ⟨z, s, hs, e⟩ | z
      · exact Or.inl ⟨z, s, (LN s).mpr hs, e⟩
      · exact Or.inr z
    · intro n n1 n2
      rw [rh 24 (by decide)]
      rcases hso.2 n n1 n2 with ⟨z, s, hs, e⟩ | z
      · exact Or.inl ⟨z, s, (LE s).mpr hs, e⟩
      · exact Or.inr z
  · intro e he
    obtain ⟨b1, b2, b3⟩ := hse e ((LE e).mp he)
    rw [rh 24 (by decide), eh 7 (by decide), d_rt_congr (rh 25 (by decide)) (rh 29 (by decide)), ert]
    exact ⟨b1, b2, b3⟩
  · obtain ⟨b1, ⟨b2, b3⟩, b4, b5, b6⟩ := hrr
    unfold q_rr
    rw [up_s, e6, up_i _ _ (by decide), up_i _ _ (by decide), up_i _ _ (by decide), up_i _ _ (by decide), up_i _ _ (by decide), up_i _ _ (by decide), up_i _ _ (by decide), eh 1 (by decide)]
    exact ⟨rfl, ⟨b2, b3⟩, b4, b5, b6⟩
