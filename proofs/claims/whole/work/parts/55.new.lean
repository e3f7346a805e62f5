/-! ===== PURE, 16: a new node in both ===== -/
theorem d_k_congr {r r' : vl_M} (h : r' 28 = r 28) (n i : Int) : d_k r' n i = d_k r n i := by unfold d_k; rw [h]
theorem d_rt_pos (r : vl_M) {l : Int} (t : Int) (h : 0 ≤ l) : d_rt r l t = d_rt r 0 t := by
  unfold d_rt
  rw [if_neg (by omega), if_neg (by decide)]
theorem c_LE_lt {w : Nat} {m : vl_M} (hP : s_P w m) {e : Int} (h : c_LE m e) : 0 ≤ e ∧ e < 400 := by
  obtain ⟨-, -, -, p1, p2⟩ := hP
  have := h.1
  omega
theorem q_new {w : Nat} {m r : vl_M} {φ : Int → Int} {X : Int → Prop} {ψ : Int → Int} {a l o : Int} (hψ1 : ψ (c_fn m) = o) (hψ2 : ∀ u, u ≠ c_fn m → ψ u = φ u) (h : q_I w m r φ X a) (hl : 0 ≤ l ∧ l < 100) (hroom : m 1 16 = -1 → m 1 15 < 804) (ho : 0 ≤ o ∧ o < 500) (hof : r 26 o = -2) :
    q_I w (c_newn m l) (d_new r o l) ψ (fun x => X x ∨ x = c_fn m) a := by
  obtain ⟨⟨hP, hK, hA, hR⟩, ⟨hE, hS⟩, hT, ⟨hsn, hsi, hso, hse⟩, hrr⟩ := h
  obtain ⟨f1, f2, f3⟩ := c_fn_ok hP hS hroom
  have LN := fun u => c_newn_LN (l := l) hP hS hroom hl.1 u
  have LE := fun u => c_newn_LE (l := l) hP hS hroom u
  have hfE : ¬ c_LE m (c_fn m) := fun z => by have := c_LE_lt hP z; omega
  have LT : ∀ u, c_LT (c_newn m l) u ↔ (c_LT m u ∨ u = c_fn m) := fun u => by
    unfold c_LT
    rw [LE, LN, or_assoc]
  have ne : ∀ u, c_LT m u → u ≠ c_fn m := fun u hu z => by
    rw [z] at hu
    rcases hu with hu | hu
    · exact hfE hu
    · exact f2 hu
  have hroot : m 11 6 ≠ c_fn m := ne _ (Or.inr hR.1.1)
  have e11 : c_newn m l 11 = m 11 := c_newn_h _ _ (by decide) (by decide) (by decide) (by decide)
  have e7 : c_newn m l 7 = m 7 := c_newn_h _ _ (by decide) (by decide) (by decide) (by decide)
  have oNo : ∀ u, c_LN m u → φ u ≠ o := fun u hu z => by
    have := (hsn u hu).1.2.1
    rw [z, hof] at this
    have := hu.2
    omega
  refine ⟨⟨?_, ?_, ?_, ?_⟩, ⟨?_, ?_⟩, ?_, ⟨?_, ?_, ?_, ?_⟩, ?_⟩
  · -- numbers
    obtain ⟨p0, p1, p2, p3, p4⟩ := hP
    refine ⟨p0, ⟨by rw [c_newn_1 _ _ (by decide) (by decide)]; exact p1.1, by rw [c_newn_1 _ _ (by decide) (by decide)]; exact p1.2⟩, ⟨by rw [c_newn_1 _ _ (by decide) (by decide)]; exact p2.1, by rw [c_newn_1 _ _ (by decide) (by decide), c_newn_1 _ _ (by decide) (by decide)]; exact p2.2⟩, ?_, by rw [c_newn_1 _ _ (by decide) (by decide)]; exact p4⟩
    rw [c_newn_15]
    split
    · have := hroom (by assumption); omega
    · exact p3
  · -- what nodes hold
    intro s hs
    rw [c_newn_2, c_newn_9]
    by_cases c : s = c_fn m
    · rw [if_pos c, if_pos c]
      exact ⟨⟨hl.2, by omega, by omega⟩, fun i i1 i2 => by omega⟩
    · have hs' : c_LN m s := ((LN s).mp hs).resolve_right c
      rw [if_neg c, if_neg c]
      obtain ⟨k1, k2⟩ := hK s hs'
      refine ⟨k1, fun i i1 i2 => ?_⟩
      obtain ⟨⟨a1, a2⟩, ⟨a3, a4, a5⟩, a6⟩ := k2 i i1 i2
      have := ne _ a1
      simp only [c_newn_k]
      rw [c_newn_2, if_neg this, c_newn_8, if_neg this, e11]
      exact ⟨⟨(LT _).mpr (Or.inl a1), a2⟩, ⟨a3, fun z => z.elim a4 this, a5⟩, a6⟩
  · -- who is held
    intro c hc h1 h2
    rw [e11] at h1
    have hcf : c ≠ c_fn m := fun z => h2 (Or.inr z)
    have hc' : c_LT m c := ((LT c).mp hc).resolve_right hcf
    obtain ⟨a1, i, a2, a3, a4⟩ := hA c hc' h1 (fun z => h2 (Or.inl z))
    rw [c_newn_8, if_neg hcf]
    have : m 8 c ≠ c_fn m := ne _ (Or.inr a1)
    refine ⟨(LN _).mpr (Or.inl a1), i, a2, ?_, ?_⟩
    · rw [c_newn_9, if_neg this]; exact a3
    · rw [c_newn_k]; exact a4
  · obtain ⟨⟨a1, a2⟩, a3, a4⟩ := hR
    refine ⟨⟨?_, ?_⟩, ?_, ?_⟩
    · rw [e11]; exact (LN _).mpr (Or.inl a1)
    · rw [e11, c_newn_8, if_neg hroot]; exact a2
    · rw [e11]; exact fun z => z.elim a3 hroot
    · intro c hc
      rw [LT]
      exact hc.imp (a4 c) id
  · intro e he
    rw [e7, c_newn_rt]
    exact hE e ((LE e).mp he)
  · -- spare ones
    obtain ⟨⟨L, l1, l2, l3⟩, L', l4, l5, l6⟩ := hS
    refine ⟨?_, L', ?_, l5, ?_⟩
    · rw [c_newn_15, c_newn_16]
      by_cases h16 : m 1 16 = -1
      · rw [if_pos h16, if_pos h16]
        have hL : L = [] := by
          cases L with
          | nil => rfl
          | cons x t =>
            have e : m 1 16 = x := l1.1
            have := (l3 x).mp List.mem_cons_self
            omega
        subst hL
        refine ⟨[], rfl, List.nodup_nil, fun s => ⟨fun z => (by cases z), fun z => ?_⟩⟩
        have hfn : c_fn m = m 1 15 := by unfold c_fn; rw [if_pos h16]
        rw [c_newn_2, hfn] at z
        by_cases c : s = m 1 15
        · rw [if_pos c] at z; omega
        · rw [if_neg c] at z
          exact (l3 s).mpr ⟨by omega, z.2⟩
      · rw [if_neg h16, if_neg h16]
        have hfn : c_fn m = m 1 16 := by unfold c_fn; rw [if_neg h16]
        cases L with
        | nil => exact absurd l1 h16
        | cons x t =>
          have e : m 1 16 = x := l1.1
          obtain ⟨n1, n2⟩ := List.nodup_cons.mp l2
          refine ⟨t, ?_, n2, fun s => ?_⟩
          · refine c_ch_congr t _ (fun b hb => ?_) (by rw [e]; exact l1.2)
            rw [c_newn_8, if_neg (fun z => n1 (by rw [← e, ← hfn, ← z]; exact hb))]
          · rw [c_newn_2, hfn]
            by_cases c : s = m 1 16
            · rw [if_pos c]
              refine ⟨fun z => absurd (by rw [← e, ← c]; exact z) n1, fun z => by omega⟩
            · rw [if_neg c]
              constructor
              · intro z; exact (l3 s).mp (List.mem_cons_of_mem _ z)
              · intro z
                rcases List.mem_cons.mp ((l3 s).mpr z) with y | y
                · exact absurd (by rw [y, e]) c
                · exact y
    · rw [c_newn_1 _ _ (by decide) (by decide)]
      refine c_ch_congr L' _ (fun b hb => ?_) l4
      have := (l6 b).mp hb
      have : b ≠ c_fn m := fun z => by
        have := f1.1
        have := hP.2.2.2.2
        omega
      rw [c_newn_8, if_neg this]
    · intro e
      rw [l6 e, c_newn_1 _ _ (by decide) (by decide), c_newn_2]
      constructor
      · rintro ⟨x, y⟩
        have := hP.2.2.2.2
        rw [if_neg (by omega)]
        exact ⟨x, y⟩
      · rintro ⟨x, y⟩
        have := hP.2.2.2.2
        rw [if_neg (by omega)] at y
        exact ⟨x, y⟩
  · -- rectangles
    intro s hs hsa h0
    rw [c_newn_9] at h0
    by_cases c : s = c_fn m
    · rw [if_pos c] at h0; omega
    · rw [if_neg c] at h0
      have hs' : c_LN m s := ((LN s).mp hs).resolve_right c
      obtain ⟨⟨t1, t2⟩, t3⟩ := hT s hs' hsa h0
      rw [c_newn_rt, c_newn_9, if_neg c, hψ2 s c]
      simp only [c_newn_k, c_newn_rt]
      refine ⟨⟨t1, ?_⟩, t3⟩
      rw [d_rt_congr (d_new_h _ _ _ (by decide) (by decide) (by decide)) (d_new_h _ _ _ (by decide) (by decide) (by decide))]
      exact t2
  · -- nodes
    intro s hs
    rw [c_newn_2, c_newn_9, e11]
    by_cases c : s = c_fn m
    · rw [if_pos c, if_pos c, c, hψ1]
      refine ⟨⟨ho, by rw [d_new_26, if_pos rfl], by rw [d_new_27, if_pos rfl]⟩, fun i i1 i2 => by omega, fun z1 z2 => absurd (Or.inr rfl) z2, fun z => absurd z.symm hroot⟩
    · have hs' : c_LN m s := ((LN s).mp hs).resolve_right c
      obtain ⟨⟨b1, b2, b3⟩, b4, b5, b6⟩ := hsn s hs'
      have hne := oNo s hs'
      rw [if_neg c, if_neg c, hψ2 s c, d_new_26, if_neg hne, d_new_27, if_neg hne, d_new_30, if_neg hne]
      refine ⟨⟨b1, b2, b3⟩, fun i i1 i2 => ?_, fun z1 z2 => ?_, b6⟩
      · obtain ⟨⟨k1, -⟩, -⟩ := (hK s hs').2 i i1 i2
        rw [d_k_congr (d_new_h _ _ _ (by decide) (by decide) (by decide)), c_newn_k, hψ2 _ (ne _ k1)]
        exact b4 i i1 i2
      · rw [c_newn_8, if_neg c]
        have hx : ¬ X s := fun z => z2 (Or.inl z)
        have := hA s (Or.inr hs') z1 hx
        rw [hψ2 _ (ne _ (Or.inr this.1))]
        exact b5 z1 hx
  · constructor
    · intro s t hs ht e
      by_cases c1 : s = c_fn m <;> by_cases c2 : t = c_fn m
      · rw [c1, c2]
      · rw [c1, hψ1, hψ2 t c2] at e
        exact absurd e.symm (oNo t (((LN t).mp ht).resolve_right c2))
      · rw [hψ2 s c1, c2, hψ1] at e
        exact absurd e (oNo s (((LN s).mp hs).resolve_right c1))
      · rw [hψ2 s c1, hψ2 t c2] at e
        exact hsi.1 s t (((LN s).mp hs).resolve_right c1) (((LN t).mp ht).resolve_right c2) e
    · intro e e' h1 h2 z
      have h1' := (LE e).mp h1
      have h2' := (LE e').mp h2
      rw [hψ2 _ (ne _ (Or.inl h1')), hψ2 _ (ne _ (Or.inl h2'))] at z
      exact hsi.2 e e' h1' h2' z
  · constructor
    · intro n hn
      rw [d_new_26]
      by_cases c : n = o
      · rw [if_pos c]
        exact Or.inl ⟨hl.1, c_fn m, (LN _).mpr (Or.inr rfl), by rw [hψ1, c]⟩
      · rw [if_neg c]
        rcases hso.1 n hn with ⟨z, s, hs, e⟩ | z
        · exact Or.inl ⟨z, s, (LN _).mpr (Or.inl hs), by rw [hψ2 _ (ne _ (Or.inr hs))]; exact e⟩
        · exact Or.inr z
    · intro n h1 h2
      rw [d_new_h _ _ _ (by decide) (by decide) (by decide)]
      rcases hso.2 n h1 h2 with ⟨z, e, he, z2⟩ | z
      · exact Or.inl ⟨z, e, (LE e).mpr he, by rw [hψ2 _ (ne _ (Or.inl he))]; exact z2⟩
      · exact Or.inr z
  · intro e he
    have he' := (LE e).mp he
    obtain ⟨b1, b2, b3⟩ := hse e he'
    rw [hψ2 _ (ne _ (Or.inl he')), e7, c_newn_rt, d_new_h _ _ _ (by decide) (by decide) (by decide), d_rt_congr (d_new_h _ _ _ (by decide) (by decide) (by decide)) (d_new_h _ _ _ (by decide) (by decide) (by decide))]
    exact ⟨b1, b2, b3⟩
  · obtain ⟨b1, ⟨b2, b3⟩, b4, b5, b6⟩ := hrr
    unfold q_rr
    rw [d_new_h _ _ _ (by decide) (by decide) (by decide), e11, hψ2 _ hroot, c_newn_1 _ _ (by decide) (by decide), c_newn_1 _ _ (by decide) (by decide), c_newn_1 _ _ (by decide) (by decide)]
    exact ⟨b1, ⟨b2, b3⟩, b4, b5, b6⟩
