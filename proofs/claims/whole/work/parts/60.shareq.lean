/-! ===== PURE, 21: what is shared alike belongs together ===== -/
theorem q_share {w n : Nat} {m m' r r1 : vl_M} {φ : Int → Int} {X : Int → Prop} {a0 s fr : Int} {f : Int → pR} {A B : List Int} (h : q_I w m r φ X a0) (ha0 : a0 < 0) (hs : c_LN m s) (hfX : X fr) (hfN : c_LN m fr) (hf0 : m 9 fr = 0) (hfl : m 2 fr = m 2 s) (hsf : s ≠ fr) (hn : m 9 s = (n : Int))
    (hf : ∀ x : Int, 0 ≤ x → x < (n : Int) → f x = c_rt m (c_k w m s x) ∧ r_ok (f x)) (hp : (A ++ B).Perm (pu_rng n)) (hA : A ≠ []) (hB : B ≠ []) (hsh : sh_I w m m' s fr (c_k w m s) f A B []) (hdg : dg_J r r1 (φ s) (φ fr) (fun x => φ (c_k w m s x)) (m 2 s) A B) :
    q_I w m' (d_set (d_set r1 (φ s) (mbl f A)) (φ fr) (mbl f B)) φ X (m 8 s) := by
  obtain ⟨⟨hP, hK, hAA, hR⟩, ⟨hE, hS⟩, hT, ⟨hsn, hsi, hso, hse⟩, hrr⟩ := h
  obtain ⟨⟨g1, -⟩, ⟨⟨s1, s2⟩, s3⟩, ⟨⟨k1, k2⟩, k3⟩, ⟨⟨t1, t2⟩, t3⟩, ⟨o1, o2⟩, o3⟩ := hsh
  obtain ⟨⟨d1, ⟨d2, d3⟩, d4⟩, ⟨⟨dk1, dk2⟩, dk3⟩, dp1, dp2⟩ := hdg
  have hw11 : w ≤ 11 := hP.1.2
  have hw5 : 5 ≤ w := hP.1.1
  have hnw : n ≤ w := by have := (hK s hs).1.2.2; omega
  have e1 := g1 1 (by omega) (by decide) (by decide)
  have e2 := g1 2 (by omega) (by decide) (by decide)
  have e7 := g1 7 (by omega) (by decide) (by decide)
  have e11 := g1 11 (by omega) (by decide) (by decide)
  have LN : ∀ x, c_LN m' x ↔ c_LN m x := fun x => by unfold c_LN; rw [e1, e2]
  have LE : ∀ x, c_LE m' x ↔ c_LE m x := fun x => by unfold c_LE; rw [e1, e2]
  have LT : ∀ x, c_LT m' x ↔ c_LT m x := fun x => by unfold c_LT; rw [LE, LN]
  have hmem : ∀ x, (x ∈ A ∨ x ∈ B) ↔ (0 ≤ x ∧ x < (n : Int)) := fun x => by
    rw [← List.mem_append, hp.mem_iff, pu_rng_mem]
  have hnd : (A ++ B).Nodup := hp.nodup_iff.mpr (pu_rng_nodup n)
  have ndA : A.Nodup := (List.nodup_append.mp hnd).1
  have ndB : B.Nodup := (List.nodup_append.mp hnd).2.1
  have dAB : ∀ x, x ∈ A → x ∉ B := fun x h1 h2 => (List.nodup_append.mp hnd).2.2 x h1 x h2 rfl
  have hlen : A.length + B.length = n := by have := hp.length_eq; rw [List.length_append, pu_rng_len] at this; exact this
  have lA : 0 < A.length := List.length_pos_iff.mpr hA
  have lB : 0 < B.length := List.length_pos_iff.mpr hB
  -- what s held
  have kid : ∀ x, (x ∈ A ∨ x ∈ B) → (c_LT m (c_k w m s x) ∧ m 2 (c_k w m s x) = m 2 s - 1) ∧ (m 8 (c_k w m s x) = s ∧ ¬ X (c_k w m s x) ∧ c_k w m s x ≠ m 11 6) ∧ (c_k w m s x ≠ s ∧ c_k w m s x ≠ fr) := fun x hx => by
    have hx' := (hmem x).mp hx
    obtain ⟨a1, ⟨a2, a3, a4⟩, -⟩ := (hK s hs).2 x hx'.1 (by omega)
    exact ⟨a1, ⟨a2, a3, a4⟩, fun z => by have := a1.2; rw [z] at this; omega, fun z => a3 (by rw [z]; exact hfX)⟩
  have inj : ∀ x y, (x ∈ A ∨ x ∈ B) → (y ∈ A ∨ y ∈ B) → c_k w m s x = c_k w m s y → x = y := fun x y hx hy e => by
    have hx' := (hmem x).mp hx
    have hy' := (hmem y).mp hy
    exact ((hK s hs).2 x hx'.1 (by omega)).2.2 y hy'.1 (by omega) e
  have krt : ∀ x, (x ∈ A ∨ x ∈ B) → c_rt m' (c_k w m s x) = f x ∧ r_ok (f x) := fun x hx => by
    have hx' := (hmem x).mp hx
    obtain ⟨q1, q2⟩ := hf x hx'.1 hx'.2
    obtain ⟨-, -, q3, q4⟩ := kid x hx
    exact ⟨by rw [t3 _ q3 q4, q1], q2⟩
  -- what another held
  have oth : ∀ u i, c_LN m u → u ≠ s → 0 ≤ i → i < m 9 u → ∀ x, (x ∈ A ∨ x ∈ B) → c_k w m u i ≠ c_k w m s x := fun u i hu hus i1 i2 x hx z => by
    have hx' := (hmem x).mp hx
    exact hus (q_one hK hu hs ⟨i1, i2⟩ ⟨hx'.1, by omega⟩ z).1
  have o3' : ∀ u, (∀ x, (x ∈ A ∨ x ∈ B) → u ≠ c_k w m s x) → m' 8 u = m 8 u := fun u hu => o3 u (fun x hx => hu x (Or.inl hx)) (fun x hx => hu x (Or.inr hx))
  have hkw : ∀ u, c_LN m u → m 9 u ≤ (w : Int) := fun u hu => (hK u hu).1.2.2
  -- rows
  have rowA : ∀ i : Int, 0 ≤ i → i < (A.length : Int) → ∃ x, x ∈ A ∧ A[i.toNat]? = some x ∧ c_k w m' s i = c_k w m s x := fun i i1 i2 => by
    have hi : i.toNat < A.length := by omega
    refine ⟨A[i.toNat], List.getElem_mem hi, List.getElem?_eq_getElem hi, ?_⟩
    have := k1 i.toNat _ (List.getElem?_eq_getElem hi)
    rw [show ((i.toNat : Nat) : Int) = i by omega] at this
    exact this
  have rowB : ∀ i : Int, 0 ≤ i → i < (B.length : Int) → ∃ x, x ∈ B ∧ B[i.toNat]? = some x ∧ c_k w m' fr i = c_k w m s x := fun i i1 i2 => by
    have hi : i.toNat < B.length := by omega
    refine ⟨B[i.toNat], List.getElem_mem hi, List.getElem?_eq_getElem hi, ?_⟩
    have := k2 i.toNat _ (List.getElem?_eq_getElem hi)
    rw [show ((i.toNat : Nat) : Int) = i by omega] at this
    exact this
  -- the reference
  generalize hr' : d_set (d_set r1 (φ s) (mbl f A)) (φ fr) (mbl f B) = r'
  have hφ : φ s ≠ φ fr := fun z => hsf (hsi.1 s fr hs hfN z)
  have rh : ∀ h : Nat, h ≠ 27 → h ≠ 28 → h ≠ 29 → h ≠ 30 → r' h = r h := fun h x y z t => by rw [← hr', d_set_h _ _ _ z, d_set_h _ _ _ z]; exact d1 h x y t
  have rh1 : ∀ h : Nat, h ≠ 29 → r' h = r1 h := fun h z => by rw [← hr', d_set_h _ _ _ z, d_set_h _ _ _ z]
  have rtA : d_rt r' 0 (φ s) = mbl f A := by rw [← hr', d_set_ne _ _ (Or.inr hφ), d_set_s _ _ _ (by decide)]
  have rtB : d_rt r' 0 (φ fr) = mbl f B := by rw [← hr', d_set_s _ _ _ (by decide)]
  have rtO : ∀ l x, (l < 0 ∨ (x ≠ φ s ∧ x ≠ φ fr)) → d_rt r' l x = d_rt r l x := fun l x hx => by
    rw [← hr', d_set_ne _ _ (hx.imp id (fun z => z.2)), d_set_ne _ _ (hx.imp id (fun z => z.1))]
    exact d_rt_congr (d1 25 (by decide) (by decide) (by decide)) (d1 29 (by decide) (by decide) (by decide)) l x
  refine ⟨⟨?_, ?_, ?_, ?_⟩, ⟨?_, ?_⟩, ?_, ⟨?_, ?_, ?_, ?_⟩, ?_⟩
  · unfold s_P; rw [e1]; exact hP
  · intro u hu
    have hu' := (LN u).mp hu
    rw [e2, e11]
    by_cases cs : u = s
    · subst cs
      rw [s1]
      refine ⟨⟨(hK u hu').1.1, by omega, by omega⟩, fun i i1 i2 => ?_⟩
      obtain ⟨x, x1, x2, x3⟩ := rowA i i1 i2
      obtain ⟨⟨q1, q2⟩, ⟨q3, q4, q5⟩, -⟩ := kid x (Or.inl x1)
      rw [x3]
      refine ⟨⟨(LT _).mpr q1, q2⟩, ⟨o1 x x1, q4, q5⟩, fun j j1 j2 e => ?_⟩
      obtain ⟨y, y1, y2, y3⟩ := rowA j j1 j2
      rw [y3] at e
      have exy := inj x y (Or.inl x1) (Or.inl y1) e
      rw [← exy] at y2
      have := (List.getElem?_inj (i := i.toNat) (by omega) ndA).mp (x2.trans y2.symm)
      omega
    · by_cases cf : u = fr
      · subst cf
        rw [s2]
        refine ⟨⟨(hK u hu').1.1, by omega, by omega⟩, fun i i1 i2 => ?_⟩
        obtain ⟨x, x1, x2, x3⟩ := rowB i i1 i2
        obtain ⟨⟨q1, q2⟩, ⟨q3, q4, q5⟩, -⟩ := kid x (Or.inr x1)
        rw [x3, hfl]
        refine ⟨⟨(LT _).mpr q1, q2⟩, ⟨o2 x x1, q4, q5⟩, fun j j1 j2 e => ?_⟩
        obtain ⟨y, y1, y2, y3⟩ := rowB j j1 j2
        rw [y3] at e
        have exy := inj x y (Or.inr x1) (Or.inr y1) e
        rw [← exy] at y2
        have := (List.getElem?_inj (i := i.toNat) (by omega) ndB).mp (x2.trans y2.symm)
        omega
      · rw [s3 u cs cf]
        obtain ⟨q1, q2⟩ := hK u hu'
        have hkk : ∀ j, 0 ≤ j → j < m 9 u → c_k w m' u j = c_k w m u j := fun j j1 j2 => k3 u j cs cf j1 (by omega)
        refine ⟨q1, fun i i1 i2 => ?_⟩
        obtain ⟨a1, ⟨a2, a3, a4⟩, a5⟩ := q2 i i1 i2
        rw [hkk i i1 i2, LT, o3' _ (oth u i hu' cs i1 i2)]
        refine ⟨a1, ⟨a2, a3, a4⟩, fun j j1 j2 e => ?_⟩
        rw [hkk j j1 j2] at e
        exact a5 j j1 j2 e
  · intro c hc h1 h2
    have hc' := (LT c).mp hc
    rw [e11] at h1
    by_cases cx : ∃ x, (x ∈ A ∨ x ∈ B) ∧ c = c_k w m s x
    · obtain ⟨x, hx, rfl⟩ := cx
      rcases hx with hx | hx
      · rw [o1 x hx]
        obtain ⟨i, hi⟩ := List.getElem?_of_mem hx
        have hil := (List.getElem?_eq_some_iff.mp hi).1
        exact ⟨(LN s).mpr hs, (i : Int), by omega, by rw [s1]; omega, k1 i x hi⟩
      · rw [o2 x hx]
        obtain ⟨i, hi⟩ := List.getElem?_of_mem hx
        have hil := (List.getElem?_eq_some_iff.mp hi).1
        exact ⟨(LN fr).mpr hfN, (i : Int), by omega, by rw [s2]; omega, k2 i x hi⟩
    · have hne : ∀ x, (x ∈ A ∨ x ∈ B) → c ≠ c_k w m s x := fun x hx z => cx ⟨x, hx, z⟩
      rw [o3' c hne]
      obtain ⟨a1, i, a2, a3, a4⟩ := hAA c hc' h1 h2
      have cs : m 8 c ≠ s := fun z => by
        rw [z] at a3 a4
        exact hne i ((hmem i).mpr ⟨a2, by omega⟩) a4.symm
      have cf : m 8 c ≠ fr := fun z => by rw [z] at a3; omega
      have := hkw _ a1
      exact ⟨(LN _).mpr a1, i, a2, by rw [s3 _ cs cf]; exact a3, by rw [k3 _ i cs cf a2 (by omega)]; exact a4⟩
  · obtain ⟨⟨a1, a2⟩, a3, a4⟩ := hR
    unfold s_R
    rw [e11, LN, o3' _ (fun x hx z => (kid x hx).2.1.2.2 z.symm)]
    exact ⟨⟨a1, a2⟩, a3, fun c hc => (LT c).mpr (a4 c hc)⟩
  · intro e he
    have he' := (LE e).mp he
    have := c_LE_lt hP he'
    have hs0 := hs.1
    have hf0 := hfN.1
    rw [e7, t3 e (by omega) (by omega)]
    exact hE e he'
  · obtain ⟨⟨L, l1, l2, l3⟩, L', l4, l5, l6⟩ := hS
    have hp4 := hP.2.2.2.2
    refine ⟨⟨L, ?_, l2, ?_⟩, L', ?_, l5, ?_⟩
    · rw [e1]
      refine c_ch_congr L _ (fun b hb => o3' b (fun x hx z => ?_)) l1
      have q := (l3 b).mp hb
      rw [z] at q
      rcases (kid x hx).1.1 with y | y
      · have := y.1; omega
      · have := y.2; omega
    · rw [e1, e2]; exact l3
    · rw [e1]
      refine c_ch_congr L' _ (fun b hb => o3' b (fun x hx z => ?_)) l4
      have q := (l6 b).mp hb
      rw [z] at q
      rcases (kid x hx).1.1 with y | y
      · exact q.2 y.2
      · have := y.1; omega
    · rw [e1, e2]; exact l6
  · intro u hu hua h0
    have hu' := (LN u).mp hu
    by_cases cs : u = s
    · subst cs
      rw [t1 hA, rtA, s1]
      refine ⟨⟨mbl_ok A hA (fun x hx => (krt x (Or.inl hx)).2), rfl⟩, r_is_congr (fun p => ?_) (mbl_is f A hA)⟩
      constructor
      · rintro ⟨x, hx, e⟩
        obtain ⟨i, hi⟩ := List.getElem?_of_mem hx
        have hil := (List.getElem?_eq_some_iff.mp hi).1
        exact ⟨(i : Int), by omega, by omega, by rw [k1 i x hi, (krt x (Or.inl hx)).1]; exact e⟩
      · rintro ⟨i, i1, i2, e⟩
        obtain ⟨x, x1, x2, x3⟩ := rowA i i1 i2
        rw [x3, (krt x (Or.inl x1)).1] at e
        exact ⟨x, x1, e⟩
    · by_cases cf : u = fr
      · subst cf
        rw [t2 hB, rtB, s2]
        refine ⟨⟨mbl_ok B hB (fun x hx => (krt x (Or.inr hx)).2), rfl⟩, r_is_congr (fun p => ?_) (mbl_is f B hB)⟩
        constructor
        · rintro ⟨x, hx, e⟩
          obtain ⟨i, hi⟩ := List.getElem?_of_mem hx
          have hil := (List.getElem?_eq_some_iff.mp hi).1
          exact ⟨(i : Int), by omega, by omega, by rw [k2 i x hi, (krt x (Or.inr hx)).1]; exact e⟩
        · rintro ⟨i, i1, i2, e⟩
          obtain ⟨x, x1, x2, x3⟩ := rowB i i1 i2
          rw [x3, (krt x (Or.inr x1)).1] at e
          exact ⟨x, x1, e⟩
      · rw [s3 u cs cf] at h0 ⊢
        obtain ⟨⟨z1, z2⟩, z3⟩ := hT u hu' (by have := hu'.1; omega) h0
        rw [t3 u cs cf, rtO 0 _ (Or.inr ⟨fun z => cs (hsi.1 u s hu' hs z), fun z => cf (hsi.1 u fr hu' hfN z)⟩)]
        have hkk : ∀ j, 0 ≤ j → j < m 9 u → c_rt m' (c_k w m' u j) = c_rt m (c_k w m u j) := fun j j1 j2 => by
          have := hkw u hu'
          obtain ⟨-, ⟨a2, a3, a4⟩, -⟩ := (hK u hu').2 j j1 j2
          rw [k3 u j cs cf j1 (by omega), t3 _ (fun z => hua (by rw [← a2, z])) (fun z => a3 (by rw [z]; exact hfX))]
        refine ⟨⟨z1, z2⟩, r_is_congr (fun p => ?_) z3⟩
        constructor
        · rintro ⟨i, i1, i2, e⟩
          exact ⟨i, i1, i2, by rw [hkk i i1 i2]; exact e⟩
        · rintro ⟨i, i1, i2, e⟩
          rw [hkk i i1 i2] at e
          exact ⟨i, i1, i2, e⟩
  · intro u hu
    have hu' := (LN u).mp hu
    obtain ⟨⟨b1, b2, b3⟩, b4, b5, b6⟩ := hsn u hu'
    -- the reference's parent
    have par : (∀ x, (x ∈ A ∨ x ∈ B) → u ≠ c_k w m s x) → r' 30 (φ u) = r 30 (φ u) := fun hne => by
      rw [rh1 30 (by decide)]
      refine dp2 (φ u) (fun hl => ⟨fun x hx z => ?_, fun x hx z => ?_⟩)
      · exact hne x (Or.inl hx) (hsi.1 u _ hu' (c_LT_N (kid x (Or.inl hx)).1.1 (by have := (kid x (Or.inl hx)).1.2; omega)) z)
      · exact hne x (Or.inr hx) (hsi.1 u _ hu' (c_LT_N (kid x (Or.inr hx)).1.1 (by have := (kid x (Or.inr hx)).1.2; omega)) z)
    rw [rh 26 (by decide) (by decide) (by decide) (by decide), e2, e11]
    refine ⟨⟨b1, b2, ?_⟩, ?_, ?_, ?_⟩
    · rw [rh1 27 (by decide)]
      by_cases cs : u = s
      · rw [cs, d2, s1]
      · by_cases cf : u = fr
        · rw [cf, d3, s2]
        · rw [s3 u cs cf, d4 _ (fun z => cs (hsi.1 u s hu' hs z)) (fun z => cf (hsi.1 u fr hu' hfN z))]; exact b3
    · intro i i1 i2
      rw [d_k_congr (rh1 28 (by decide))]
      by_cases cs : u = s
      · subst cs
        rw [s1] at i2
        obtain ⟨x, x1, x2, x3⟩ := rowA i i1 i2
        have := dk1 i.toNat x x2
        rw [show ((i.toNat : Nat) : Int) = i by omega] at this
        rw [x3, this]
      · by_cases cf : u = fr
        · subst cf
          rw [s2] at i2
          obtain ⟨x, x1, x2, x3⟩ := rowB i i1 i2
          have := dk2 i.toNat x x2
          rw [show ((i.toNat : Nat) : Int) = i by omega] at this
          rw [x3, this]
        · rw [s3 u cs cf] at i2
          have := hkw u hu'
          rw [dk3 _ i (fun z => cs (hsi.1 u s hu' hs z)) (fun z => cf (hsi.1 u fr hu' hfN z)) i1 (by omega), k3 u i cs cf i1 (by omega)]
          exact b4 i i1 i2
    · intro z1 z2
      by_cases cx : ∃ x, (x ∈ A ∨ x ∈ B) ∧ u = c_k w m s x
      · obtain ⟨x, hx, rfl⟩ := cx
        have hpos : 0 < m 2 s := by have := (kid x hx).1.2; have := hu'.2; omega
        rw [rh1 30 (by decide)]
        rcases hx with hx | hx
        · rw [o1 x hx]; exact (dp1 hpos).1 x hx
        · rw [o2 x hx]; exact (dp1 hpos).2 x hx
      · have hne : ∀ x, (x ∈ A ∨ x ∈ B) → u ≠ c_k w m s x := fun x hx z => cx ⟨x, hx, z⟩
        rw [par hne, o3' u hne]
        exact b5 z1 z2
    · intro z
      rw [par (fun x hx y => (kid x hx).2.1.2.2 (by rw [← y, z]))]
      exact b6 z
  · exact ⟨fun x t hx ht e => hsi.1 x t ((LN x).mp hx) ((LN t).mp ht) e, fun x t hx ht e => hsi.2 x t ((LE x).mp hx) ((LE t).mp ht) e⟩
  · constructor
    · intro n hn
      rw [rh 26 (by decide) (by decide) (by decide) (by decide)]
      rcases hso.1 n hn with ⟨z, x, hx, e⟩ | z
      · exact Or.inl ⟨z, x, (LN x).mpr hx, e⟩
      · exact Or.inr z
    · intro n n1 n2
      rw [rh 24 (by decide) (by decide) (by decide) (by decide)]
      rcases hso.2 n n1 n2 with ⟨z, x, hx, e⟩ | z
      · exact Or.inl ⟨z, x, (LE x).mpr hx, e⟩
      · exact Or.inr z
  · intro e he
    have he' := (LE e).mp he
    have := c_LE_lt hP he'
    have hs0 := hs.1
    have hf0 := hfN.1
    obtain ⟨b1, b2, b3⟩ := hse e he'
    rw [rh 24 (by decide) (by decide) (by decide) (by decide), e7, rtO (-1) _ (Or.inl (by decide)), t3 e (by omega) (by omega)]
    exact ⟨b1, b2, b3⟩
  · unfold q_rr
    rw [rh 23 (by decide) (by decide) (by decide) (by decide), e11, e1]
    exact hrr
