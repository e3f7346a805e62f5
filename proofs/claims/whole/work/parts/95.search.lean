/-! ===== PURE, 56: the search, in both ===== -/
def n_Rw (m rr : vl_M) (φ : Int → Int) (G : Int → Int) (n : Int) : Prop := rr 23 37 = n ∧ ∀ k, 0 ≤ k → k < n → rr 42 k = φ (G k) ∧ rr 43 k = m 2 (G k)
theorem d_scan {N : Nat} {m r rr : vl_M} {φ : Int → Int} {x y v17 n : Int} {G : Int → Int} {κ : Int → Int → Option (Int × vl_M)} (hN : 100000 ≤ N) (hx : 0 ≤ x ∧ x ≤ 32767) (hy : 0 ≤ y ∧ y ≤ 32767) (he : n_req r rr) (hn : 0 < n ∧ n ≤ 806) (hR : n_Rw m rr φ G n) (htw : ∀ k, 0 ≤ k → k < n → n_tw m r φ (G k)) (hinj : ∀ i j, 0 ≤ i → i < n → 0 ≤ j → j < n → 0 ≤ m 2 (G i) → 0 ≤ m 2 (G j) → m 7 (G i) = m 7 (G j) → G i = G j) : ∀ (k fu : Nat) (i b : Int), 0 ≤ b → b < n → 0 ≤ i → i + (k : Int) = n → k < fu → (∀ j, 0 ≤ j → j < i → lx (n_key m x y (G j)) (n_key m x y (G b)) = false) → ∃ b', fn_X8_nearest_L76 N rr x y v17 κ fu b i = κ b' n ∧ (0 ≤ b' ∧ b' < n) ∧ ∀ j, 0 ≤ j → j < n → lx (n_key m x y (G j)) (n_key m x y (G b')) = false := by
  intro k
  induction k with
  | zero =>
    intro fu i b b1 b2 i1 h1 h2 h3
    obtain ⟨fu, rfl⟩ : ∃ x, fu = x + 1 := ⟨fu - 1, by omega⟩
    refine ⟨b, ?_, ⟨b1, b2⟩, fun j j1 j2 => h3 j j1 (by omega)⟩
    rw [fn_X8_nearest_L76, pu_gd ⟨by omega, by omega⟩, hR.1, pu_gd ⟨by omega, by omega⟩, if_neg (by omega), show i = n by omega]
  | succ k ih =>
    intro fu i b b1 b2 i1 h1 h2 h3
    obtain ⟨fu, rfl⟩ : ∃ x, fu = x + 1 := ⟨fu - 1, by omega⟩
    have hne := d_nearer hN hx hy he ⟨i1, by omega⟩ ⟨b1, by omega⟩ (hR.2 i i1 (by omega)) (hR.2 b b1 b2) (htw i i1 (by omega)) (htw b b1 b2) (hinj i b i1 (by omega) b1 b2)
    have step : ∀ v, fn_X8_isNearer N rr i b x y = some v → vl_r32 v → fn_X8_nearest_L76 N rr x y v17 κ (fu + 1) b i = fn_X8_nearest_L76 N rr x y v17 κ fu (if v = 0 then b else i) (i + 1) := fun v hv hv2 => by
      rw [fn_X8_nearest_L76, pu_gd ⟨by omega, by omega⟩, hR.1, pu_gd ⟨by omega, by omega⟩, if_pos (by omega), hv, Option.bind_some, pu_gd hv2, pu_jn]
      by_cases c : v = 0
      · rw [if_pos c, if_pos c]; rfl
      · rw [if_neg c, if_neg c]; rfl
    by_cases cb : lx (n_key m x y (G i)) (n_key m x y (G b)) = true
    · rw [if_pos cb] at hne
      rw [step 1 hne (by decide), if_neg (by decide)]
      refine ih fu (i + 1) i i1 (by omega) (by omega) (by omega) (by omega) (fun j j1 j2 => ?_)
      by_cases e : j = i
      · rw [e, lx_irr]
      · cases hh : lx (n_key m x y (G j)) (n_key m x y (G i)) with
        | false => rfl
        | true =>
          have := lx_trans _ _ _ hh cb
          rw [h3 j j1 (by omega)] at this
          exact absurd this (by decide)
    · rw [if_neg cb] at hne
      rw [step 0 hne (by decide), if_pos rfl]
      refine ih fu (i + 1) b b1 b2 (by omega) (by omega) (by omega) (fun j j1 j2 => ?_)
      by_cases e : j = i
      · rw [e]
        cases hh : lx (n_key m x y (G i)) (n_key m x y (G b)) with
        | false => rfl
        | true => exact absurd hh cb
      · exact h3 j j1 (by omega)
/-- reading a node -/
theorem n_read {w N : Nat} {m r : vl_M} {φ : Int → Int} {X : Int → Prop} {x y t v17 : Int} {κ : Int → vl_M → Option vl_M} {κ' : Int → vl_M → Option (Int × vl_M)} (hN : 100000 ≤ N) (hx : 0 ≤ x ∧ x ≤ 32767) (hy : 0 ≤ y ∧ y ≤ 32767) (hP : s_P w m) (hK : s_K w m X) (hsn : q_sn w m r φ X) (ht : c_LN m t) (hst : ∀ i, 0 ≤ i → i < m 9 t → n_st m (c_k w m t i)) : ∀ (n fu fu' : Nat) (i : Int) (Q : List Int) (G : Int → Int) (mm rr : vl_M), 0 ≤ i → i + (n : Int) = m 9 t → n < fu → n < fu' → n_Q m mm x y Q → n_req r rr → n_Rw m rr φ G (Q.length : Int) → h_S G (Q.length : Int) Q → (Q.length : Int) + (n : Int) ≤ 806 → (∀ j, i ≤ j → j < m 9 t → c_k w m t j ∉ Q) →
    ∃ Q' G' mm' rr', (fn_X2_read_L13 w N t x y κ fu i mm = κ (m 9 t) mm' ∧ fn_X8_nearest_L228 N x y v17 (φ t) (m 2 t) κ' fu' i rr = κ' (m 9 t) rr') ∧ (∀ z, z ∈ Q' ↔ (z ∈ Q ∨ ∃ j, i ≤ j ∧ j < m 9 t ∧ z = c_k w m t j)) ∧ (n_Q m mm' x y Q' ∧ ∀ j, j ≠ 4 → mm' 19 j = mm 19 j) ∧ (n_req r rr' ∧ n_Rw m rr' φ G' (Q'.length : Int) ∧ ∀ j, j ≠ 37 → rr' 23 j = rr 23 j) ∧ h_S G' (Q'.length : Int) Q' ∧ Q'.length = Q.length + n := by
  obtain ⟨⟨b1, b2, b3⟩, b4, -⟩ := hsn t ht
  have htnd := c_LN_nd hP ht
  have hz := (hK t ht).1
  have hw11 := hP.1.2
  intro n
  induction n with
  | zero =>
    intro fu fu' i Q G mm rr h1 h2 h3 h4 hQ hr hR hS hlen hno
    obtain ⟨fu, rfl⟩ : ∃ x, fu = x + 1 := ⟨fu - 1, by omega⟩
    obtain ⟨fu', rfl⟩ : ∃ x, fu' = x + 1 := ⟨fu' - 1, by omega⟩
    have e9 : mm 9 = m 9 := hQ.1.1 9 (by decide) (by decide) (by decide)
    have r27 : rr 27 = r 27 := hr.1 27 (by decide) (by decide) (by decide)
    refine ⟨Q, G, mm, rr, ⟨?_, ?_⟩, fun z => ⟨fun a => Or.inl a, fun a => a.elim id (fun ⟨j, j1, j2, _⟩ => by omega)⟩, ⟨hQ, fun _ _ => rfl⟩, ⟨hr, hR, fun _ _ => rfl⟩, hS, rfl⟩
    · rw [fn_X2_read_L13, pu_gd ⟨by omega, by omega⟩, pu_gd ⟨by omega, by omega⟩, e9, pu_gd ⟨by omega, by omega⟩, if_neg (by omega), show i = m 9 t by omega]
    · rw [fn_X8_nearest_L228, pu_gd b1, pu_gd ⟨by omega, by omega⟩, r27, b3, pu_gd ⟨by omega, by omega⟩, if_neg (by omega), show i = m 9 t by omega]
  | succ n ih =>
    intro fu fu' i Q G mm rr h1 h2 h3 h4 hQ hr hR hS hlen hno
    obtain ⟨fu, rfl⟩ : ∃ x, fu = x + 1 := ⟨fu - 1, by omega⟩
    obtain ⟨fu', rfl⟩ : ∃ x, fu' = x + 1 := ⟨fu' - 1, by omega⟩
    have e9 : mm 9 = m 9 := hQ.1.1 9 (by decide) (by decide) (by decide)
    have r27 : rr 27 = r 27 := hr.1 27 (by decide) (by decide) (by decide)
    have ek : c_k w mm t i = c_k w m t i := by unfold c_k; rw [hQ.1.1 10 (by decide) (by decide) (by decide)]
    have edk : d_k rr (φ t) i = φ (c_k w m t i) := by rw [d_k_congr (hr.1 28 (by decide) (by decide) (by decide)), b4 i h1 (by omega)]
    have hnot := hno i (Int.le_refl _) (by omega)
    have hcl := ((hK t ht).2 i h1 (by omega)).1.2
    obtain ⟨m1, f1, f2, f3⟩ := h_push hN hx hy hQ (hst i h1 (by omega)) hnot (by omega)
    generalize hr1 : vl_up (vl_up (vl_up rr 42 (Q.length : Int) (φ (c_k w m t i))) 43 (Q.length : Int) (m 2 t - 1)) 23 37 ((Q.length : Int) + 1) = r1
    have e1 : vl_up rr 42 (Q.length : Int) (φ (c_k w m t i)) 23 37 = (Q.length : Int) := by rw [up_h _ _ _ (by decide)]; exact hR.1
    have e2 : vl_up (vl_up rr 42 (Q.length : Int) (φ (c_k w m t i))) 43 (Q.length : Int) (m 2 t - 1) 23 37 = (Q.length : Int) := by rw [up_h _ _ _ (by decide), up_h _ _ _ (by decide)]; exact hR.1
    have r1h : ∀ h : Nat, h ≠ 23 → h ≠ 42 → h ≠ 43 → r1 h = rr h := fun h a b c => by rw [← hr1, up_h _ _ _ a, up_h _ _ _ c, up_h _ _ _ b]
    have r1j : ∀ j, j ≠ 37 → r1 23 j = rr 23 j := fun j a => by rw [← hr1, up_i _ _ a, up_h _ _ _ (by decide), up_h _ _ _ (by decide)]
    have r137 : r1 23 37 = (Q.length : Int) + 1 := by rw [← hr1, up_s]
    have hl : (((c_k w m t i) :: Q).length : Int) = (Q.length : Int) + 1 := by simp
    have hR1 : n_Rw m r1 φ (h_u G (Q.length : Int) (c_k w m t i)) (((c_k w m t i) :: Q).length : Int) := by
      rw [hl]
      refine ⟨r137, fun k k1 k2 => ?_⟩
      by_cases c : k = (Q.length : Int)
      · rw [c, h_u_s, hcl]
        refine ⟨?_, ?_⟩
        · rw [← hr1, up_h _ _ _ (by decide), up_h _ _ _ (by decide), up_s]
        · rw [← hr1, up_h _ _ _ (by decide), up_s]
      · obtain ⟨g1, g2⟩ := hR.2 k k1 (by omega)
        rw [h_u_n _ _ c]
        refine ⟨?_, ?_⟩
        · rw [← hr1, up_h _ _ _ (by decide), up_h _ _ _ (by decide), up_i _ _ c]; exact g1
        · rw [← hr1, up_h _ _ _ (by decide), up_i _ _ c, up_h _ _ _ (by decide)]; exact g2
    obtain ⟨Q', G', mm', rr', ⟨s1, s2⟩, s3, ⟨s4, s4'⟩, ⟨s5, s6, s6'⟩, s7, s8⟩ := ih fu fu' (i + 1) ((c_k w m t i) :: Q) (h_u G (Q.length : Int) (c_k w m t i)) m1 r1 (by omega) (by omega) (by omega) (by omega) f2 ⟨fun h a b c => by rw [r1h h a b c, hr.1 h a b c], fun j a b c d => by rw [r1j j d, hr.2 j a b c d]⟩ hR1 (by rw [hl]; exact h_S_add (by omega) hnot hS) (by rw [hl]; omega) (fun j j1 j2 z => by
      rcases List.mem_cons.mp z with e | e
      · have := ((hK t ht).2 j (by omega) j2).2.2 i h1 (by omega) e
        omega
      · exact hno j (by omega) j2 e)
    refine ⟨Q', G', mm', rr', ⟨?_, ?_⟩, fun z => ?_, ⟨s4, fun j hj => by rw [s4' j hj, f3 j hj]⟩, ⟨s5, s6, fun j hj => by rw [s6' j hj, r1j j hj]⟩, s7, by rw [s8, List.length_cons]; omega⟩
    · rw [fn_X2_read_L13, pu_gd ⟨by omega, by omega⟩, pu_gd ⟨by omega, by omega⟩, e9, pu_gd ⟨by omega, by omega⟩, if_pos (by omega), c_thing (N := N) ⟨hP.1.1, hP.1.2, hN, by rw [hQ.1.1 1 (by decide) (by decide) (by decide)]; exact hP.2.1.1⟩ htnd ⟨by omega, by omega⟩, Option.bind_some, ek, f1, Option.bind_some, pu_lt, s1]
    · rw [fn_X8_nearest_L228, pu_gd b1, pu_gd ⟨by omega, by omega⟩, r27, b3, pu_gd ⟨by omega, by omega⟩, if_pos (by omega), d_held b1 ⟨h1, by omega⟩, Option.bind_some, edk, hR.1, pu_gd ⟨by omega, by omega⟩, pu_lt, e1, pu_gd ⟨by omega, by omega⟩, pu_lt, e2, pu_lt, hr1, pu_lt, s2]
    · rw [s3 z, List.mem_cons]
      constructor
      · rintro ((e | e) | ⟨j, j1, j2, e⟩)
        · exact Or.inr ⟨i, Int.le_refl _, by omega, e⟩
        · exact Or.inl e
        · exact Or.inr ⟨j, by omega, j2, e⟩
      · rintro (e | ⟨j, j1, j2, e⟩)
        · exact Or.inl (Or.inr e)
        · by_cases c : j = i
          · exact Or.inl (Or.inl (by rw [e, c]))
          · exact Or.inr ⟨j, by omega, j2, e⟩
theorem pu_cnt_seq (p : Int → Bool) : ∀ n : Nat, pu_cnt p n = ((pu_seq n 0).filter p).length := by
  intro n
  induction n with
  | zero => rfl
  | succ n ih =>
    rw [pu_seq_snoc, List.filter_append, List.length_append, ← ih, show (0 : Int) + (n : Int) = (n : Int) by omega]
    show pu_cnt p n + (if p (n : Int) then 1 else 0) = _
    by_cases c : p (n : Int) = true
    · rw [if_pos c, List.filter_cons_of_pos c]; rfl
    · rw [if_neg c, List.filter_cons_of_neg c]; rfl
theorem q_E_len {w : Nat} {m : vl_M} (hP : s_P w m) (h : q_N m) : ((q_E m).length : Int) = m 1 12 := by
  unfold q_N at h
  rw [h, pu_cnt_seq]
  have hp := hP.2.2.2.2
  have : (q_E m).Perm ((pu_seq 400 0).filter (fun e => decide (m 2 e = -1 ∧ e < m 1 13))) := by
    refine pu_perm_ext _ _ (List.Nodup.sublist List.filter_sublist (pu_seq_nodup _ _)) (List.Nodup.sublist List.filter_sublist (pu_seq_nodup _ _)) (fun x => ?_)
    rw [q_E_mem hP, List.mem_filter, pu_seq_mem]
    unfold c_LE
    constructor
    · rintro ⟨a, b⟩
      exact ⟨by omega, decide_eq_true ⟨b, by omega⟩⟩
    · rintro ⟨a, b⟩
      have b' := of_decide_eq_true b
      exact ⟨by omega, b'.1⟩
  rw [this.length_eq]
theorem pu_sub_len : ∀ (A B : List Int), A.Nodup → (∀ x, x ∈ A → x ∈ B) → B.Nodup → A.length ≤ B.length := by
  intro A
  induction A with
  | nil => intro B _ _ _; exact Nat.zero_le _
  | cons a A ih =>
    intro B hA h hB
    obtain ⟨n1, n2⟩ := List.nodup_cons.mp hA
    have ha : a ∈ B := h a List.mem_cons_self
    have hp := (pu_perm_out B hB ha).length_eq
    have := ih (B.filter (fun x => decide (x ≠ a))) n2 (fun x hx => List.mem_filter.mpr ⟨h x (List.mem_cons_of_mem _ hx), decide_eq_true (fun z => n1 (by rw [← z]; exact hx))⟩) (List.Nodup.sublist List.filter_sublist hB)
    rw [List.length_cons] at hp ⊢
    omega
