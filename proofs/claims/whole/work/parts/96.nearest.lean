/-! ===== PURE, 57: nearest ===== -/
theorem c_ord_all {w : Nat} {m : vl_M} {X : Int → Prop} (hK : s_K w m X) (hA : s_A w m X) (hR : c_LN m (m 11 6)) : ∀ (k : Nat) (u : Int), c_LN m u → c_con m X k u → u ∈ c_ord w m := by
  intro k
  induction k with
  | zero => intro u hu hc; have hc' : u = m 11 6 := hc; rw [hc']; exact c_pre_self _ _ _ _
  | succ k ih =>
    intro u hu hc
    obtain ⟨c1, c2, c3⟩ := hc
    obtain ⟨b1, b2, i, i1, i2, e⟩ := q_up1 hK hA (Or.inr hu) c1 c2
    exact c_pre_dn hK _ _ (m 8 u) u hR (by have := hR.2; omega) (ih _ b1 c3) (by have := hu.2; omega) (c_kids_mem.mpr ⟨i, i1, i2, e⟩)
def n_J (w : Nat) (m r : vl_M) (φ : Int → Int) (x y : Int) (H Q : List Int) (G : Int → Int) (mm rr : vl_M) : Prop :=
  (n_Q m mm x y Q ∧ n_req r rr ∧ n_Rw m rr φ G (Q.length : Int) ∧ h_S G (Q.length : Int) Q) ∧
  ((H ++ Q).Nodup ∧ (∀ z, z ∈ H ++ Q → c_LT m z)) ∧
  (m 11 6 ∈ H ++ Q ∧ (∀ u, u ∈ H → c_LN m u → ∀ c, c ∈ c_kids w m u → c ∈ H ++ Q) ∧ (∀ c, c ∈ H ++ Q → c ≠ m 11 6 → m 8 c ∈ H)) ∧
  (mm 19 5 = rr 23 27 ∧ 0 ≤ mm 19 5 ∧ mm 19 5 ≤ (H.length : Int))
theorem n_key_inj {m : vl_M} {x y a b : Int} (h : n_key m x y a = n_key m x y b) : (m 2 a = -1 ↔ m 2 b = -1) ∧ m 7 a = m 7 b ∧ c_rt m a = c_rt m b := by
  unfold n_key at h
  injection h with h1 h
  injection h with h2 h
  injection h with h3 h
  injection h with h4 h
  injection h with h5 h
  injection h with h6 h
  injection h with h7 h
  refine ⟨?_, h3, by unfold c_rt; rw [h4, h5, h6, h7]⟩
  by_cases ca : m 2 a = -1
  · by_cases cb : m 2 b = -1
    · exact ⟨fun _ => cb, fun _ => ca⟩
    · rw [if_pos ca, if_neg cb] at h2; exact absurd h2 (by decide)
  · by_cases cb : m 2 b = -1
    · rw [if_neg ca, if_pos cb] at h2; exact absurd h2 (by decide)
    · exact ⟨fun z => absurd z ca, fun z => absurd z cb⟩
theorem n_loop {w N : Nat} {m r : vl_M} {φ : Int → Int} {x y K : Int} (hN : 100000 ≤ N) (hx : 0 ≤ x ∧ x ≤ 32767) (hy : 0 ≤ y ∧ y ≤ 32767) (hB : q_B w m r φ) (hTW : ∀ s, c_LT m s → n_tw m r φ s) (hinj : ∀ a b, c_LN m a → c_LN m b → m 7 a = m 7 b → a = b) (hK0 : 0 ≤ K ∧ K < m 1 12) : ∀ (n fu fu' : Nat) (v5 : Int) (H Q : List Int) (G : Int → Int) (mm rr : vl_M), H.length + n = 805 → n < fu → n < fu' → 0 ≤ v5 → v5 ≤ K → ((H.filter (fun z => decide (m 2 z = -1))).length : Int) = v5 → n_J w m r φ x y H Q G mm rr →
    ∃ t mm' rr', (fn_X2_find_L29 w N x y K (fun (v8 : Int) (v9 : Int) (m10 : vl_M) => some ((-1), m10)) fu v5 (H.length : Int) mm = some (t, mm') ∧ fn_X8_nearest_L70 N x y fu' (K - v5) rr = some (m 7 t, rr')) ∧ c_LE m t ∧ (n_eq m mm' ∧ n_req r rr') ∧ (mm' 19 5 = rr' 23 27 ∧ 0 ≤ mm' 19 5 ∧ mm' 19 5 ≤ 1000) ∧ (rr' 23 28 = 1 ∧ rr' 23 29 = mm' 19 6 ∧ 0 ≤ mm' 19 6 ∧ mm' 19 6 < 2147483648) := by
  obtain ⟨⟨hP, hK, hA, hR⟩, ⟨hE, hS'⟩, hT, ⟨hsn, hsi, hso, hse⟩, hrr⟩ := id hB.1
  have h12 := q_N_le hB.2.2.2.1
  have hElen := q_E_len hP hB.2.2.2.1
  have hltb : ∀ c, c_LT m c → 0 ≤ c ∧ c < 804 := fun c hc => by
    obtain ⟨-, -, -, p1, p2⟩ := hP
    rcases hc with hc | hc
    · have := hc.1; omega
    · have := hc.1; omega
  intro n
  induction n with
  | zero =>
    intro fu fu' v5 H Q G mm rr hn _ _ _ _ _ hJ
    exfalso
    obtain ⟨-, ⟨j1, j2⟩, -⟩ := hJ
    have := pu_len_le (a := 0) (n := 804) j1 (fun z hz => by have := hltb z (j2 z hz); omega)
    rw [List.length_append] at this
    omega
  | succ n ih =>
    intro fu fu' v5 H Q G mm rr hn f1 f2 v1 v2 hfound hJ
    obtain ⟨fu, rfl⟩ : ∃ x, fu = x + 1 := ⟨fu - 1, by omega⟩
    obtain ⟨fu', rfl⟩ : ∃ x, fu' = x + 1 := ⟨fu' - 1, by omega⟩
    obtain ⟨⟨hQ, hr, hRw, hS⟩, ⟨j1, j2⟩, ⟨j3, j4, j5⟩, ⟨j6, j7, j8⟩⟩ := hJ
    have htot := pu_len_le (a := 0) (n := 804) j1 (fun z hz => by have := hltb z (j2 z hz); omega)
    rw [List.length_append] at htot
    have hHn : H.Nodup := (List.nodup_append.mp j1).1
    have hdis : ∀ z, z ∈ H → z ∉ Q := fun z h1 h2 => (List.nodup_append.mp j1).2.2 z h1 z h2 rfl
    -- something waits
    have hQpos : 0 < Q.length := by
      refine Nat.pos_of_ne_zero (fun hz => ?_)
      have hQn : Q = [] := List.eq_nil_of_length_eq_zero hz
      rw [hQn, List.append_nil] at j3 j4 j5
      have hall : ∀ (k : Nat) (u : Int), c_LN m u → c_con m (fun _ => False) k u → u ∈ H := by
        intro k
        induction k with
        | zero => intro u hu hc; have hc' : u = m 11 6 := hc; rw [hc']; exact j3
        | succ k ihk =>
          intro u hu hc
          obtain ⟨c1, c2, c3⟩ := hc
          obtain ⟨b1, b2, i, i1, i2, e⟩ := q_up1 hK hA (Or.inr hu) c1 c2
          exact j4 (m 8 u) (ihk _ b1 c3) b1 u (c_kids_mem.mpr ⟨i, i1, i2, e⟩)
      have hsub : ∀ e, e ∈ q_E m → e ∈ H.filter (fun z => decide (m 2 z = -1)) := fun e he => by
        have he' := (q_E_mem hP).mp he
        have her : e ≠ m 11 6 := fun z => by have := c_LE_lt hP he'; have := hR.1.1.1; omega
        obtain ⟨b1, b2, i, i1, i2, q⟩ := q_up1 hK hA (Or.inl he') her (fun z => z)
        obtain ⟨k, hk⟩ := c_con_ex hK hA (fun _ z => z) 100 (m 8 e) b1 (by have := b1.2; omega)
        exact List.mem_filter.mpr ⟨j4 (m 8 e) (hall k _ b1 hk) b1 e (c_kids_mem.mpr ⟨i, i1, i2, q⟩), decide_eq_true he'.2⟩
      have := pu_sub_len (q_E m) _ (List.Nodup.sublist List.filter_sublist (pu_seq_nodup _ _)) hsub (List.Nodup.sublist List.filter_sublist hHn)
      omega
    obtain ⟨t, m1, p1, p2, p3, p4, p5, p6⟩ := h_pop hN hx hy hQ hQpos (by omega)
    have htQ : t ∈ H ++ Q := List.mem_append.mpr (Or.inr p2)
    have htT := j2 t htQ
    have htH : t ∉ H := fun z => hdis t z p2
    -- the reference takes the same
    have hGin : ∀ k, 0 ≤ k → k < (Q.length : Int) → G k ∈ Q := fun k k1 k2 => (hS.1 _).mpr ⟨k, k1, k2, rfl⟩
    have hGT : ∀ k, 0 ≤ k → k < (Q.length : Int) → c_LT m (G k) := fun k k1 k2 => j2 _ (List.mem_append.mpr (Or.inr (hGin k k1 k2)))
    obtain ⟨b, q1, q2, q3⟩ := d_scan (N := N) (m := m) (r := r) (rr := rr) (φ := φ) (x := x) (y := y) (v17 := K - v5) (n := (Q.length : Int)) (G := G) (κ := fun (v21 : Int) (v22 : Int) => 
    vl_gd (0 ≤ v21 ∧ v21 < 1000) <| vl_lt ((rr 42 v21)) fun v25 => vl_lt ((rr 43 v21)) fun v26 => vl_lt (vl_up rr 23 37 ((rr 23 37) - 1)) fun m27 => vl_gd (0 ≤ (m27 23 37) ∧ (m27 23 37) < 1000) <| vl_lt (vl_up m27 42 v21 (m27 42 (m27 23 37))) fun m30 => vl_gd (0 ≤ (m30 23 37) ∧ (m30 23 37) < 1000) <| vl_lt (vl_up m30 43 v21 (m30 43 (m30 23 37))) fun m33 => vl_gd (vl_r32 v26) <| if v26 < 0 then (vl_gd (vl_r32 (K - v5)) <| if (K - v5) = 0 then (vl_lt (vl_up m33 23 28 1) fun m56 => (fn_X8_far m56 (-1) v25 x y).bind fun b57 => vl_lt (vl_up m56 23 29 b57) fun m58 => vl_gd (0 ≤ v25 ∧ v25 < 401) <| some ((m58 24 v25), m58)) else vl_lt ((K - v5) + (-1)) fun v55 => fn_X8_nearest_L70 N x y  fu' v55 m33) else vl_lt (vl_up m33 23 27 ((m33 23 27) + 1)) fun m35 => fn_X8_nearest_L228 N x y (K - v5) v25 v26 (fun (v38 : Int) (m39 : vl_M) => 
    fn_X8_nearest_L70 N x y  fu' (K - v5) m39) N 0 m35) hN hx hy hr ⟨by omega, by omega⟩ hRw (fun k k1 k2 => hTW _ (hGT k k1 k2)) (fun i j i1 i2 j1' j2' l1 l2 e => hinj _ _ (c_LT_N (hGT i i1 i2) l1) (c_LT_N (hGT j j1' j2') l2) e) (Q.length - 1) N 1 0 (by omega) (by omega) (by omega) (by omega) (by omega) (fun j a1 a2 => by rw [show j = 0 by omega, lx_irr])
    have hGb : G b = t := by
      have h1 := p3 (G b) (hGin b q2.1 q2.2)
      obtain ⟨j0, a1, a2, a3⟩ := (hS.1 t).mp p2
      have h2 := q3 j0 a1 a2
      rw [a3] at h2
      have hk : n_key m x y (G b) = n_key m x y t := Classical.byContradiction (fun z => by
        rcases lx_tot _ _ (n_key_len m x y _ _) z with c | c
        · rw [c] at h1; exact absurd h1 (by decide)
        · rw [c] at h2; exact absurd h2 (by decide))
      obtain ⟨k1, k2, k3⟩ := n_key_inj hk
      have hbT := hGT b q2.1 q2.2
      rcases htT with c | c
      · rcases hbT with d | d
        · exact hB.2.2.1 _ _ d c k2 k3
        · have := k1.mpr c.2
          have := d.2
          omega
      · rcases hbT with d | d
        · have := k1.mp d.2
          have := c.2
          omega
        · exact hinj _ _ d c k2
    have hRb := hRw.2 b q2.1 q2.2
    rw [hGb] at hRb
    -- the row without it
    generalize hr1 : vl_up (vl_up (vl_up rr 23 37 ((Q.length : Int) - 1)) 42 b (rr 42 ((Q.length : Int) - 1))) 43 b (rr 43 ((Q.length : Int) - 1)) = r1
    have x37 : vl_up rr 23 37 ((Q.length : Int) - 1) 23 37 = (Q.length : Int) - 1 := up_s _ _ _ _
    have x42 : vl_up rr 23 37 ((Q.length : Int) - 1) 42 ((Q.length : Int) - 1) = rr 42 ((Q.length : Int) - 1) := by rw [up_h _ _ _ (by decide)]
    have x37' : vl_up (vl_up rr 23 37 ((Q.length : Int) - 1)) 42 b (rr 42 ((Q.length : Int) - 1)) 23 37 = (Q.length : Int) - 1 := by rw [up_h _ _ _ (by decide)]; exact x37
    have x43 : vl_up (vl_up rr 23 37 ((Q.length : Int) - 1)) 42 b (rr 42 ((Q.length : Int) - 1)) 43 ((Q.length : Int) - 1) = rr 43 ((Q.length : Int) - 1) := by rw [up_h _ _ _ (by decide), up_h _ _ _ (by decide)]
    have r1h : ∀ h : Nat, h ≠ 23 → h ≠ 42 → h ≠ 43 → r1 h = rr h := fun h a c d => by rw [← hr1, up_h _ _ _ d, up_h _ _ _ c, up_h _ _ _ a]
    have r1j : ∀ j, j ≠ 37 → r1 23 j = rr 23 j := fun j a => by rw [← hr1, up_h _ _ _ (by decide), up_h _ _ _ (by decide), up_i _ _ a]
    have r137 : r1 23 37 = (Q.length : Int) - 1 := by rw [← hr1, up_h _ _ _ (by decide), up_h _ _ _ (by decide), up_s]
    have hreq1 : n_req r r1 := ⟨fun h a c d => by rw [r1h h a c d, hr.1 h a c d], fun j a c d e => by rw [r1j j e, hr.2 j a c d e]⟩
    have hQ1n : (Q.filter (fun z => decide (z ≠ t))).Nodup := List.Nodup.sublist List.filter_sublist hQ.1.2.2
    have hQ1l : ((Q.filter (fun z => decide (z ≠ t))).length : Int) = (Q.length : Int) - 1 := by
      have := (pu_perm_out Q hQ.1.2.2 p2).length_eq
      rw [List.length_cons] at this
      omega
    have hS1 : h_S (h_u G b (G ((Q.length : Int) - 1))) ((Q.filter (fun z => decide (z ≠ t))).length : Int) (Q.filter (fun z => decide (z ≠ t))) := by
      rw [hQ1l]
      have := h_S_rm q2 hS
      rw [hGb] at this
      exact this
    have hRw1 : n_Rw m r1 φ (h_u G b (G ((Q.length : Int) - 1))) ((Q.filter (fun z => decide (z ≠ t))).length : Int) := by
      rw [hQ1l]
      refine ⟨r137, fun k k1 k2 => ?_⟩
      obtain ⟨e1, e2⟩ := hRw.2 ((Q.length : Int) - 1) (by omega) (by omega)
      by_cases c : k = b
      · rw [c, h_u_s]
        refine ⟨?_, ?_⟩
        · rw [← hr1, up_h _ _ _ (by decide), up_s]; exact e1
        · rw [← hr1, up_s]; exact e2
      · obtain ⟨e3, e4⟩ := hRw.2 k k1 (by omega)
        rw [h_u_n _ _ c]
        refine ⟨?_, ?_⟩
        · rw [← hr1, up_h _ _ _ (by decide), up_i _ _ c, up_h _ _ _ (by decide)]; exact e3
        · rw [← hr1, up_i _ _ c, up_h _ _ _ (by decide), up_h _ _ _ (by decide)]; exact e4
    have m1e := p4.1.1
    have m12 : m1 2 = m 2 := m1e 2 (by decide) (by decide) (by decide)
    obtain ⟨⟨w1, w2, w3, w4⟩, ⟨w5, w6⟩, w7, w8, w9⟩ := hTW t htT
    have hisE : fn_X4_isEntry m1 t = some (if m 2 t = -1 then 1 else 0) := by rw [c_isE w1 (by rw [m12]; exact w2), m12]
    have hlH : ((t :: H).length : Int) = (H.length : Int) + 1 := by simp
    generalize hQ1 : Q.filter (fun z => decide (z ≠ t)) = Q1 at *
    have hQ1m : ∀ z, z ∈ Q1 ↔ (z ∈ Q ∧ z ≠ t) := fun z => by
      rw [← hQ1, List.mem_filter]
      exact ⟨fun a => ⟨a.1, of_decide_eq_true a.2⟩, fun a => ⟨a.1, decide_eq_true a.2⟩⟩
    have hmem1 : ∀ z, z ∈ (t :: H) ++ Q1 ↔ z ∈ H ++ Q := fun z => by
      rw [List.mem_append, List.mem_append, List.mem_cons, hQ1m]
      constructor
      · rintro ((a | a) | a)
        · rw [a]; exact Or.inr p2
        · exact Or.inl a
        · exact Or.inr a.1
      · rintro (a | a)
        · exact Or.inl (Or.inr a)
        · by_cases c : z = t
          · exact Or.inl (Or.inl c)
          · exact Or.inr ⟨a, c⟩
    have hnd1 : ((t :: H) ++ Q1).Nodup := by
      refine List.nodup_append.mpr ⟨List.nodup_cons.mpr ⟨htH, hHn⟩, hQ1n, fun a ha c hc e => ?_⟩
      rw [← e] at hc
      obtain ⟨c1, c2⟩ := (hQ1m a).mp hc
      rcases List.mem_cons.mp ha with d | d
      · exact c2 d
      · exact hdis a d c1
    have cls0 : fn_X2_find_L29 w N x y K (fun (v8 : Int) (v9 : Int) (m10 : vl_M) => some ((-1), m10)) (fu + 1) v5 (H.length : Int) mm = (if (if m 2 t = -1 then (1 : Int) else 0) = 0 then ((fn_X2_read w N m1 t x y).bind fun m26 => vl_lt ((H.length : Int) + 1) fun v27 => fn_X2_find_L29 w N x y K (fun (v8 : Int) (v9 : Int) (m10 : vl_M) => some ((-1), m10)) fu v5 v27 m26) else vl_gd (vl_r32 v5) <| vl_gd (vl_r32 K) <| if v5 < K then (vl_lt (v5 + 1) fun v22 => vl_lt ((H.length : Int) + 1) fun v23 => fn_X2_find_L29 w N x y K (fun (v8 : Int) (v9 : Int) (m10 : vl_M) => some ((-1), m10)) fu v22 v23 m1) else vl_gd (0 ≤ t ∧ t < 807) <| vl_lt (vl_up m1 19 6 (m1 21 t)) fun m21 => some (t, m21)) := by
      rw [fn_X2_find_L29, pu_gd ⟨by omega, by omega⟩, if_pos (by omega), hQ.1.2.1, pu_gd ⟨by omega, by omega⟩, if_pos (by omega), p1, Option.bind_some, pu_un, hisE, Option.bind_some, pu_gd (by by_cases z : m 2 t = -1; (rw [if_pos z]; decide); (rw [if_neg z]; decide))]
    have ref0 : fn_X8_nearest_L70 N x y (fu' + 1) (K - v5) rr = (if m 2 t < 0 then (vl_gd (vl_r32 (K - v5)) <| if (K - v5) = 0 then (vl_lt (vl_up r1 23 28 1) fun m56 => (fn_X8_far m56 (-1) (φ t) x y).bind fun b57 => vl_lt (vl_up m56 23 29 b57) fun m58 => vl_gd (0 ≤ φ t ∧ φ t < 401) <| some ((m58 24 (φ t)), m58)) else vl_lt ((K - v5) + (-1)) fun v55 => fn_X8_nearest_L70 N x y  fu' v55 r1) else vl_lt (vl_up r1 23 27 ((r1 23 27) + 1)) fun m35 => fn_X8_nearest_L228 N x y (K - v5) (φ t) (m 2 t) (fun (v38 : Int) (m39 : vl_M) => 
    fn_X8_nearest_L70 N x y  fu' (K - v5) m39) N 0 m35) := by
      rw [fn_X8_nearest_L70, q1, pu_gd ⟨by omega, by omega⟩, pu_lt, hRb.1, pu_lt, hRb.2, hRw.1, pu_lt, x37, pu_gd ⟨by omega, by omega⟩, x42, pu_lt, x37', pu_gd ⟨by omega, by omega⟩, x43, pu_lt, hr1, pu_gd w2]
    by_cases cE : m 2 t = -1
    · have htE : c_LE m t := c_LT_E htT (by omega)
      have hcl : ¬ c_LN m t := fun z => by have := z.2; omega
      by_cases cK : v5 < K
      · -- one more before it
        have hJ' : n_J w m r φ x y (t :: H) Q1 (h_u G b (G ((Q.length : Int) - 1))) m1 r1 := by
          refine ⟨⟨p4, hreq1, hRw1, hS1⟩, ⟨hnd1, fun z hz => j2 z ((hmem1 z).mp hz)⟩, ⟨(hmem1 _).mpr j3, fun u hu hL c hc => ?_, fun c hc hcr => ?_⟩, ⟨?_, ?_, ?_⟩⟩
          · rcases List.mem_cons.mp hu with d | d
            · rw [d] at hL; exact absurd hL hcl
            · exact (hmem1 c).mpr (j4 u d hL c hc)
          · exact List.mem_cons_of_mem _ (j5 c ((hmem1 c).mp hc) hcr)
          · rw [p5 5 (by decide), r1j 27 (by decide)]; exact j6
          · rw [p5 5 (by decide)]; exact j7
          · rw [p5 5 (by decide), hlH]; omega
        obtain ⟨t', mm', rr', ⟨s1, s2⟩, s3⟩ := ih fu fu' (v5 + 1) (t :: H) Q1 _ m1 r1 (by rw [List.length_cons]; omega) (by omega) (by omega) (by omega) (by omega) (by rw [List.filter_cons_of_pos (by simpa using cE), List.length_cons]; omega) hJ'
        refine ⟨t', mm', rr', ⟨?_, ?_⟩, s3⟩
        · rw [cls0, if_pos cE, if_neg (by decide), pu_gd ⟨by omega, by omega⟩, pu_gd ⟨by omega, by omega⟩, if_pos cK, pu_lt, pu_lt, ← hlH, s1]
        · rw [ref0, if_pos (by omega), pu_gd ⟨by omega, by omega⟩, if_neg (by omega), pu_lt, show K - v5 + -1 = K - (v5 + 1) by omega, s2]
      · -- this is it
        have hK5 : K - v5 = 0 := by omega
        have hsqr := n_sq_le w4 hx hy
        have h21 : m1 21 t = n_sq (c_rt m t) x y := by rw [p6]; exact (hQ.2.2.2 t p2).2
        rw [cE] at w5 w6
        have hfar : fn_X8_far (vl_up r1 23 28 1) (-1) (φ t) x y = some (n_sq (c_rt m t) x y) := d_far w5 (by rw [d_rt_congr (r := r) (r' := vl_up r1 23 28 1) (by rw [up_h _ _ _ (by decide)]; exact hreq1.1 25 (by decide) (by decide) (by decide)) (by rw [up_h _ _ _ (by decide)]; exact hreq1.1 29 (by decide) (by decide) (by decide))]; exact w6) w4 hx hy
        have hid : vl_up (vl_up r1 23 28 1) 23 29 (n_sq (c_rt m t) x y) 24 (φ t) = m 7 t := by rw [up_h _ _ _ (by decide), up_h _ _ _ (by decide), hreq1.1 24 (by decide) (by decide) (by decide)]; exact w8 cE
        refine ⟨t, vl_up m1 19 6 (m1 21 t), vl_up (vl_up r1 23 28 1) 23 29 (n_sq (c_rt m t) x y), ⟨?_, ?_⟩, htE, ⟨fun h a c d => by rw [up_h _ _ _ a, m1e h a c d], ⟨fun h a c d => by rw [up_h _ _ _ a, up_h _ _ _ a, hreq1.1 h a c d], fun j a c d e => by rw [up_i _ _ d, up_i _ _ c, hreq1.2 j a c d e]⟩⟩, ⟨?_, ?_, ?_⟩, ⟨?_, ?_, ?_, ?_⟩⟩
        · rw [cls0, if_pos cE, if_neg (by decide), pu_gd ⟨by omega, by omega⟩, pu_gd ⟨by omega, by omega⟩, if_neg cK, pu_gd w1, pu_lt]
        · rw [ref0, if_pos (by omega), pu_gd ⟨by omega, by omega⟩, if_pos hK5, pu_lt, hfar, Option.bind_some, pu_lt, pu_gd ⟨w5.2.1, w5.2.2.1 (by decide)⟩, hid]
        · rw [up_i _ _ (by decide), up_i _ _ (by decide), up_i _ _ (by decide), p5 5 (by decide), r1j 27 (by decide)]; exact j6
        · rw [up_i _ _ (by decide), p5 5 (by decide)]; exact j7
        · rw [up_i _ _ (by decide), p5 5 (by decide)]; omega
        · rw [up_i _ _ (by decide), up_s]
        · rw [up_s, up_s, h21]
        · rw [up_s, h21]; omega
        · rw [up_s, h21]; omega
    · -- a node is read
      have htN : c_LN m t := c_LT_N htT (by omega)
      have hkid : ∀ c, c ∈ c_kids w m t → c_LT m c ∧ m 8 c = t ∧ c ≠ m 11 6 ∧ c ≠ t := fun c hc => by
        obtain ⟨i, i1, i2, e⟩ := c_kids_mem.mp hc
        obtain ⟨⟨a1, a2⟩, ⟨a3, a4, a5⟩, -⟩ := (hK t htN).2 i i1 i2
        rw [e] at a1 a2 a3 a5
        exact ⟨a1, a3, a5, fun z => by rw [z] at a2; omega⟩
      have hknot : ∀ c, c ∈ c_kids w m t → c ∉ H ++ Q := fun c hc z => by
        obtain ⟨a1, a2, a3, a4⟩ := hkid c hc
        have := j5 c z a3
        rw [a2] at this
        exact htH this
      have hkn := c_kids_nodup hK htN
      have hklen : ((c_kids w m t).length : Int) = m 9 t := by
        unfold c_kids
        rw [List.length_map, pu_seq_len]
        have := (hK t htN).1.2.1
        omega
      have hbound : (Q1.length : Int) + m 9 t ≤ 804 := by
        have hnd : (c_kids w m t ++ Q1).Nodup := List.nodup_append.mpr ⟨hkn, hQ1n, fun a ha c hc e => hknot a ha (List.mem_append.mpr (Or.inr ((hQ1m a).mp (by rw [e]; exact hc)).1))⟩
        have := pu_len_le (a := 0) (n := 804) hnd (fun z hz => by
          rcases List.mem_append.mp hz with d | d
          · have := hltb z (hkid z d).1; omega
          · have := hltb z (j2 z (List.mem_append.mpr (Or.inr ((hQ1m z).mp d).1))); omega)
        rw [List.length_append] at this
        omega
      generalize hm2 : vl_up m1 19 5 (m1 19 5 + 1) = m2
      have m2h : ∀ h : Nat, h ≠ 19 → m2 h = m1 h := fun h a => by rw [← hm2, up_h _ _ _ a]
      have m2j : ∀ j, j ≠ 5 → m2 19 j = m1 19 j := fun j a => by rw [← hm2, up_i _ _ a]
      have m25 : m2 19 5 = mm 19 5 + 1 := by rw [← hm2, up_s, p5 5 (by decide)]
      have hQ2 : n_Q m m2 x y Q1 := by
        obtain ⟨⟨a1, a2, a3⟩, a4, a5, a6⟩ := p4
        refine ⟨⟨fun h b c d => by rw [m2h h b, a1 h b c d], by rw [m2j 4 (by decide)]; exact a2, a3⟩, by rw [m2h 20 (by decide)]; exact a4, by rw [m2h 20 (by decide)]; exact a5, fun z hz => by rw [m2h 21 (by decide)]; exact a6 z hz⟩
      generalize hr2 : vl_up r1 23 27 (r1 23 27 + 1) = r2
      have r2h : ∀ h : Nat, h ≠ 23 → r2 h = r1 h := fun h a => by rw [← hr2, up_h _ _ _ a]
      have r2j : ∀ j, j ≠ 27 → r2 23 j = r1 23 j := fun j a => by rw [← hr2, up_i _ _ a]
      have r227 : r2 23 27 = rr 23 27 + 1 := by rw [← hr2, up_s, r1j 27 (by decide)]
      have hreq2 : n_req r r2 := ⟨fun h a c d => by rw [r2h h a, hreq1.1 h a c d], fun j a c d e => by rw [r2j j a, hreq1.2 j a c d e]⟩
      have hRw2 : n_Rw m r2 φ (h_u G b (G ((Q.length : Int) - 1))) (Q1.length : Int) := by
        obtain ⟨a1, a2⟩ := hRw1
        refine ⟨by rw [r2j 37 (by decide)]; exact a1, fun k k1 k2 => ?_⟩
        rw [r2h 42 (by decide), r2h 43 (by decide)]; exact a2 k k1 k2
      obtain ⟨Q', G', mm', rr', ⟨s1, s2⟩, s3, ⟨s4, s4'⟩, ⟨s5, s6, s6'⟩, s7, s8⟩ := n_read (w := w) (N := N) (t := t) (v17 := K - v5) (κ := fun (v4 : Int) (m5 : vl_M) => some m5) (κ' := fun (v38 : Int) (m39 : vl_M) => fn_X8_nearest_L70 N x y  fu' (K - v5) m39) hN hx hy hP hK hsn htN (fun i i1 i2 => (hTW _ ((hK t htN).2 i i1 i2).1.1).1) (m 9 t).toNat N N 0 Q1 (h_u G b (G ((Q.length : Int) - 1))) m2 r2 (by omega) (by have := (hK t htN).1.2.1; omega) (by omega) (by omega) hQ2 hreq2 hRw2 hS1 (by have := (hK t htN).1.2.1; omega) (fun j a1 a2 z => hknot _ (c_kids_mem.mpr ⟨j, a1, a2, rfl⟩) (List.mem_append.mpr (Or.inr ((hQ1m _).mp z).1)))
      have hQ'm : ∀ z, z ∈ Q' ↔ (z ∈ Q1 ∨ z ∈ c_kids w m t) := fun z => by
        rw [s3 z, c_kids_mem]
        constructor
        · rintro (a | ⟨j, a1, a2, a3⟩)
          · exact Or.inl a
          · exact Or.inr ⟨j, a1, a2, a3.symm⟩
        · rintro (a | ⟨j, a1, a2, a3⟩)
          · exact Or.inl a
          · exact Or.inr ⟨j, a1, a2, a3.symm⟩
      have hmem2 : ∀ z, z ∈ (t :: H) ++ Q' ↔ (z ∈ H ++ Q ∨ z ∈ c_kids w m t) := fun z => by
        rw [List.mem_append, hQ'm, ← hmem1, List.mem_append]
        constructor
        · rintro (a | a | a)
          · exact Or.inl (Or.inl a)
          · exact Or.inl (Or.inr a)
          · exact Or.inr a
        · rintro ((a | a) | a)
          · exact Or.inl a
          · exact Or.inr (Or.inl a)
          · exact Or.inr (Or.inr a)
      have hJ' : n_J w m r φ x y (t :: H) Q' G' mm' rr' := by
        refine ⟨⟨s4, s5, s6, s7⟩, ⟨?_, fun z hz => ?_⟩, ⟨(hmem2 _).mpr (Or.inl j3), fun u hu hL c hc => ?_, fun c hc hcr => ?_⟩, ⟨?_, ?_, ?_⟩⟩
        · refine List.nodup_append.mpr ⟨List.nodup_cons.mpr ⟨htH, hHn⟩, s4.1.2.2, fun a ha c hc e => ?_⟩
          rw [← e] at hc
          rcases (hQ'm a).mp hc with d | d
          · exact (List.nodup_append.mp hnd1).2.2 a ha a d rfl
          · rcases List.mem_cons.mp ha with f | f
            · exact (hkid a d).2.2.2 f
            · exact hknot a d (List.mem_append.mpr (Or.inl f))
        · rcases (hmem2 z).mp hz with d | d
          · exact j2 z d
          · exact (hkid z d).1
        · rw [hmem2]
          rcases List.mem_cons.mp hu with d | d
          · rw [d] at hc; exact Or.inr hc
          · exact Or.inl (j4 u d hL c hc)
        · rcases (hmem2 c).mp hc with d | d
          · exact List.mem_cons_of_mem _ (j5 c d hcr)
          · rw [(hkid c d).2.1]; exact List.mem_cons_self
        · rw [s4' 5 (by decide), s6' 27 (by decide), m25, r227, j6]
        · rw [s4' 5 (by decide), m25]; omega
        · rw [s4' 5 (by decide), m25, hlH]; omega
      obtain ⟨t', mm'', rr'', ⟨y1, y2⟩, y3⟩ := ih fu fu' v5 (t :: H) Q' G' mm' rr' (by rw [List.length_cons]; omega) (by omega) (by omega) v1 v2 (by rw [List.filter_cons_of_neg (by simpa using cE)]; exact hfound) hJ'
      refine ⟨t', mm'', rr'', ⟨?_, ?_⟩, y3⟩
      · rw [cls0, if_neg cE, if_pos rfl]
        unfold fn_X2_read
        rw [pu_lt, hm2, s1, Option.bind_some, pu_lt, ← hlH, y1]
      · rw [ref0, if_neg (by omega), pu_lt, hr2, s2, y2]
theorem t_nearest {n w N : Nat} {m r : vl_M} {φ : Int → Int} {a b c : Int} (hN : 100000 ≤ N) (h : q_top n w m r φ) (ha : vl_r32 a) (hb : vl_r32 b) (hc : vl_r32 c) :
    ∃ v m' r', fn_X7_nearest w N m a b c = some (v, m') ∧ fn_X8_nearest N r a b c = some (v, r') ∧ vl_r32 v ∧ q_top n w m' r' φ := by
  have pa := a_place ha
  have pb := a_place hb
  obtain ⟨⟨hB, hO⟩, ⟨hC, hS⟩, hW⟩ := id h
  have h12 := q_N_le hB.2.2.2.1
  have hr5 : r 23 5 = m 1 12 := hB.1.2.2.2.2.2.2.1
  by_cases c1 : 0 ≤ a ∧ a ≤ 32767
  · rw [if_pos c1] at pa
    by_cases c2 : 0 ≤ b ∧ b ≤ 32767
    · rw [if_pos c2] at pb
      by_cases c3 : c < 0
      · refine ⟨-1, m, r, ?_, ?_, by decide, h⟩
        · unfold fn_X7_nearest
          rw [pa, Option.bind_some, pu_gd (by decide), if_neg (by decide), pb, Option.bind_some, pu_gd (by decide), if_neg (by decide), pu_gd hc, if_pos c3]
        · unfold fn_X8_nearest
          rw [b_place, pa, Option.bind_some, pu_gd (by decide), if_neg (by decide), b_place, pb, Option.bind_some, pu_gd (by decide), if_neg (by decide), pu_gd hc, if_pos c3]
      · by_cases c4 : c < m 1 12
        · obtain ⟨r8, g1, g2, ⟨g3, g4⟩, g5, g6⟩ := q_fo hN h
          obtain ⟨⟨hB8, -⟩, -⟩ := id g2
          obtain ⟨⟨hP, hK, hA, hR⟩, ⟨hE, -⟩, hT, ⟨hsn, hsi, hso, hse⟩, hrr⟩ := id hB8.1
          obtain ⟨n1, n2, n3⟩ := c_ord_nodup hP hK hR.1.1
          obtain ⟨hge, hlv, hpos⟩ := q_B_lv hB8
          have hord : ∀ s, c_LN m s → s ∈ c_ord w m := fun s hs => by
            obtain ⟨k, hk⟩ := c_con_ex hK hA (fun _ z => z) 100 s hs (by have := hs.2; omega)
            exact c_ord_all hK hA hR.1.1 k s hs hk
          -- the root holds something
          have hrpos : 0 < m 9 (m 11 6) := by
            refine Classical.byContradiction (fun z => ?_)
            have hlen := q_E_len hP hB8.2.2.2.1
            have hne : (q_E m).length ≠ 0 := by omega
            obtain ⟨e, he⟩ : ∃ e, e ∈ q_E m := by
              cases hq : q_E m with
              | nil => rw [hq] at hne; exact absurd rfl hne
              | cons e l => exact ⟨e, List.mem_cons_self⟩
            have he' := (q_E_mem hP).mp he
            have her : e ≠ m 11 6 := fun z => by have := c_LE_lt hP he'; have := hR.1.1.1; omega
            obtain ⟨b1, b2, i, i1, i2, q⟩ := q_up1 hK hA (Or.inl he') her (fun z => z)
            obtain ⟨k, hk⟩ := c_con_ex hK hA (fun _ z => z) 100 (m 8 e) b1 (by have := b1.2; omega)
            have hroot : ∀ (k : Nat) (u : Int), c_LN m u → 0 < m 9 u → c_con m (fun _ => False) k u → 0 < m 9 (m 11 6) := by
              intro k
              induction k with
              | zero => intro u _ hu hc; have hc' : u = m 11 6 := hc; rw [← hc']; exact hu
              | succ k ih =>
                intro u hu hu2 hcc
                obtain ⟨x1, x2, x3⟩ := hcc
                obtain ⟨y1, y2, j, j1, j2, -⟩ := q_up1 hK hA (Or.inr hu) x1 x2
                exact ih _ y1 (by omega) x3
            exact z (hroot k _ b1 (by omega) hk)
          have hsz : ∀ s, c_LN m s → 0 < m 9 s := fun s hs => by
            by_cases z : s = m 11 6
            · rw [z]; exact hrpos
            · exact hpos s hs z
          have hnum : ∀ s, c_LN m s → ∃ k : Nat, m 7 s = (k : Int) ∧ m 13 (k : Int) = s ∧ r8 44 (φ s) = (k : Int) ∧ k < 404 := fun s hs => by
            obtain ⟨k, hk⟩ := List.getElem?_of_mem (hord s hs)
            have hkl := (List.getElem?_eq_some_iff.mp hk).1
            exact ⟨k, (hO.2 k s hk).2, (hO.2 k s hk).1, (g4 k s hk).2, by omega⟩
          have hTW : ∀ s, c_LT m s → n_tw m r8 φ s := fun s hs => by
            have hin := c_LT_in hP hs
            obtain ⟨t1, t2, t3⟩ := q_thing hB8.1 hs (by omega) (fun z => hsz s z)
            rcases hs with z | z
            · obtain ⟨e1, e2⟩ := hE s z
              have hl := z.2
              exact ⟨⟨hin, by rw [hl]; decide, ⟨by omega, by omega⟩, t3⟩, ⟨t1, t2⟩, Or.inl hl, fun _ => (hse s z).2.1, fun y => by omega⟩
            · obtain ⟨k, k1, k2, k3, k4⟩ := hnum s z
              have hl := z.2
              have hl2 := (hK s z).1
              have hw11 := hP.1.2
              have h27 := (hsn s z).1.2.2
              have hp := hsz s z
              exact ⟨⟨hin, ⟨by omega, by omega⟩, ⟨by omega, by omega⟩, t3⟩, ⟨t1, t2⟩, Or.inr hl, fun y => by omega, fun _ => ⟨⟨by rw [h27]; omega, by rw [h27]; exact ⟨by omega, by omega⟩⟩, by rw [k3, k1]⟩⟩
          have hinj : ∀ s t, c_LN m s → c_LN m t → m 7 s = m 7 t → s = t := fun s t hs ht e => by
            obtain ⟨k, k1, k2, -⟩ := hnum s hs
            obtain ⟨j, j1, j2, -⟩ := hnum t ht
            have : (k : Int) = (j : Int) := by rw [← k1, ← j1, e]
            rw [← k2, ← j2, this]
          -- the beginning
          have hrT : c_LT m (m 11 6) := Or.inr hR.1.1
          generalize hm2 : vl_up (vl_up m 19 5 0) 19 4 0 = m2
          have m2h : ∀ h : Nat, h ≠ 19 → m2 h = m h := fun h z => by rw [← hm2, up_h _ _ _ z, up_h _ _ _ z]
          have m24 : m2 19 4 = 0 := by rw [← hm2, up_s]
          have m25 : m2 19 5 = 0 := by rw [← hm2, up_i _ _ (by decide), up_s]
          have hQ0 : n_Q m m2 a b [] := ⟨⟨fun h z _ _ => m2h h z, by rw [m24]; rfl, List.nodup_nil⟩, ⟨fun z => ⟨fun y => (List.not_mem_nil y).elim, fun ⟨i, i1, i2, _⟩ => by simp at i2; omega⟩, fun i j i1 i2 => by simp at i2; omega⟩, fun i i1 i2 => by simp at i2; omega, fun z hz => (List.not_mem_nil hz).elim⟩
          obtain ⟨m4, f1, f2, f3⟩ := h_push hN c1 c2 hQ0 (hTW _ hrT).1 List.not_mem_nil (by simp)
          have e11 : m2 11 6 = m 11 6 := by rw [m2h 11 (by decide)]
          generalize hr16 : vl_up (vl_up (vl_up (vl_up r8 23 27 0) 23 37 1) 42 0 (φ (m 11 6))) 43 0 (m 2 (m 11 6)) = r16
          have x11 : vl_up (vl_up r8 23 27 0) 23 37 1 23 11 = φ (m 11 6) := by rw [up_i _ _ (by decide), up_i _ _ (by decide)]; exact hrr.1
          have x11' : vl_up (vl_up (vl_up r8 23 27 0) 23 37 1) 42 0 (φ (m 11 6)) 23 11 = φ (m 11 6) := by rw [up_h _ _ _ (by decide)]; exact x11
          have x26 : vl_up (vl_up (vl_up r8 23 27 0) 23 37 1) 42 0 (φ (m 11 6)) 26 (φ (m 11 6)) = m 2 (m 11 6) := by rw [up_h _ _ _ (by decide), up_h _ _ _ (by decide), up_h _ _ _ (by decide)]; exact (hsn _ hR.1.1).1.2.1
          have hreq : n_req r8 r16 := by
            refine ⟨fun h x y z => by rw [← hr16, up_h _ _ _ z, up_h _ _ _ y, up_h _ _ _ x, up_h _ _ _ x], fun j x _ _ z => by rw [← hr16, up_h _ _ _ (by decide), up_h _ _ _ (by decide), up_i _ _ z, up_i _ _ x]⟩
          have r1637 : r16 23 37 = 1 := by rw [← hr16, up_h _ _ _ (by decide), up_h _ _ _ (by decide), up_s]
          have r1627 : r16 23 27 = 0 := by rw [← hr16, up_h _ _ _ (by decide), up_h _ _ _ (by decide), up_i _ _ (by decide), up_s]
          have hJ : n_J w m r8 φ a b [] [m 11 6] (fun _ => m 11 6) m4 r16 := by
            refine ⟨⟨f2, hreq, ⟨by rw [r1637]; rfl, fun k k1 k2 => ?_⟩, ⟨fun z => ?_, fun i j i1 i2 j1 j2 _ => by simp at i2 j2; omega⟩⟩, ⟨by simp, fun z hz => ?_⟩, ⟨by simp, fun u hu => (List.not_mem_nil hu).elim, fun z hz hzr => ?_⟩, ⟨?_, ?_, ?_⟩⟩
            · have hk : k = 0 := by simp at k2; omega
              rw [hk]
              refine ⟨?_, ?_⟩
              · rw [← hr16, up_h _ _ _ (by decide), up_s]
              · rw [← hr16, up_s]
            · constructor
              · intro hz
                have : z = m 11 6 := by simpa using hz
                exact ⟨0, by omega, by simp, this.symm⟩
              · rintro ⟨i, i1, i2, e⟩
                rw [← e]; exact List.mem_cons_self
            · have : z = m 11 6 := by simpa using hz
              rw [this]; exact hrT
            · have : z = m 11 6 := by simpa using hz
              exact absurd this hzr
            · rw [f3 5 (by decide), m25, r1627]
            · rw [f3 5 (by decide), m25]; exact Int.le_refl _
            · rw [f3 5 (by decide), m25]; simp
          obtain ⟨t, mm', rr', ⟨s1, s2⟩, s3, ⟨s4, s5⟩, ⟨s6, s7, s8⟩, s9⟩ := n_loop hN c1 c2 hB8 hTW hinj ⟨by omega, c4⟩ 805 N N 0 [] [m 11 6] (fun _ => m 11 6) m4 r16 rfl (by omega) (by omega) (by omega) (by omega) rfl hJ
          have htl := c_LE_lt hP s3
          have hid := (hE t s3).1
          rw [Int.sub_zero] at s2
          have hfind : fn_X2_find w N m a b c = some (t, mm') := by
            unfold fn_X2_find
            rw [pu_lt, pu_lt, hm2, e11, f1, Option.bind_some]
            exact s1
          refine ⟨m 7 t, mm', rr', ?_, ?_, ⟨by omega, by omega⟩, ?_⟩
          · unfold fn_X7_nearest
            rw [pa, Option.bind_some, pu_gd (by decide), if_neg (by decide), pb, Option.bind_some, pu_gd (by decide), if_neg (by decide), pu_gd hc, if_neg c3, pu_gd ⟨by omega, by omega⟩, if_pos c4, hfind, Option.bind_some, pu_un, pu_gd ⟨by omega, by omega⟩, if_neg (by omega), pu_gd ⟨by omega, by omega⟩, s4 7 (by decide) (by decide) (by decide)]
          · unfold fn_X8_nearest
            rw [b_place, pa, Option.bind_some, pu_gd (by decide), if_neg (by decide), b_place, pb, Option.bind_some, pu_gd (by decide), if_neg (by decide), pu_gd hc, if_neg c3, hr5, pu_gd ⟨by omega, by omega⟩, if_pos c4, g1, Option.bind_some, pu_lt, pu_lt, pu_gd ⟨by decide, by decide⟩, x11, pu_lt, x11', pu_gd (hsn _ hR.1.1).1.1, x26, pu_lt, hr16, s2]
          · refine q_top_cg g2 (fun h z => s4 h (by omega) (by omega) (by omega)) (fun u _ => by rw [s4 7 (by decide) (by decide) (by decide)]) (fun u _ => c_rt_congr (s4 3 (by decide) (by decide) (by decide)) (s4 4 (by decide) (by decide) (by decide)) (s4 5 (by decide) (by decide) (by decide)) (s4 6 (by decide) (by decide) (by decide))) (fun h z => s5.1 h (by omega) (by omega) (by omega)) (fun j z _ => s5.2 j (by omega) (by omega) (by omega) (by omega)) ⟨⟨s6, s7, s8⟩, Or.inr s9⟩
        · refine ⟨-1, m, r, ?_, ?_, by decide, h⟩
          · unfold fn_X7_nearest
            rw [pa, Option.bind_some, pu_gd (by decide), if_neg (by decide), pb, Option.bind_some, pu_gd (by decide), if_neg (by decide), pu_gd hc, if_neg c3, pu_gd ⟨by omega, by omega⟩, if_neg c4]
          · unfold fn_X8_nearest
            rw [b_place, pa, Option.bind_some, pu_gd (by decide), if_neg (by decide), b_place, pb, Option.bind_some, pu_gd (by decide), if_neg (by decide), pu_gd hc, if_neg c3, hr5, pu_gd ⟨by omega, by omega⟩, if_neg c4]
    · rw [if_neg c2] at pb
      refine ⟨-1, m, r, ?_, ?_, by decide, h⟩
      · unfold fn_X7_nearest
        rw [pa, Option.bind_some, pu_gd (by decide), if_neg (by decide), pb, Option.bind_some, pu_gd (by decide), if_pos rfl]
      · unfold fn_X8_nearest
        rw [b_place, pa, Option.bind_some, pu_gd (by decide), if_neg (by decide), b_place, pb, Option.bind_some, pu_gd (by decide), if_pos rfl]
  · rw [if_neg c1] at pa
    refine ⟨-1, m, r, ?_, ?_, by decide, h⟩
    · unfold fn_X7_nearest
      rw [pa, Option.bind_some, pu_gd (by decide), if_pos rfl]
    · unfold fn_X8_nearest
      rw [b_place, pa, Option.bind_some, pu_gd (by decide), if_pos rfl]
