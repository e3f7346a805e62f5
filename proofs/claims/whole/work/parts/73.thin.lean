/-! ===== PURE, 34: thinning upwards, in both ===== -/
/-- the sizes while u is looked at -/
def q_ZT (m : vl_M) (u : Int) : Prop := (∀ s, c_LN m s → (s ≠ m 11 6 → s ≠ u → m 1 1 ≤ m 9 s) ∧ m 9 s ≤ m 1 0) ∧ (u ≠ m 11 6 → m 1 1 - 1 ≤ m 9 u ∧ q_W m) ∧ (u = m 11 6 → 0 < m 2 (m 11 6) → 1 ≤ m 9 (m 11 6))
theorem q_thin {w N : Nat} {φ : Int → Int} {κ : Int → Int → vl_M → Option vl_M} {κ' : Int → vl_M → Option (Int × vl_M)} (hN : 100000 ≤ N) : ∀ (k : Nat) (m r : vl_M) (H : List Int) (u : Int) (fu fu' : Nat) (v : Int),
    q_I w m r φ (fun x => x ∈ H) u → c_LN m u → u ∉ H → c_con m (fun x => x ∈ H) k u → q_ZT m u → q_H m r φ H → H.Nodup → (H.length : Int) ≤ 4 * m 2 u → (∀ x, x ∈ H → m 2 x < m 2 u) → m 2 (m 11 6) ≤ 8 → 0 ≤ v → v + (k : Int) + 1 < 40 → k + 2 < fu → k + 2 < fu' →
    ∃ m' r' H' z1 z2, (fn_X5_thinUpwards_L4 w N κ fu u v m = κ z1 z2 m' ∧ fn_X8_remove_L81 N κ' fu' (φ u) r = κ' (-2) r') ∧ (q_I w m' r' φ (fun x => x ∈ H') (-1) ∧ q_Z m' (-1) (-1)) ∧ (q_H m' r' φ H' ∧ H'.Nodup ∧ (H'.length : Int) ≤ 32 ∧ ∀ x, x ∈ H' → m' 2 x < m' 2 (m' 11 6)) ∧ q_Fd ((k : Int) + 1) m m' r r' ∧ (∀ x, c_LN m' x → c_LN m x ∧ m' 2 x = m 2 x) := by
  intro k
  induction k with
  | zero =>
    intro m r H u fu fu' v h hu huH hc hZ hH hnd hlen hHl hrl v1 v2 f1 f2
    obtain ⟨⟨hP, hK, hA, hR⟩, ⟨hE, hS⟩, hT, ⟨hsn, hsi, hso, hse⟩, hrr⟩ := id h
    have hw11 : w ≤ 11 := hP.1.2
    have hpl := hP.2.2.1
    have hpm := hP.2.1.2
    have hc' : u = m 11 6 := hc
    obtain ⟨fu, rfl⟩ : ∃ x, fu = x + 2 := ⟨fu - 2, by omega⟩
    obtain ⟨fu', rfl⟩ : ∃ x, fu' = x + 2 := ⟨fu' - 2, by omega⟩
    obtain ⟨⟨b1, b2, b3⟩, -, b5, b6⟩ := hsn u hu
    obtain ⟨z1, z2, z3⟩ := hZ
    have hund := c_LN_nd hP hu
    have h8 : m 8 u = -1 := by rw [hc']; exact hR.1.2
    have h0 : ∀ s, c_LN m s → s ≠ m 11 6 → 0 < m 9 s := fun s hs hr => by
      have := (z1 s hs).1 hr (by rw [hc']; exact hr)
      omega
    have hroot : r 23 11 = φ u := by rw [hrr.1, hc']
    have key : ∃ m' r', (fn_X4_fitAround w N m u u = some m' ∧ fn_X8_measure N r (φ u) = some r') ∧ q_I w m' r' φ (fun x => x ∈ H) (-1) ∧ ((∀ h : Nat, h ≠ 3 → h ≠ 4 → h ≠ 5 → h ≠ 6 → m' h = m h) ∧ (∀ v, v ≠ u → c_rt m' v = c_rt m v)) ∧ (∀ h : Nat, h ≠ 29 → r' h = r h) := by
      by_cases c : 0 < m 9 u
      · obtain ⟨q, oq, hq, g1, g2⟩ := q_fitm hN h hu h0 c
        have := q_fit h hu oq hq
        rw [h8] at this
        exact ⟨_, _, ⟨g1, g2⟩, this, ⟨fun h x y z t => c_set_h _ _ _ x y z t, fun v hv => c_set_ne _ _ hv⟩, fun h x => d_set_h _ _ _ x⟩
      · have e0 : m 9 u = 0 := by have := (hK u hu).1.2.1; omega
        refine ⟨m, r, ⟨?_, ?_⟩, q_tight (-1) h (fun _ z => absurd z c), ⟨fun _ _ _ _ _ => rfl, fun _ _ => rfl⟩, fun _ _ => rfl⟩
        · have := c_fit (N := N) (s := u) (t := u) (f := fun i => c_rt m (c_k w m u i)) hund ⟨by omega, by omega⟩ (hK u hu).1.2 (fun i i1 i2 => by omega) ⟨hP.1.1, hP.1.2, hN, hP.2.1.1⟩
          rw [if_pos e0] at this
          exact this
        · have hl := (hK u hu).1.1
          have hl0 := hu.2
          have := d_measure (N := N) (r := r) (n := φ u) hN ⟨b1, ⟨by omega, by omega⟩, ⟨by omega, by omega⟩, fun i i1 i2 => by omega⟩
          unfold d_mea at this
          rw [if_pos (by omega)] at this
          exact this
    obtain ⟨m', r', ⟨g1, g2⟩, g3, ⟨g4, g5⟩, g6⟩ := key
    have e1 := g4 1 (by decide) (by decide) (by decide) (by decide)
    have e2 := g4 2 (by decide) (by decide) (by decide) (by decide)
    have e9 := g4 9 (by decide) (by decide) (by decide) (by decide)
    have e11 := g4 11 (by decide) (by decide) (by decide) (by decide)
    have LN : ∀ x, c_LN m' x ↔ c_LN m x := fun x => by unfold c_LN; rw [e1, e2]
    have est : fn_X5_thinUpwards_L4 w N κ (fu + 2) u v m = κ (-1) (v + 1) m' := by
      rw [fn_X5_thinUpwards_L4, pu_gd ⟨by omega, by omega⟩, if_pos (by omega), pu_gd ⟨by omega, by omega⟩, if_neg (by omega), pu_gd ⟨by omega, by omega⟩, pu_lt, h8, pu_gd (by decide), pu_jn, if_pos rfl, g1, Option.bind_some]
      dsimp only
      rw [pu_lt, fn_X5_thinUpwards_L4, pu_gd ⟨by omega, by omega⟩, if_pos (by omega), pu_gd (by decide), if_pos rfl]
    have esr : fn_X8_remove_L81 N κ' (fu' + 2) (φ u) r = κ' (-2) r' := by
      rw [fn_X8_remove_L81, pu_gd ⟨by omega, by omega⟩, if_neg (by omega), pu_gd b1, pu_lt, pu_gd (by rw [hroot]; exact ⟨by omega, by omega⟩), pu_jn, if_pos hroot.symm, g2, Option.bind_some, b6 hc']
      dsimp only
      rw [fn_X8_remove_L81, pu_gd (by decide), if_pos (by decide)]
    refine ⟨m', r', H, _, _, ⟨est, esr⟩, ⟨g3, ?_⟩, ⟨?_, hnd, ?_, fun x hx => ?_⟩, ?_, fun x hx => ⟨(LN x).mp hx, by rw [e2]⟩⟩
    · unfold q_Z
      rw [e1, e2, e9, e11]
      exact ⟨fun s hs => ⟨fun x y => (z1 s ((LN s).mp hs)).1 x (by rw [hc']; exact x), fun _ => (z1 s ((LN s).mp hs)).2⟩, z3 hc'⟩
    · obtain ⟨⟨hH1, hH2⟩, hH3⟩ := hH
      unfold q_H
      rw [e11, g6 23 (by decide), g4 12 (by decide) (by decide) (by decide) (by decide), g6 31 (by decide), g6 32 (by decide), e2]
      exact ⟨⟨hH1, hH2⟩, hH3⟩
    · rw [hc'] at hlen; omega
    · rw [e2, e11, ← hc']; exact hHl x hx
    · refine ⟨⟨fun h x => g4 h (by omega) (by omega) (by omega) (by omega), fun j x => by rw [e1], fun j x y z => by rw [e11]⟩, fun x hx => ⟨by rw [e2], g5 x (by omega)⟩, ⟨⟨by rw [e11]; exact Int.le_refl _, by rw [e11]; omega⟩, by rw [e11]⟩, fun h x => g6 h (by omega), fun j x y => by rw [g6 23 (by decide)]⟩
  | succ k ih =>
    intro m r H u fu fu' v h hu huH hc hZ hH hnd hlen hHl hrl v1 v2 f1 f2
    obtain ⟨⟨hP, hK, hA, hR⟩, ⟨hE, hS⟩, hT, ⟨hsn, hsi, hso, hse⟩, hrr⟩ := id h
    have hw11 : w ≤ 11 := hP.1.2
    have hpl := hP.2.2.1
    have hpm := hP.2.1.2
    have hlv := c_con_lv hK hA (k + 1) u hu hc
    obtain ⟨c1, c2, c3⟩ := hc
    obtain ⟨fu, rfl⟩ : ∃ x, fu = x + 1 := ⟨fu - 1, by omega⟩
    obtain ⟨fu', rfl⟩ : ∃ x, fu' = x + 1 := ⟨fu' - 1, by omega⟩
    obtain ⟨⟨b1, b2, b3⟩, -, b5, b6⟩ := hsn u hu
    obtain ⟨z1, z2, z3⟩ := hZ
    obtain ⟨z2, hW⟩ := z2 c1
    have hund := c_LN_nd hP hu
    obtain ⟨d1, d2, i0, i1, i2, d3⟩ := q_up1 hK hA (Or.inr hu) c1 c2
    have hpnd := c_LN_nd hP d1
    have hu0 := hu.2
    have hsz := (hK u hu).1.2
    have h0 : ∀ s, c_LN m s → s ≠ m 11 6 → 0 < m 9 s := fun s hs hr => by
      by_cases e : s = u
      · rw [e]; omega
      · have := (z1 s hs).1 hr e
        omega
    have hpu : m 8 u ≠ u := fun z => by rw [z] at d2; omega
    have hpH : m 8 u ∉ H := fun z => by have := hHl _ z; omega
    have hroot : r 23 11 = φ (m 11 6) := hrr.1
    have hnr : φ u ≠ r 23 11 := fun z => c1 (hsi.1 u _ hu hR.1.1 (by rw [z, hroot]))
    have hrd := (hsn _ hR.1.1).1.1
    have h30 := b5 c1 c2
    by_cases c : m 9 u < m 1 1
    · obtain ⟨m1, r1, ⟨g1, g2⟩, g3, ⟨g4, g5⟩, ⟨g6, g7, g8⟩, g9⟩ := q_dis hN h hu c1 huH h0 hH hnd (by omega)
      have hmem : ∀ x, x ∈ H ++ (pu_rng (m 9 u).toNat).map (c_k w m u) → x ∈ H ∨ (m 2 x = m 2 u - 1 ∧ c_LT m x ∧ x ≠ m 11 6) := fun x hx => by
        rcases List.mem_append.mp hx with y | y
        · exact Or.inl y
        · obtain ⟨j, j1, j2⟩ := List.mem_map.mp y
          have j3 := pu_rng_mem.mp j1
          have hk := (hK u hu).2 j j3.1 (by omega)
          rw [j2] at hk
          exact Or.inr ⟨hk.1.2, hk.1.1, hk.2.1.2.2⟩
      generalize hH1 : H ++ (pu_rng (m 9 u).toNat).map (c_k w m u) = H1 at *
      have hlen1 : (H1.length : Int) = (H.length : Int) + m 9 u := by rw [← hH1, List.length_append, List.length_map, pu_rng_len]; omega
      obtain ⟨⟨y1, y2, y3⟩, y4, -, -, y5⟩ := id g9
      have e6 : m1 11 6 = m 11 6 := y3 6 (by decide) (by decide) (by decide)
      have hp1 : c_LN m1 (m 8 u) := (g6 _).mpr ⟨d1, hpu⟩
      have hru : m 11 6 ≠ u := Ne.symm c1
      have hnot : m 8 u ∉ H1 := fun z => by
        rcases hmem _ z with y | y
        · exact hpH y
        · have := y.1; omega
      have hcon : c_con m1 (fun x => x ∈ H1) k (m 8 u) := by
        have a := c_con_cg (m' := m1) (L := m 2 u + 1) hK hA e6 (fun x hx hl => (g7 x (fun z => by rw [z] at hl; omega)).2) k (m 8 u) d1 (by omega) c3
        have : ∀ (j : Nat) (x : Int), c_LN m x → m 2 u + 1 ≤ m 2 x → c_con m (fun x => x ∈ H) j x → c_con m1 (fun x => x ∈ H) j x → c_con m1 (fun x => x ∈ H1) j x := by
          intro j
          induction j with
          | zero => intro x _ _ _ z; exact z
          | succ j ihj =>
            intro x hx hl hc0 z
            obtain ⟨w1, w2, w3⟩ := z
            obtain ⟨t1, t2, t3⟩ := hc0
            obtain ⟨s1, s2, -⟩ := q_up1 hK hA (Or.inr hx) t1 t2
            have e8 : m1 8 x = m 8 x := (g7 x (fun z => by rw [z] at hl; omega)).2
            refine ⟨w1, fun y => ?_, ?_⟩
            · rcases hmem x y with q | q
              · exact w2 q
              · have := q.1; omega
            · rw [e8] at w3 ⊢
              exact ihj (m 8 x) s1 (by omega) t3 w3
        exact this k (m 8 u) d1 (by omega) c3 a
      have hZ1 : q_ZT m1 (m 8 u) := by
        unfold q_ZT
        rw [e6, y2 1 (by decide), y2 0 (by decide), (g7 _ hru).1]
        refine ⟨fun s hs => ?_, fun x => ⟨?_, ?_⟩, fun x y => ?_⟩
        · obtain ⟨hs1, hs2⟩ := (g6 s).mp hs
          rw [g8]
          refine ⟨fun x y => ?_, ?_⟩
          · rw [if_neg y]; exact (z1 s hs1).1 x hs2
          · have := (z1 s hs1).2
            by_cases e : s = m 8 u
            · rw [if_pos e]; omega
            · rw [if_neg e]; exact this
        · rw [g8, if_pos rfl]
          have := (z1 _ d1).1 x hpu
          omega
        · unfold q_W
          rw [e6, (g7 _ hru).1, g8, if_neg (Ne.symm x)]
          exact hW
        · rw [g8, if_pos x.symm]
          have := hW y
          omega
      have hlp : m1 2 (m 8 u) = m 2 u + 1 := by rw [(g7 _ hpu).1, d2]
      have hx2 : ∀ x, x ∈ H1 → m1 2 x < m1 2 (m 8 u) := fun x hx => by
        rw [hlp]
        have hxu : x ≠ u := fun z => by
          rw [z] at hx
          rcases hmem u hx with y | y
          · exact huH y
          · have := y.1; omega
        rw [(g7 x hxu).1]
        rcases hmem x hx with y | y
        · have := hHl x y; omega
        · have := y.1; omega
      obtain ⟨m', r', H', t1, t2, ⟨s1, s2⟩, s3, s4, s5, s6⟩ := ih m1 r1 H1 (m 8 u) fu fu' (v + 1) g3 hp1 hnot hcon hZ1 g4 g5 (by rw [hlp]; omega) hx2 (by rw [e6, (g7 _ hru).1]; exact hrl) (by omega) (by omega) (by omega) (by omega)
      refine ⟨m', r', H', t1, t2, ⟨?_, ?_⟩, s3, s4, ?_, fun x hx => ?_⟩
      · rw [fn_X5_thinUpwards_L4, pu_gd ⟨by omega, by omega⟩, if_pos (by omega), pu_gd ⟨by omega, by omega⟩, if_neg (by omega), pu_gd ⟨by omega, by omega⟩, pu_lt, pu_gd ⟨by omega, by omega⟩, pu_jn, if_neg (by omega), pu_gd ⟨by omega, by omega⟩, pu_gd ⟨by omega, by omega⟩, if_pos c, g1, Option.bind_some]
        exact s1
      · rw [fn_X8_remove_L81, pu_gd ⟨by omega, by omega⟩, if_neg (by omega), pu_gd b1, pu_lt, pu_gd (by rw [hroot]; exact ⟨by omega, by omega⟩), pu_jn, if_neg hnr, b3, pu_gd ⟨by omega, by omega⟩, hrr.2.1.2, pu_gd ⟨by omega, by omega⟩, if_pos c, h30, g2]
        exact s2
      · have := q_Fd_trans g9 s5
        rw [show (1 : Int) + ((k : Int) + 1) = ((k + 1 : Nat) : Int) + 1 by omega] at this
        exact this
      · obtain ⟨q1, q2⟩ := s6 x hx
        obtain ⟨q3, q4⟩ := (g6 x).mp q1
        exact ⟨q3, by rw [q2, (g7 x q4).1]⟩
    · obtain ⟨q, oq, hq, g1, g2⟩ := q_fitm hN h hu h0 (by omega)
      have hqf := q_fit h hu oq hq
      have oh : ∀ h : Nat, h ≠ 3 → h ≠ 4 → h ≠ 5 → h ≠ 6 → c_set m u q h = m h := fun h x y z t => c_set_h _ _ _ x y z t
      have ort : ∀ v, v ≠ u → c_rt (c_set m u q) v = c_rt m v := fun v hv => c_set_ne _ _ hv
      have orh : ∀ h : Nat, h ≠ 29 → d_set r (φ u) q h = r h := fun h x => d_set_h _ _ _ x
      generalize hm1 : c_set m u q = m1 at *
      generalize hr1 : d_set r (φ u) q = r1 at *
      have e1 := oh 1 (by decide) (by decide) (by decide) (by decide)
      have e2 := oh 2 (by decide) (by decide) (by decide) (by decide)
      have e8 := oh 8 (by decide) (by decide) (by decide) (by decide)
      have e9 := oh 9 (by decide) (by decide) (by decide) (by decide)
      have e11 := oh 11 (by decide) (by decide) (by decide) (by decide)
      have LN : ∀ x, c_LN m1 x ↔ c_LN m x := fun x => by unfold c_LN; rw [e1, e2]
      have hcon : c_con m1 (fun x => x ∈ H) k (m 8 u) := c_con_cg (m' := m1) (L := 0) hK hA (by rw [e11]) (fun x _ _ => by rw [e8]) k (m 8 u) d1 (by omega) c3
      have hZ1 : q_ZT m1 (m 8 u) := by
        unfold q_ZT q_W
        rw [e11, e1, e9, e2]
        refine ⟨fun s hs => ⟨fun x y => ?_, (z1 s ((LN s).mp hs)).2⟩, fun x => ⟨?_, hW⟩, fun x y => by have := hW y; omega⟩
        · by_cases e : s = u
          · rw [e]; omega
          · exact (z1 s ((LN s).mp hs)).1 x e
        · have := (z1 _ d1).1 x hpu
          omega
      have hH1 : q_H m1 r1 φ H := by
        obtain ⟨⟨hH1, hH2⟩, hH3⟩ := hH
        unfold q_H
        rw [e11, orh 23 (by decide), oh 12 (by decide) (by decide) (by decide) (by decide), orh 31 (by decide), orh 32 (by decide), e2]
        exact ⟨⟨hH1, hH2⟩, hH3⟩
      obtain ⟨m', r', H', t1, t2, ⟨s1, s2⟩, s3, s4, s5, s6⟩ := ih m1 r1 H (m 8 u) fu fu' (v + 1) hqf ((LN _).mpr d1) hpH hcon hZ1 hH1 hnd (by rw [e2]; omega) (fun x hx => by rw [e2]; have := hHl x hx; omega) (by rw [e11, e2]; exact hrl) (by omega) (by omega) (by omega) (by omega)
      have hfd : q_Fd 0 m m1 r r1 := ⟨⟨fun h x => oh h (by omega) (by omega) (by omega) (by omega), fun j x => by rw [e1], fun j x y z => by rw [e11]⟩, fun x hx => ⟨by rw [e2], ort x (by omega)⟩, ⟨⟨by rw [e11]; exact Int.le_refl _, by rw [e11]; omega⟩, by rw [e11]⟩, fun h x => orh h (by omega), fun j x y => by rw [orh 23 (by decide)]⟩
      refine ⟨m', r', H', t1, t2, ⟨?_, ?_⟩, s3, s4, ?_, fun x hx => ?_⟩
      · rw [fn_X5_thinUpwards_L4, pu_gd ⟨by omega, by omega⟩, if_pos (by omega), pu_gd ⟨by omega, by omega⟩, if_neg (by omega), pu_gd ⟨by omega, by omega⟩, pu_lt, pu_gd ⟨by omega, by omega⟩, pu_jn, if_neg (by omega), pu_gd ⟨by omega, by omega⟩, pu_gd ⟨by omega, by omega⟩, if_neg c, g1, Option.bind_some]
        exact s1
      · rw [fn_X8_remove_L81, pu_gd ⟨by omega, by omega⟩, if_neg (by omega), pu_gd b1, pu_lt, pu_gd (by rw [hroot]; exact ⟨by omega, by omega⟩), pu_jn, if_neg hnr, b3, pu_gd ⟨by omega, by omega⟩, hrr.2.1.2, pu_gd ⟨by omega, by omega⟩, if_neg c, h30, g2, Option.bind_some]
        exact s2
      · obtain ⟨x1, x2, ⟨⟨x3, x4⟩, x5⟩, x6⟩ := q_Fd_trans hfd s5
        exact ⟨x1, x2, ⟨⟨x3, by omega⟩, x5⟩, x6⟩
      · obtain ⟨q1, q2⟩ := s6 x hx
        exact ⟨(LN x).mp q1, by rw [q2, e2]⟩
