/-! ===== PURE, 42: all that holds between calls ===== -/
def q_Wo (w : Nat) (m r : vl_M) (φ : Int → Int) : Prop := ∃ q : pR, (r_ok q ∧ c_rt m 804 = q) ∧ (r 34 0 = q.1 ∧ r 34 1 = q.2.1 ∧ r 34 2 = q.2.2.1 ∧ r 34 3 = q.2.2.2) ∧ v_S w m (m 18 5) (m 18 6) (m 18 4) ∧ (m 18 3 = r 23 26 ∧ 0 ≤ m 18 3 ∧ m 18 3 ≤ m 18 4) ∧ ((r 23 25 = 0 ∧ r 23 24 = 0 ∧ v_rc w m q (m 18 5) (m 18 6) (m 18 4) = -1 :: v_ev w m q (m 2 (m 11 6)).toNat (m 11 6) 0) ∨ (r 23 25 = 1 ∧ ∃ S : List (Int × Int), r 23 24 = (S.length : Int) ∧ v_R m r φ S ∧ v_rc w m q (m 18 5) (m 18 6) (m 18 4) = v_st w m q S))
def q_Wn (w : Nat) (m r : vl_M) (φ : Int → Int) : Prop := (m 18 2 = r 23 20 ∧ (m 18 2 = 0 ∨ m 18 2 = 1)) ∧ (m 18 2 = 1 → q_Wo w m r φ)
def q_Cn (n : Nat) (m r : vl_M) : Prop := r 23 14 = m 11 9 ∧ (0 ≤ m 11 7 ∧ m 11 7 ≤ 400 * (n : Int)) ∧ (0 ≤ m 11 8 ∧ m 11 8 ≤ 400 * (n : Int)) ∧ (0 ≤ m 11 9 ∧ m 11 9 ≤ 400 * (n : Int))
def q_Sr (m r : vl_M) : Prop := (m 19 5 = r 23 27 ∧ 0 ≤ m 19 5 ∧ m 19 5 ≤ 1000) ∧ ((r 23 28 = 0 ∧ m 19 6 = -1) ∨ (r 23 28 = 1 ∧ r 23 29 = m 19 6 ∧ 0 ≤ m 19 6 ∧ m 19 6 < 2147483648))
def q_top (n : Nat) (w : Nat) (m r : vl_M) (φ : Int → Int) : Prop := (q_B w m r φ ∧ q_O w m) ∧ (q_Cn n m r ∧ q_Sr m r) ∧ q_Wn w m r φ
theorem q_B_cg {w : Nat} {m m' r r' : vl_M} {φ : Int → Int} (h : q_B w m r φ) (h1 : m' 1 = m 1) (h2 : m' 2 = m 2) (h8 : m' 8 = m 8) (h9 : m' 9 = m 9) (h10 : m' 10 = m 10) (h6 : m' 11 6 = m 11 6) (h7 : ∀ u, 0 ≤ u → u < 400 → m' 7 u = m 7 u) (hrt : ∀ u, 0 ≤ u → u < 804 → c_rt m' u = c_rt m u) (hr : ∀ h : Nat, 24 ≤ h → h ≤ 30 → r' h = r h) (hr1 : r' 23 1 = r 23 1 ∧ r' 23 2 = r 23 2) (hr5 : r' 23 5 = r 23 5 ∧ r' 23 11 = r 23 11) (hc : r' 23 12 = m' 11 7 ∧ r' 23 13 = m' 11 8) : q_B w m' r' φ := by
  obtain ⟨hI, ⟨hZ, hW⟩, hDNV⟩ := h
  have LN : ∀ u, c_LN m' u ↔ c_LN m u := fun u => by unfold c_LN; rw [h1, h2]
  refine ⟨q_cg hI h1 h2 h8 h9 h10 hrt h7 h6 hr hr1 hr5 hc, ⟨?_, ?_⟩, q_DNV_cg hI.1.1 (by rw [h1]) (by rw [h1]) (fun e _ _ => by rw [h2]) (fun e e1 e2 => h7 e e1 e2) (fun e e1 e2 => hrt e e1 (by omega)) hDNV⟩
  · unfold q_Z
    rw [h1, h2, h9, h6]
    exact ⟨fun s hs => hZ.1 s ((LN s).mp hs), hZ.2⟩
  · unfold q_W
    rw [h2, h9, h6]; exact hW
theorem c_ord_cg {w : Nat} {m m' : vl_M} (h2 : m' 2 = m 2) (h9 : m' 9 = m 9) (h10 : m' 10 = m 10) (h6 : m' 11 6 = m 11 6) : c_ord w m' = c_ord w m := by
  unfold c_ord
  rw [h2, h6, c_pre_congr h9 h10]
/-- levels and sizes -/
theorem q_B_lv {w : Nat} {m r : vl_M} {φ : Int → Int} (h : q_B w m r φ) : (∀ s, c_LN m s → s ≠ m 11 6 → 2 ≤ m 9 s) ∧ (∀ s, c_LN m s → m 2 s ≤ 8) ∧ (∀ s, c_LN m s → s ≠ m 11 6 → 0 < m 9 s) := by
  obtain ⟨hI, ⟨hZ, hW⟩, -⟩ := h
  obtain ⟨⟨hP, hK, hA, hR⟩, -⟩ := hI
  have hpl := hP.2.2.1
  have hge : ∀ t, c_LN m t → t ≠ m 11 6 → 2 ≤ m 9 t := fun t ht hr => by have := (hZ.1 t ht).1 hr (by have := ht.1; omega); omega
  refine ⟨hge, fun s hs => ?_, fun s hs hr => by have := hge s hs hr; omega⟩
  by_cases c : s = m 11 6
  · rw [c]; exact q_root_low hP hK hge hR.1.1 hZ.2
  · have := c_low hP hK hge hs c; omega
theorem v_ev_cg {w : Nat} {m m' : vl_M} {X : Int → Prop} {q : pR} (hP : s_P w m) (hK : s_K w m X) (h9 : m' 9 = m 9) (h10 : m' 10 = m 10) (hrt : ∀ u, 0 ≤ u → u < 804 → c_rt m' u = c_rt m u) : ∀ (n : Nat) (u i : Int), c_LN m u → m 2 u = (n : Int) → 0 ≤ i → v_ev w m' q n u i = v_ev w m q n u i := by
  have hlt : ∀ c, c_LT m c → 0 ≤ c ∧ c < 804 := fun c hc => by
    obtain ⟨-, -, -, p1, p2⟩ := hP
    rcases hc with hc | hc
    · have := hc.1; omega
    · have := hc.1; omega
  have hmap : ∀ (u : Int) (k : Nat) (i : Int), (pu_seq k i).map (c_k w m' u) = (pu_seq k i).map (c_k w m u) := fun u k i => List.map_congr_left (fun j _ => by unfold c_k; rw [h10])
  have hmem : ∀ (u i : Int) (k : Nat), c_LN m u → 0 ≤ i → (k : Int) ≤ m 9 u - i → ∀ c, c ∈ (pu_seq k i).map (c_k w m u) → ∃ j, 0 ≤ j ∧ j < m 9 u ∧ c_k w m u j = c := fun u i k hu hi hk c hc => by
    obtain ⟨j, j1, j2⟩ := List.mem_map.mp hc
    have := (pu_seq_mem _ _ _).mp j1
    exact ⟨j, by omega, by omega, j2⟩
  have hck : ∀ (u i : Int), c_LN m u → 0 ≤ i → ∀ c, c ∈ (pu_seq (m 9 u - i).toNat i).map (c_k w m u) → c_LT m c ∧ m 2 c = m 2 u - 1 ∧ c_rt m' c = c_rt m c := fun u i hu hi c hc => by
    by_cases z : i ≤ m 9 u
    · obtain ⟨j, j1, j2, j3⟩ := hmem u i _ hu hi (by omega) c hc
      have hk := ((hK u hu).2 j j1 j2).1
      rw [j3] at hk
      have := hlt c hk.1
      exact ⟨hk.1, hk.2, hrt c this.1 this.2⟩
    · rw [show (m 9 u - i).toNat = 0 by omega] at hc
      exact (List.not_mem_nil hc).elim
  intro n
  induction n with
  | zero =>
    intro u i hu hl hi
    show ((pu_seq (m' 9 u - i).toNat i).map (c_k w m' u)).filter (fun c => r_mtb (c_rt m' c) q) = ((pu_seq (m 9 u - i).toNat i).map (c_k w m u)).filter (fun c => r_mtb (c_rt m c) q)
    rw [h9, hmap]
    exact List.filter_congr (fun c hc => by rw [(hck u i hu hi c hc).2.2])
  | succ n ih =>
    intro u i hu hl hi
    show ((pu_seq (m' 9 u - i).toNat i).map (c_k w m' u)).flatMap (fun c => if r_mtb (c_rt m' c) q = true then -1 :: v_ev w m' q n c 0 else []) = ((pu_seq (m 9 u - i).toNat i).map (c_k w m u)).flatMap (fun c => if r_mtb (c_rt m c) q = true then -1 :: v_ev w m q n c 0 else [])
    rw [h9, hmap]
    refine pu_flatMap_congr _ (fun c hc => ?_)
    obtain ⟨k1, k2, k3⟩ := hck u i hu hi c hc
    rw [k3, ih c 0 (c_LT_N k1 (by omega)) (by omega) (by omega)]
theorem v_rc_cg {w : Nat} {m m' : vl_M} {X : Int → Prop} {q : pR} (hP : s_P w m) (hK : s_K w m X) (hR : c_LN m (m 11 6)) (h2 : m' 2 = m 2) (h6 : m' 11 6 = m 11 6) (h9 : m' 9 = m 9) (h10 : m' 10 = m 10) (hrt : ∀ u, 0 ≤ u → u < 804 → c_rt m' u = c_rt m u) {lf ix nu : Int} (hS : v_S w m lf ix nu) : v_rc w m' q lf ix nu = v_rc w m q lf ix nu := by
  obtain ⟨n1, n2, n3⟩ := c_ord_nodup hP hK hR
  unfold v_rc
  rw [c_ord_cg h2 h9 h10 h6]
  congr 1
  · by_cases c : lf = -1
    · rw [if_pos c, if_pos c]
    · rw [if_neg c, if_neg c]
      obtain ⟨l1, l2, l3, l4⟩ := hS.2.resolve_left c
      exact v_ev_cg hP hK h9 h10 hrt 0 lf ix l1 l2 l3
  · refine pu_flatMap_congr _ (fun x hx => ?_)
    have hxL := n3 x (List.mem_of_mem_drop hx)
    have hnd := c_LN_nd hP hxL
    unfold v_cl
    rw [h6, hrt x (by omega) (by omega), h2]
    by_cases c : m 2 x = 0
    · rw [if_pos c, if_pos c, v_ev_cg hP hK h9 h10 hrt 0 x 0 hxL c (by omega)]
    · rw [if_neg c, if_neg c]
theorem v_R_cgm {w : Nat} {m m' r r' : vl_M} {φ : Int → Int} (h1 : m' 1 = m 1) (h2 : m' 2 = m 2) (h9 : m' 9 = m 9) (h35 : r' 35 = r 35) (h36 : r' 36 = r 36) : ∀ (S : List (Int × Int)), v_R m r φ S → v_R m' r' φ S := by
  have LN : ∀ u, c_LN m' u ↔ c_LN m u := fun u => by unfold c_LN; rw [h1, h2]
  intro S
  induction S with
  | nil => intro _; trivial
  | cons p S ih =>
    intro h
    obtain ⟨⟨a1, a2⟩, ⟨b1, b2, b3⟩, c, d⟩ := h
    exact ⟨⟨by rw [h35]; exact a1, by rw [h36]; exact a2⟩, ⟨(LN _).mpr b1, b2, by rw [h9]; exact b3⟩, fun b hb => by rw [h2]; exact c b hb, ih d⟩
theorem q_Wn_cg {w : Nat} {m m' r r' : vl_M} {φ : Int → Int} (hP : s_P w m) (hK : s_K w m (fun _ => False)) (hR : c_LN m (m 11 6)) (h1 : m' 1 = m 1) (h2 : m' 2 = m 2) (h6 : m' 11 6 = m 11 6) (h9 : m' 9 = m 9) (h10 : m' 10 = m 10) (h18 : m' 18 = m 18) (hrt : ∀ u, 0 ≤ u → u < 805 → c_rt m' u = c_rt m u) (hr : ∀ h : Nat, 34 ≤ h → h ≤ 36 → r' h = r h) (hj : r' 23 20 = r 23 20 ∧ r' 23 24 = r 23 24 ∧ r' 23 25 = r 23 25 ∧ r' 23 26 = r 23 26) (h : q_Wn w m r φ) : q_Wn w m' r' φ := by
  obtain ⟨g1, g2⟩ := h
  have LN : ∀ u, c_LN m' u ↔ c_LN m u := fun u => by unfold c_LN; rw [h1, h2]
  refine ⟨by rw [h18, hj.1]; exact g1, fun z => ?_⟩
  rw [h18] at z
  obtain ⟨q, ⟨o1, o2⟩, o3, o4, o5, o6⟩ := g2 z
  have erc : v_rc w m' q (m 18 5) (m 18 6) (m 18 4) = v_rc w m q (m 18 5) (m 18 6) (m 18 4) := v_rc_cg hP hK hR h2 h6 h9 h10 (fun u u1 u2 => hrt u u1 (by omega)) o4
  refine ⟨q, ⟨o1, by rw [hrt 804 (by decide) (by decide)]; exact o2⟩, by rw [hr 34 (by omega) (by omega)]; exact o3, ?_, by rw [h18, hj.2.2.2]; exact o5, ?_⟩
  · obtain ⟨s1, s2⟩ := o4
    unfold v_S
    rw [h18, c_ord_cg h2 h9 h10 h6, h2, h9, LN]
    exact ⟨s1, s2⟩
  · rw [h18, erc, hj.2.1, hj.2.2.1]
    rcases o6 with ⟨x1, x2, x3⟩ | ⟨x1, S, x2, x3, x4⟩
    · left
      refine ⟨x1, x2, ?_⟩
      rw [x3, h2, h6, v_ev_cg hP hK h9 h10 (fun u u1 u2 => hrt u u1 (by omega)) _ _ 0 hR (by have := hR.2; omega) (by omega)]
    · right
      refine ⟨x1, S, x2, v_R_cgm (w := w) h1 h2 h9 (hr 35 (by omega) (by omega)) (hr 36 (by omega) (by omega)) S x3, ?_⟩
      rw [x4]
      have : ∀ S : List (Int × Int), v_R m r φ S → v_st w m q S = v_st w m' q S := by
        intro S
        induction S with
        | nil => intro _; rfl
        | cons p S ih =>
          intro hv
          obtain ⟨-, ⟨b1, b2, b3⟩, -, d⟩ := hv
          have e1 : v_st w m q (p :: S) = v_ev w m q (m 2 p.1).toNat p.1 p.2 ++ v_st w m q S := rfl
          have e2 : v_st w m' q (p :: S) = v_ev w m' q (m' 2 p.1).toNat p.1 p.2 ++ v_st w m' q S := rfl
          rw [e1, e2, ih d, h2, v_ev_cg hP hK h9 h10 (fun u u1 u2 => hrt u u1 (by omega)) _ _ p.2 b1 (by have := b1.2; omega) b2]
      exact this S x3
/-- calls that only read, and what they leave -/
theorem q_top_cg {n w : Nat} {m m' r r' : vl_M} {φ : Int → Int} (h : q_top n w m r φ) (hm : ∀ h : Nat, (h < 3 ∨ (8 ≤ h ∧ h ≤ 13) ∨ h = 18) → m' h = m h) (h7 : ∀ u, u ≠ 805 → m' 7 u = m 7 u) (hrt : ∀ u, u ≠ 805 → c_rt m' u = c_rt m u) (hr : ∀ h : Nat, ((24 ≤ h ∧ h ≤ 30) ∨ (34 ≤ h ∧ h ≤ 36)) → r' h = r h) (hj : ∀ j, j < 19 ∨ (20 ≤ j ∧ j < 27) → j ≠ 17 → r' 23 j = r 23 j) (hS : q_Sr m' r') : q_top n w m' r' φ := by
  obtain ⟨⟨hB, hO⟩, ⟨hC, -⟩, hW⟩ := h
  obtain ⟨⟨hP, hK, hA, hR⟩, -, -, -, hrr⟩ := id hB.1
  obtain ⟨n1, n2, n3⟩ := c_ord_nodup hP hK hR.1.1
  refine ⟨⟨q_B_cg hB (hm 1 (by omega)) (hm 2 (by omega)) (hm 8 (by omega)) (hm 9 (by omega)) (hm 10 (by omega)) (by rw [hm 11 (by omega)]) (fun u u1 u2 => h7 u (by omega)) (fun u u1 u2 => hrt u (by omega)) (fun h x y => hr h (by omega)) ⟨hj 1 (by omega) (by decide), hj 2 (by omega) (by decide)⟩ ⟨hj 5 (by omega) (by decide), hj 11 (by omega) (by decide)⟩ ⟨by rw [hj 12 (by omega) (by decide), hm 11 (by omega)]; exact hrr.2.2.2.1, by rw [hj 13 (by omega) (by decide), hm 11 (by omega)]; exact hrr.2.2.2.2⟩, ?_⟩, ⟨?_, hS⟩, q_Wn_cg hP hK hR.1.1 (hm 1 (by omega)) (hm 2 (by omega)) (by rw [hm 11 (by omega)]) (hm 9 (by omega)) (hm 10 (by omega)) (hm 18 (by omega)) (fun u u1 u2 => hrt u (by omega)) (fun h x y => hr h (by omega)) ⟨hj 20 (by omega) (by decide), hj 24 (by omega) (by decide), hj 25 (by omega) (by decide), hj 26 (by omega) (by decide)⟩ hW⟩
  · unfold q_O
    rw [c_ord_cg (hm 2 (by omega)) (hm 9 (by omega)) (hm 10 (by omega)) (by rw [hm 11 (by omega)]), hm 11 (by omega), hm 13 (by omega)]
    refine ⟨hO.1, fun k x hx => ?_⟩
    obtain ⟨o1, o2⟩ := hO.2 k x hx
    have := c_LN_nd hP (n3 x (List.mem_of_getElem? hx))
    exact ⟨o1, by rw [h7 x (by omega)]; exact o2⟩
  · unfold q_Cn
    rw [hm 11 (by omega), hj 14 (by omega) (by decide)]
    exact hC
