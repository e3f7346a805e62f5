/-! ===== PURE, 41: the next entry of a window, the reference's way ===== -/
def v_st (w : Nat) (m : vl_M) (q : pR) (S : List (Int × Int)) : List Int := S.flatMap (fun p => v_ev w m q (m 2 p.1).toNat p.1 p.2)
def v_R (m r : vl_M) (φ : Int → Int) : List (Int × Int) → Prop
  | [] => True
  | p :: S => (r 35 (S.length : Int) = φ p.1 ∧ r 36 (S.length : Int) = p.2) ∧ (c_LN m p.1 ∧ 0 ≤ p.2 ∧ p.2 ≤ m 9 p.1) ∧ (∀ b, b ∈ S → m 2 p.1 < m 2 b.1) ∧ v_R m r φ S
theorem v_R_cg {m r r' : vl_M} {φ : Int → Int} : ∀ (S : List (Int × Int)), (∀ j, 0 ≤ j → j < (S.length : Int) → r' 35 j = r 35 j ∧ r' 36 j = r 36 j) → v_R m r φ S → v_R m r' φ S := by
  intro S
  induction S with
  | nil => intro _ _; trivial
  | cons p S ih =>
    intro h hR
    obtain ⟨⟨a1, a2⟩, b, c, d⟩ := hR
    have hl : ((p :: S).length : Int) = (S.length : Int) + 1 := by simp
    obtain ⟨h1, h2⟩ := h (S.length : Int) (by omega) (by omega)
    exact ⟨⟨by rw [h1]; exact a1, by rw [h2]; exact a2⟩, b, c, ih (fun j j1 j2 => h j j1 (by omega)) d⟩
theorem v_R_len {m r : vl_M} {φ : Int → Int} (hl : ∀ s, c_LN m s → m 2 s ≤ 8) : ∀ (S : List (Int × Int)) (p : Int × Int), v_R m r φ (p :: S) → m 2 p.1 + (S.length : Int) ≤ 8 := by
  intro S
  induction S with
  | nil => intro p h; have := hl p.1 h.2.1.1; simp; exact this
  | cons b S ih =>
    intro p h
    have h1 := ih b h.2.2.2
    have h2 := h.2.2.1 b List.mem_cons_self
    have : ((b :: S).length : Int) = (S.length : Int) + 1 := by simp
    omega
theorem v_evS {w : Nat} {m : vl_M} {q : pR} {u i : Int} {n : Nat} (h : i < m 9 u) : v_ev w m q (n + 1) u i = (if r_mtb (c_rt m (c_k w m u i)) q = true then -1 :: v_ev w m q n (c_k w m u i) 0 else []) ++ v_ev w m q (n + 1) u (i + 1) := by
  obtain ⟨k, hk⟩ : ∃ k : Nat, (m 9 u - i).toNat = k + 1 := ⟨(m 9 u - i).toNat - 1, by omega⟩
  have e : v_ev w m q (n + 1) u i = ((pu_seq (m 9 u - i).toNat i).map (c_k w m u)).flatMap (fun c => if r_mtb (c_rt m c) q = true then -1 :: v_ev w m q n c 0 else []) := rfl
  have e2 : v_ev w m q (n + 1) u (i + 1) = ((pu_seq (m 9 u - (i + 1)).toNat (i + 1)).map (c_k w m u)).flatMap (fun c => if r_mtb (c_rt m c) q = true then -1 :: v_ev w m q n c 0 else []) := rfl
  rw [e, e2, hk, show (m 9 u - (i + 1)).toNat = k by omega, pu_seq_cons, List.map_cons, List.flatMap_cons]
/-- how much is still to be done -/
def v_mu (m : vl_M) : List (Int × Int) → Nat
  | [] => 0
  | p :: S => (11 - p.2).toNat * 12 ^ ((m 2 p.1).toNat + 1) + 1 + v_mu m S
theorem v_mu_le {m r : vl_M} {φ : Int → Int} (hl : ∀ s, c_LN m s → m 2 s ≤ 8) : ∀ (S : List (Int × Int)), v_R m r φ S → v_mu m S ≤ S.length * 56757583873 := by
  intro S
  induction S with
  | nil => intro _; exact Nat.zero_le _
  | cons p S ih =>
    intro h
    have h1 := ih h.2.2.2
    have h2 := h.2.1
    have h3 := hl p.1 h2.1
    have h4 := h2.1.2
    have e1 : 12 ^ ((m 2 p.1).toNat + 1) ≤ 12 ^ 9 := Nat.pow_le_pow_right (by decide) (by omega)
    have e2 : (11 - p.2).toNat * 12 ^ ((m 2 p.1).toNat + 1) ≤ 11 * 12 ^ 9 := Nat.mul_le_mul (by omega) e1
    have e3 : 11 * 12 ^ 9 = 56757583872 := by decide
    show (11 - p.2).toNat * 12 ^ ((m 2 p.1).toNat + 1) + 1 + v_mu m S ≤ (S.length + 1) * 56757583873
    rw [Nat.add_mul]
    omega
theorem d_nextL {w N : Nat} {m r : vl_M} {φ : Int → Int} {X : Int → Prop} {q : pR} (h : q_I w m r φ X (-1)) (h0 : ∀ s, c_LN m s → s ≠ m 11 6 → 0 < m 9 s) (hlv : ∀ s, c_LN m s → m 2 s ≤ 8) (oq : r_ok q) (hpane : r 34 0 = q.1 ∧ r 34 1 = q.2.1 ∧ r 34 2 = q.2.2.1 ∧ r 34 3 = q.2.2.2) : ∀ (M fu : Nat) (S : List (Int × Int)) (rr : vl_M), v_mu m S ≤ M → M < fu → (∀ h : Nat, h ≠ 23 → h ≠ 35 → h ≠ 36 → rr h = r h) → (∀ j, j ≠ 24 → j ≠ 26 → rr 23 j = r 23 j) → rr 23 24 = (S.length : Int) → v_R m rr φ S →
    ∃ e rr' S', fn_X8_next_L29 N (fun (m6 : vl_M) => some ((-2), m6)) fu rr = some (if e = -1 then -2 else m 7 e, rr') ∧ (∀ h : Nat, h ≠ 23 → h ≠ 35 → h ≠ 36 → rr' h = r h) ∧ (∀ j, j ≠ 24 → j ≠ 26 → rr' 23 j = r 23 j) ∧ (rr' 23 24 = (S'.length : Int) ∧ v_R m rr' φ S') ∧ ∃ k : Nat, v_nx (v_st w m q S) = (e, k, v_st w m q S') ∧ rr' 23 26 = rr 23 26 + (k : Int) := by
  obtain ⟨⟨hP, hK, hA, hR⟩, ⟨hE, hS'⟩, hT, ⟨hsn, hsi, hso, hse⟩, hrr⟩ := id h
  have hw11 := hP.1.2
  intro M
  induction M with
  | zero =>
    intro fu S rr hM hf hh hj h24 hv
    obtain ⟨fu, rfl⟩ : ∃ x, fu = x + 1 := ⟨fu - 1, by omega⟩
    cases S with
    | nil =>
      refine ⟨-1, rr, [], ?_, hh, hj, ⟨h24, trivial⟩, 0, rfl, by simp⟩
      have : rr 23 24 = 0 := h24
      rw [fn_X8_next_L29, this, pu_gd (by decide), if_neg (by decide), if_pos rfl]
    | cons p S => unfold v_mu at hM; omega
  | succ M ih =>
    intro fu S rr hM hf hh hj h24 hv
    obtain ⟨fu, rfl⟩ : ∃ x, fu = x + 1 := ⟨fu - 1, by omega⟩
    cases S with
    | nil =>
      refine ⟨-1, rr, [], ?_, hh, hj, ⟨h24, trivial⟩, 0, rfl, by simp⟩
      have : rr 23 24 = 0 := h24
      rw [fn_X8_next_L29, this, pu_gd (by decide), if_neg (by decide), if_pos rfl]
    | cons p S =>
      obtain ⟨u, i⟩ := p
      have hlen := v_R_len hlv S (u, i) hv
      obtain ⟨⟨a1, a2⟩, ⟨b1, b2, b3⟩, c, d⟩ := id hv
      dsimp only at a1 a2 b1 b2 b3 c hlen
      have hl24 : rr 23 24 = (S.length : Int) + 1 := by rw [h24]; simp
      have hu0 := b1.2
      obtain ⟨⟨n1, n2, n3⟩, n4, -⟩ := hsn u b1
      have hzu := (hK u b1).1.2
      have e35 : rr 35 (rr 23 24 - 1) = φ u := by rw [hl24, show (S.length : Int) + 1 - 1 = (S.length : Int) by omega]; exact a1
      have e36 : rr 36 (rr 23 24 - 1) = i := by rw [hl24, show (S.length : Int) + 1 - 1 = (S.length : Int) by omega]; exact a2
      have e27 : rr 27 (φ u) = m 9 u := by rw [hh 27 (by decide) (by decide) (by decide)]; exact n3
      have hmu : v_mu m ((u, i) :: S) = (11 - i).toNat * 12 ^ ((m 2 u).toNat + 1) + 1 + v_mu m S := rfl
      have hst : v_st w m q ((u, i) :: S) = v_ev w m q (m 2 u).toNat u i ++ v_st w m q S := rfl
      by_cases ci : i = m 9 u
      · -- done with this one
        generalize hr1 : vl_up rr 23 24 (rr 23 24 - 1) = r1
        have r1h : ∀ h : Nat, h ≠ 23 → r1 h = rr h := fun h x => by rw [← hr1, up_h _ _ _ x]
        obtain ⟨e, rr', S', s1, s2, s3, s4, k, s5, s6⟩ := ih fu S r1 (by rw [hmu] at hM; omega) (by omega) (fun h x y z => by rw [r1h h x, hh h x y z]) (fun j x y => by rw [← hr1, up_i _ _ x, hj j x y]) (by rw [← hr1, up_s, hl24]; omega) (v_R_cg S (fun j _ _ => ⟨by rw [r1h 35 (by decide)], by rw [r1h 36 (by decide)]⟩) d)
        refine ⟨e, rr', S', ?_, s2, s3, s4, k, ?_, by rw [s6, ← hr1, up_i _ _ (by decide)]⟩
        · rw [fn_X8_next_L29, pu_gd ⟨by omega, by omega⟩, if_pos (by omega), pu_gd ⟨by omega, by omega⟩, pu_lt, e35, pu_gd n1, e36, pu_gd ⟨by omega, by omega⟩, e27, pu_gd ⟨by omega, by omega⟩, if_pos ci, pu_lt, hr1, s1]
        · rw [hst, v_ev_nil _ (by omega), List.nil_append]; exact s5
      · -- one more
        obtain ⟨⟨k1, k2⟩, ⟨k3, k4, k5⟩, -⟩ := (hK u b1).2 i b2 (by omega)
        have hthing := q_thing h k1 (by have := c_LT_in hP k1; omega) (fun z => h0 _ z k5)
        rw [k2] at hthing
        obtain ⟨t1, t2, t3⟩ := hthing
        generalize hr1 : vl_up rr 36 (rr 23 24 - 1) (i + 1) = r1
        have r1h : ∀ h : Nat, h ≠ 36 → r1 h = rr h := fun h x => by rw [← hr1, up_h _ _ _ x]
        have r136 : ∀ j, j ≠ (S.length : Int) → r1 36 j = rr 36 j := fun j x => by rw [← hr1, hl24, up_i _ _ (by omega)]
        have r1s : r1 36 (S.length : Int) = i + 1 := by rw [← hr1, hl24, show (S.length : Int) + 1 - 1 = (S.length : Int) by omega, up_s]
        have hh1 : ∀ h : Nat, h ≠ 23 → h ≠ 35 → h ≠ 36 → r1 h = r h := fun h x y z => by rw [r1h h z, hh h x y z]
        have hj1 : ∀ j, j ≠ 24 → j ≠ 26 → r1 23 j = r 23 j := fun j x y => by rw [r1h 23 (by decide), hj j x y]
        have h241 : r1 23 24 = (S.length : Int) + 1 := by rw [r1h 23 (by decide)]; exact hl24
        have hv1 : v_R m r1 φ ((u, i + 1) :: S) := ⟨⟨by rw [r1h 35 (by decide)]; exact a1, r1s⟩, ⟨b1, by show (0 : Int) ≤ i + 1; omega, by show i + 1 ≤ m 9 u; omega⟩, c, v_R_cg S (fun j j1 j2 => ⟨by rw [r1h 35 (by decide)], r136 j (by omega)⟩) d⟩
        have e26 : r1 26 (φ u) = m 2 u := by rw [hh1 26 (by decide) (by decide) (by decide)]; exact n2
        have edk : d_k rr (φ u) i = φ (c_k w m u i) := by rw [d_k_congr (hh 28 (by decide) (by decide) (by decide)), n4 i b2 (by omega)]
        have ert : d_rt r1 (m 2 u - 1) (φ (c_k w m u i)) = c_rt m (c_k w m u i) := by rw [d_rt_congr (hh1 25 (by decide) (by decide) (by decide)) (hh1 29 (by decide) (by decide) (by decide))]; exact t2
        obtain ⟨m1, m2⟩ := d_meets (r := r1) (q := q) t1 (by rw [ert]; exact t3) oq
        rw [ert] at m1 m2
        have ep : r1 34 = r 34 := hh1 34 (by decide) (by decide) (by decide)
        have hp2 : 12 ^ ((m 2 u).toNat + 1) ≥ 12 := by
          calc 12 ^ ((m 2 u).toNat + 1) ≥ 12 ^ 1 := Nat.pow_le_pow_right (by decide) (by omega)
            _ = 12 := by decide
        have hmul : (11 - i).toNat * 12 ^ ((m 2 u).toNat + 1) = (11 - (i + 1)).toNat * 12 ^ ((m 2 u).toNat + 1) + 12 ^ ((m 2 u).toNat + 1) := by
          rw [show (11 - i).toNat = (11 - (i + 1)).toNat + 1 by omega, Nat.add_mul, Nat.one_mul]
        have hmu1 : v_mu m ((u, i + 1) :: S) = (11 - (i + 1)).toNat * 12 ^ ((m 2 u).toNat + 1) + 1 + v_mu m S := rfl
        have hul8 := hlv u b1
        have est : fn_X8_next_L29 N (fun (m6 : vl_M) => some ((-2), m6)) (fu + 1) rr = (fn_X8_meets r1 (m 2 u - 1) (φ (c_k w m u i)) q.1 q.2.1 q.2.2.1 q.2.2.2).bind fun b25 => vl_gd (vl_r32 b25) <| if b25 = 0 then (fn_X8_next_L29 N (fun (m6 : vl_M) => some ((-2), m6)) fu r1) else vl_gd (vl_r32 (r1 26 (φ u))) <| if (r1 26 (φ u)) = 0 then (vl_gd (0 ≤ φ (c_k w m u i) ∧ φ (c_k w m u i) < 401) <| some ((r1 24 (φ (c_k w m u i))), r1)) else (fn_X8_enter r1 (φ (c_k w m u i))).bind fun m29 => fn_X8_next_L29 N (fun (m6 : vl_M) => some ((-2), m6)) fu m29 := by
          rw [fn_X8_next_L29, pu_gd ⟨by omega, by omega⟩, if_pos (by omega), pu_gd ⟨by omega, by omega⟩, pu_lt, e35, pu_gd n1, e36, pu_gd ⟨by omega, by omega⟩, e27, pu_gd ⟨by omega, by omega⟩, if_neg ci, d_held n1 ⟨b2, by omega⟩, Option.bind_some, edk, pu_lt, hr1, pu_gd ⟨by decide, by decide⟩, pu_gd ⟨by decide, by decide⟩, pu_gd ⟨by decide, by decide⟩, pu_gd ⟨by decide, by decide⟩, ep, hpane.1, hpane.2.1, hpane.2.2.1, hpane.2.2.2, e26]
        rw [est]
        by_cases cm : r_mt (c_rt m (c_k w m u i)) q
        · rw [m1 cm, Option.bind_some, pu_gd (by decide), if_neg (by decide), e26, pu_gd ⟨by omega, by omega⟩]
          by_cases c0 : m 2 u = 0
          · -- an entry
            have hcE : c_LE m (c_k w m u i) := c_LT_E k1 (by omega)
            obtain ⟨q1, q2, q3⟩ := hse _ hcE
            have hlt := c_LE_lt hP hcE
            refine ⟨c_k w m u i, r1, (u, i + 1) :: S, ?_, hh1, hj1, ⟨by rw [h241]; simp, hv1⟩, 0, ?_, by rw [r1h 23 (by decide)]; simp⟩
            · rw [if_pos c0, pu_gd ⟨by omega, by omega⟩, if_neg (by omega), hh1 24 (by decide) (by decide) (by decide), q2]
            · rw [hst, c0]
              show v_nx (v_ev w m q 0 u i ++ v_st w m q S) = _
              rw [v_ev0 (by omega), if_pos (r_mtb_t.mpr cm), List.singleton_append, List.cons_append, v_nx_pos hlt.1]
              have : v_st w m q ((u, i + 1) :: S) = v_ev w m q (m 2 u).toNat u (i + 1) ++ v_st w m q S := rfl
              rw [this, c0]
              rfl
          · -- a node
            have hcN : c_LN m (c_k w m u i) := c_LT_N k1 (by omega)
            obtain ⟨⟨y1, y2, y3⟩, -⟩ := hsn _ hcN
            have e1 : vl_up r1 35 (r1 23 24) (φ (c_k w m u i)) 23 24 = r1 23 24 := by rw [up_h _ _ _ (by decide)]
            have e2 : vl_up (vl_up r1 35 (r1 23 24) (φ (c_k w m u i))) 36 (r1 23 24) 0 23 24 = r1 23 24 := by rw [up_h _ _ _ (by decide), up_h _ _ _ (by decide)]
            have e3 : vl_up (vl_up (vl_up r1 35 (r1 23 24) (φ (c_k w m u i))) 36 (r1 23 24) 0) 23 24 (r1 23 24 + 1) 23 26 = rr 23 26 := by rw [up_i _ _ (by decide), up_h _ _ _ (by decide), up_h _ _ _ (by decide), r1h 23 (by decide)]
            generalize hr2 : vl_up (vl_up (vl_up (vl_up r1 35 (r1 23 24) (φ (c_k w m u i))) 36 (r1 23 24) 0) 23 24 (r1 23 24 + 1)) 23 26 (rr 23 26 + 1) = r2
            have hent : fn_X8_enter r1 (φ (c_k w m u i)) = some r2 := by
              unfold fn_X8_enter
              rw [pu_gd ⟨by omega, by omega⟩, pu_lt, e1, pu_gd ⟨by omega, by omega⟩, pu_lt, e2, pu_lt, e3, pu_lt, hr2]
            have r2h : ∀ h : Nat, h ≠ 23 → h ≠ 35 → h ≠ 36 → r2 h = r1 h := fun h x y z => by rw [← hr2, up_h _ _ _ x, up_h _ _ _ x, up_h _ _ _ z, up_h _ _ _ y]
            have r2j : ∀ j, j ≠ 24 → j ≠ 26 → r2 23 j = r1 23 j := fun j x y => by rw [← hr2, up_i _ _ y, up_i _ _ x, up_h _ _ _ (by decide), up_h _ _ _ (by decide)]
            have r224 : r2 23 24 = (S.length : Int) + 2 := by rw [← hr2, up_i _ _ (by decide), up_s, h241]; omega
            have r226 : r2 23 26 = rr 23 26 + 1 := by rw [← hr2, up_s]
            have r235 : ∀ j, j ≠ (S.length : Int) + 1 → r2 35 j = r1 35 j := fun j x => by rw [← hr2, up_h _ _ _ (by decide), up_h _ _ _ (by decide), up_h _ _ _ (by decide), h241, up_i _ _ x]
            have r235s : r2 35 ((S.length : Int) + 1) = φ (c_k w m u i) := by rw [← hr2, up_h _ _ _ (by decide), up_h _ _ _ (by decide), up_h _ _ _ (by decide), h241, up_s]
            have r236 : ∀ j, j ≠ (S.length : Int) + 1 → r2 36 j = r1 36 j := fun j x => by rw [← hr2, up_h _ _ _ (by decide), up_h _ _ _ (by decide), h241, up_i _ _ x, up_h _ _ _ (by decide)]
            have r236s : r2 36 ((S.length : Int) + 1) = 0 := by rw [← hr2, up_h _ _ _ (by decide), up_h _ _ _ (by decide), h241, up_s]
            have hlS : (((u, i + 1) :: S).length : Int) = (S.length : Int) + 1 := by simp
            have hv2 : v_R m r2 φ ((c_k w m u i, 0) :: (u, i + 1) :: S) := by
              refine ⟨⟨by rw [hlS]; exact r235s, by rw [hlS]; exact r236s⟩, ⟨hcN, Int.le_refl _, (hK _ hcN).1.2.1⟩, fun b hb => ?_, v_R_cg _ (fun j j1 j2 => ⟨r235 j (by omega), r236 j (by omega)⟩) hv1⟩
              rcases List.mem_cons.mp hb with z | z
              · rw [z]; show m 2 (c_k w m u i) < m 2 u; omega
              · have := c b z
                show m 2 (c_k w m u i) < m 2 b.1
                omega
            have hmu2 : v_mu m ((c_k w m u i, 0) :: (u, i + 1) :: S) = 11 * 12 ^ ((m 2 (c_k w m u i)).toNat + 1) + 1 + ((11 - (i + 1)).toNat * 12 ^ ((m 2 u).toNat + 1) + 1 + v_mu m S) := rfl
            have hpw : 12 ^ ((m 2 u).toNat + 1) = 12 * 12 ^ ((m 2 (c_k w m u i)).toNat + 1) := by
              rw [show (m 2 u).toNat + 1 = ((m 2 (c_k w m u i)).toNat + 1) + 1 by omega, Nat.pow_succ, Nat.mul_comm]
            have hp3 : 12 ^ ((m 2 (c_k w m u i)).toNat + 1) ≥ 12 := by
              calc 12 ^ ((m 2 (c_k w m u i)).toNat + 1) ≥ 12 ^ 1 := Nat.pow_le_pow_right (by decide) (by omega)
                _ = 12 := by decide
            obtain ⟨e, rr', S', s1, s2, s3, s4, k, s5, s6⟩ := ih fu ((c_k w m u i, 0) :: (u, i + 1) :: S) r2 (by rw [hmu2]; rw [hmu, hmul] at hM; omega) (by omega) (fun h x y z => by rw [r2h h x y z, hh1 h x y z]) (fun j x y => by rw [r2j j x y, hj1 j x y]) (by rw [r224]; simp; omega) hv2
            refine ⟨e, rr', S', ?_, s2, s3, s4, k + 1, ?_, by rw [s6, r226]; omega⟩
            · rw [if_neg c0, hent, Option.bind_some, s1]
            · have hlev : (m 2 u).toNat = (m 2 (c_k w m u i)).toNat + 1 := by omega
              rw [hst, hlev, v_evS (by omega), if_pos (r_mtb_t.mpr cm), List.append_assoc, List.cons_append, v_nx_neg]
              have : v_ev w m q (m 2 (c_k w m u i)).toNat (c_k w m u i) 0 ++ (v_ev w m q ((m 2 (c_k w m u i)).toNat + 1) u (i + 1) ++ v_st w m q S) = v_st w m q ((c_k w m u i, 0) :: (u, i + 1) :: S) := by
                rw [← hlev]; rfl
              rw [this, s5]
        · rw [m2 cm, Option.bind_some, pu_gd (by decide), if_pos rfl]
          obtain ⟨e, rr', S', s1, s2, s3, s4, k, s5, s6⟩ := ih fu ((u, i + 1) :: S) r1 (by rw [hmu1]; rw [hmu, hmul] at hM; omega) (by omega) hh1 hj1 (by rw [h241]; simp) hv1
          refine ⟨e, rr', S', s1, s2, s3, s4, k, ?_, by rw [s6, r1h 23 (by decide)]⟩
          have e1 : v_st w m q ((u, i) :: S) = v_st w m q ((u, i + 1) :: S) := by
            have e2 : v_st w m q ((u, i + 1) :: S) = v_ev w m q (m 2 u).toNat u (i + 1) ++ v_st w m q S := rfl
            rw [hst, e2]
            congr 1
            by_cases c0 : m 2 u = 0
            · rw [c0]
              show v_ev w m q 0 u i = v_ev w m q 0 u (i + 1)
              rw [v_ev0 (by omega), if_neg (fun z => cm (r_mtb_t.mp z))]; rfl
            · obtain ⟨l, hl⟩ : ∃ l : Nat, (m 2 u).toNat = l + 1 := ⟨(m 2 u).toNat - 1, by omega⟩
              rw [hl, v_evS (by omega), if_neg (fun z => cm (r_mtb_t.mp z))]; rfl
          rw [e1]; exact s5
