/-! ===== PURE, 35: taking an entry out, in both ===== -/
/-- those that wait are put again -/
theorem q_reput {w N : Nat} {H : List Int} {κ : Int → vl_M → Option vl_M} {κ' : Int → vl_M → Option (Int × vl_M)} (hN : 100000 ≤ N) (hnd : H.Nodup) (hlen : (H.length : Int) ≤ 32) : ∀ (n : Nat) (i fu fu' : Nat) (m r : vl_M) (φ : Int → Int), i + n = H.length → n < fu → n < fu' → q_I w m r φ (fun x => x ∈ H.drop i) (-1) → q_Z m (-1) (-1) → q_H m r φ H → (∀ x, x ∈ H → c_LT m x) → (∀ x, x ∈ H → m 2 x < m 2 (m 11 6)) →
    ∃ m' r' ψ, fn_X5_take_L38 w N κ fu (i : Int) m = κ (H.length : Int) m' ∧ fn_X8_remove_L243 N κ' fu' (i : Int) r = κ' (H.length : Int) r' ∧ q_I w m' r' ψ (fun _ => False) (-1) ∧ q_Z m' (-1) (-1) ∧ q_F (10 * (n : Int)) m m' r r' φ ψ := by
  intro n
  induction n with
  | zero =>
    intro i fu fu' m r φ hi f1 f2 h hZ hH hLT hl
    obtain ⟨fu, rfl⟩ : ∃ x, fu = x + 1 := ⟨fu - 1, by omega⟩
    obtain ⟨fu', rfl⟩ : ∃ x, fu' = x + 1 := ⟨fu' - 1, by omega⟩
    obtain ⟨⟨hH1, hH2⟩, hH3⟩ := hH
    have e : H.drop i = [] := List.drop_eq_nil_of_le (by omega)
    have eX : (fun x => x ∈ H.drop i) = (fun _ => False) := funext fun x => propext (by rw [e]; exact ⟨fun z => (List.not_mem_nil z).elim, fun z => z.elim⟩)
    rw [eX] at h
    have ei : (i : Int) = (H.length : Int) := by omega
    refine ⟨m, r, φ, ?_, ?_, h, hZ, q_F_mono (q_F_refl m r φ) (by omega)⟩
    · rw [fn_X5_take_L38, pu_gd ⟨by omega, by omega⟩, pu_gd ⟨by omega, by omega⟩, if_neg (by omega), ei]
    · rw [fn_X8_remove_L243, pu_gd ⟨by omega, by omega⟩, pu_gd ⟨by omega, by omega⟩, if_neg (by omega), ei]
  | succ n ih =>
    intro i fu fu' m r φ hi f1 f2 h hZ hH hLT hl
    obtain ⟨fu, rfl⟩ : ∃ x, fu = x + 1 := ⟨fu - 1, by omega⟩
    obtain ⟨fu', rfl⟩ : ∃ x, fu' = x + 1 := ⟨fu' - 1, by omega⟩
    obtain ⟨⟨hH1, hH2⟩, hH3⟩ := id hH
    have hil : i < H.length := by omega
    have hgx : H[i]? = some H[i] := List.getElem?_eq_getElem hil
    obtain ⟨y1, y2, y3⟩ := hH3 i _ hgx
    have edrop : H.drop i = H[i] :: H.drop (i + 1) := List.drop_eq_getElem_cons hil
    have hx : H[i] ∈ H.drop i := by rw [edrop]; exact List.mem_cons_self
    have hxH : H[i] ∈ H := List.getElem_mem hil
    obtain ⟨m1, r1, ψ, g1, g2, g3, ⟨g4, -⟩, g5⟩ := q_put (t := H[i]) hN h hZ hx (hl _ hxH)
    have hnd' : (H[i] :: H.drop (i + 1)).Nodup := by rw [← edrop]; exact List.Nodup.sublist (List.drop_sublist i H) hnd
    have eX : (fun x => x ∈ H.drop i ∧ x ≠ H[i]) = (fun x => x ∈ H.drop (i + 1)) := funext fun x => propext (by
      rw [edrop]
      constructor
      · rintro ⟨a, b⟩
        exact (List.mem_cons.mp a).resolve_left b
      · intro a
        exact ⟨List.mem_cons_of_mem _ a, fun z => (List.nodup_cons.mp hnd').1 (by rw [← z]; exact a)⟩)
    rw [eX] at g3
    have hP := h.1.1
    have hLE := q_F_LE g5 hP
    obtain ⟨⟨a1, a2, a3⟩, ⟨a4, a5⟩, ⟨a6, a7, a8⟩, a9, a10⟩ := id g5
    have hst : ∀ x, c_LT m x → c_LT m1 x ∧ m1 2 x = m 2 x ∧ ψ x = φ x := fun x hx => by
      rcases hx with hx | hx
      · have := c_LE_lt hP hx
        obtain ⟨q1, q2, q3⟩ := a4 x (Or.inl this.2)
        exact ⟨Or.inl ((hLE x).mpr hx), q1, q3⟩
      · obtain ⟨q1, q2, q3⟩ := a5 x hx
        exact ⟨Or.inr q1, q2, q3⟩
    have hHx : q_H m1 r1 ψ H := by
      refine ⟨⟨by rw [a3 3 (by decide) (by decide)]; exact hH1, by rw [a10 17 (by decide) (by decide)]; exact hH2⟩, fun k x hx => ?_⟩
      obtain ⟨q1, q2, q3⟩ := hst x (hLT x (List.mem_of_getElem? hx))
      obtain ⟨w1, w2, w3⟩ := hH3 k x hx
      rw [a1 12 (by omega), a9 31 (by omega), a9 32 (by omega), q2, q3]
      exact ⟨w1, w2, w3⟩
    obtain ⟨m', r', χ, s1, s2, s3, s4, s5⟩ := ih (i + 1) fu fu' m1 r1 ψ (by omega) (by omega) (by omega) g3 g4 hHx (fun x hx => (hst x (hLT x hx)).1) (fun x hx => by
      rw [(hst x (hLT x hx)).2.1]
      have := hl x hx
      omega)
    refine ⟨m', r', χ, ?_, ?_, s3, s4, q_F_mono (q_F_trans g5 s5) (by omega)⟩
    · rw [fn_X5_take_L38, pu_gd ⟨by omega, by omega⟩, pu_gd ⟨by omega, by omega⟩, if_pos (by omega), pu_gd ⟨by omega, by omega⟩, y1, g1, Option.bind_some, pu_lt]
      have : ((i : Int) + 1) = ((i + 1 : Nat) : Int) := by omega
      rw [this, s1]
    · rw [fn_X8_remove_L243, pu_gd ⟨by omega, by omega⟩, pu_gd ⟨by omega, by omega⟩, if_pos (by omega), pu_gd ⟨by omega, by omega⟩, y2, y3, g2, Option.bind_some, pu_lt]
      have : ((i : Int) + 1) = ((i + 1 : Nat) : Int) := by omega
      rw [this, s2]
/-- what stays while the root is lowered -/
def q_Fl (m m' r r' : vl_M) : Prop :=
  ((∀ h : Nat, (h = 0 ∨ (3 ≤ h ∧ h ≤ 7) ∨ 9 ≤ h) → h ≠ 11 → m' h = m h) ∧ (∀ j, j ≠ 16 → m' 1 j = m 1 j) ∧ (∀ j, j ≠ 6 → m' 11 j = m 11 j)) ∧
  (∀ u, (u < 400 ∨ 804 ≤ u) → m' 2 u = m 2 u) ∧
  ((∀ h : Nat, h ≠ 23 → h ≠ 26 → h ≠ 30 → r' h = r h) ∧ (∀ j, j ≠ 11 → r' 23 j = r 23 j))
theorem q_Fl_trans {m m' m'' r r' r'' : vl_M} (h : q_Fl m m' r r') (g : q_Fl m' m'' r' r'') : q_Fl m m'' r r'' := by
  obtain ⟨⟨a1, a2, a3⟩, a4, a8, a9⟩ := h
  obtain ⟨⟨b1, b2, b3⟩, b4, b8, b9⟩ := g
  exact ⟨⟨fun h x y => by rw [b1 h x y, a1 h x y], fun j x => by rw [b2 j x, a2 j x], fun j x => by rw [b3 j x, a3 j x]⟩, fun u x => by rw [b4 u x, a4 u x], fun h x y z => by rw [b8 h x y z, a8 h x y z], fun j x => by rw [b9 j x, a9 j x]⟩
theorem q_lowerL {w N : Nat} {φ : Int → Int} {κ : Int → vl_M → Option vl_M} {κ' : vl_M → Option (Int × vl_M)} (hN : 100000 ≤ N) : ∀ (n : Nat) (fu fu' : Nat) (v : Int) (m r : vl_M), m 2 (m 11 6) ≤ (n : Int) → 0 ≤ v → v + (n : Int) < 40 → n < fu → n < fu' → q_I w m r φ (fun _ => False) (-1) → q_Z m (-1) (-1) →
    ∃ m' r' z, fn_X5_lowerRoot_L2 w N κ fu v m = κ z m' ∧ fn_X8_remove_L276 N κ' fu' r = κ' r' ∧ q_I w m' r' φ (fun _ => False) (-1) ∧ (q_Z m' (-1) (-1) ∧ q_W m') ∧ q_Fl m m' r r' := by
  intro n
  induction n with
  | zero =>
    intro fu fu' v m r hl v1 v2 f1 f2 h hZ
    obtain ⟨⟨hP, hK, hA, hR⟩, ⟨hE, hS⟩, hT, ⟨hsn, hsi, hso, hse⟩, hrr⟩ := id h
    obtain ⟨fu, rfl⟩ : ∃ x, fu = x + 1 := ⟨fu - 1, by omega⟩
    obtain ⟨fu', rfl⟩ : ∃ x, fu' = x + 1 := ⟨fu' - 1, by omega⟩
    have hnd := c_LN_nd hP hR.1.1
    have hl0 := hR.1.1.2
    obtain ⟨⟨b1, b2, b3⟩, -⟩ := hsn _ hR.1.1
    refine ⟨m, r, v, ?_, ?_, h, ⟨hZ, fun z => by omega⟩, ⟨⟨fun _ _ _ => rfl, fun _ _ => rfl, fun _ _ => rfl⟩, fun _ _ => rfl, fun _ _ _ _ => rfl, fun _ _ => rfl⟩⟩
    · rw [fn_X5_lowerRoot_L2, pu_gd ⟨by omega, by omega⟩, if_pos (by omega), pu_gd ⟨by omega, by omega⟩, pu_gd ⟨by omega, by omega⟩, if_neg (by omega)]
    · rw [fn_X8_remove_L276, hrr.1, pu_gd b1, b2, pu_gd ⟨by omega, by omega⟩, if_neg (by omega)]
  | succ n ih =>
    intro fu fu' v m r hl v1 v2 f1 f2 h hZ
    obtain ⟨⟨hP, hK, hA, hR⟩, ⟨hE, hS⟩, hT, ⟨hsn, hsi, hso, hse⟩, hrr⟩ := id h
    have hw11 : w ≤ 11 := hP.1.2
    have hw5 : 5 ≤ w := hP.1.1
    have hpl := hP.2.2.1
    obtain ⟨fu, rfl⟩ : ∃ x, fu = x + 1 := ⟨fu - 1, by omega⟩
    obtain ⟨fu', rfl⟩ : ∃ x, fu' = x + 1 := ⟨fu' - 1, by omega⟩
    have hnd := c_LN_nd hP hR.1.1
    have hl0 := hR.1.1.2
    have hsz := (hK _ hR.1.1).1.2
    obtain ⟨⟨b1, b2, b3⟩, b4, -⟩ := hsn _ hR.1.1
    by_cases c1 : 0 < m 2 (m 11 6)
    · by_cases c2 : m 9 (m 11 6) = 1
      · obtain ⟨⟨k1, k2⟩, ⟨k3, k4, k5⟩, -⟩ := (hK _ hR.1.1).2 0 (by omega) (by omega)
        have hq := q_lower h c1 c2 rfl
        have hbL : c_LN m (c_k w m (m 11 6) 0) := c_LT_N k1 (by omega)
        have hbnd := c_LN_nd hP hbL
        have hφb := (hsn _ hbL).1.1
        have ek0 : d_k r (φ (m 11 6)) 0 = φ (c_k w m (m 11 6) 0) := b4 0 (by omega) (by omega)
        generalize hb : c_k w m (m 11 6) 0 = b at *
        generalize hm1 : vl_up (vl_up (c_fren m (m 11 6)) 8 b (-1)) 11 6 b = m1 at *
        generalize hr1 : vl_up (vl_up (vl_up r 26 (φ (m 11 6)) (-2)) 23 11 (φ b)) 30 (φ b) (-2) = r1 at *
        have m1h : ∀ h : Nat, h ≠ 1 → h ≠ 2 → h ≠ 8 → h ≠ 11 → m1 h = m h := fun h x y z t => by rw [← hm1, up_h _ _ _ t, up_h _ _ _ z, c_fren_h _ _ x y z]
        have m1_1 : ∀ j, j ≠ 16 → m1 1 j = m 1 j := fun j x => by rw [← hm1, up_h _ _ _ (by decide), up_h _ _ _ (by decide), c_fren_1 _ _ x]
        have m1_2 : ∀ x, m1 2 x = if x = m 11 6 then -2 else m 2 x := fun x => by rw [← hm1, up_h _ _ _ (by decide), up_h _ _ _ (by decide), c_fren_2]
        have m1_6 : m1 11 6 = b := by rw [← hm1, up_s]
        have m1_11 : ∀ j, j ≠ 6 → m1 11 j = m 11 j := fun j x => by rw [← hm1, up_i _ _ x, up_h _ _ _ (by decide), c_fren_h _ _ (by decide) (by decide) (by decide)]
        have m1LN : ∀ x, c_LN m1 x → c_LN m x ∧ x ≠ m 11 6 := fun x hx => by
          obtain ⟨y1, y2⟩ := hx
          rw [m1_1 15 (by decide)] at y1
          rw [m1_2] at y2
          by_cases c : x = m 11 6
          · rw [if_pos c] at y2; omega
          · rw [if_neg c] at y2; exact ⟨⟨y1, y2⟩, c⟩
        have e9 := m1h 9 (by decide) (by decide) (by decide) (by decide)
        have hZ1 : q_Z m1 (-1) (-1) := by
          unfold q_Z
          rw [m1_6, m1_1 1 (by decide), m1_1 0 (by decide), e9]
          refine ⟨fun s hs => ?_, fun _ => ?_⟩
          · obtain ⟨y1, y2⟩ := m1LN s hs
            exact ⟨fun _ z => (hZ.1 s y1).1 y2 z, (hZ.1 s y1).2⟩
          · have := (hZ.1 b hbL).1 k5 (by omega)
            omega
        obtain ⟨m', r', z, s1, s2, s3, s4, s5⟩ := ih fu fu' (v + 1) m1 r1 (by rw [m1_6, m1_2, if_neg k5]; omega) (by omega) (by omega) (by omega) (by omega) hq hZ1
        refine ⟨m', r', z, ?_, ?_, s3, s4, q_Fl_trans ⟨⟨fun h x y => m1h h (by omega) (by omega) (by omega) y, m1_1, m1_11⟩, fun u x => by rw [m1_2, if_neg (by omega)], fun h x y z => by rw [← hr1, up_h _ _ _ z, up_h _ _ _ x, up_h _ _ _ y], fun j x => by rw [← hr1, up_h _ _ _ (by decide), up_i _ _ x, up_h _ _ _ (by decide)]⟩ s5⟩
        · rw [fn_X5_lowerRoot_L2, pu_gd ⟨by omega, by omega⟩, if_pos (by omega), pu_gd ⟨by omega, by omega⟩, pu_gd ⟨by omega, by omega⟩, if_pos c1, pu_gd ⟨by omega, by omega⟩, if_pos c2, c_thing (N := N) ⟨hw5, hw11, hN, hP.2.1.1⟩ hnd ⟨by omega, by omega⟩, Option.bind_some, hb, c_freeNode ⟨by omega, by omega⟩, Option.bind_some, pu_gd ⟨by omega, by omega⟩, pu_lt, pu_lt, hm1, pu_lt, s1]
        · have e11 : vl_up (vl_up r 26 (φ (m 11 6)) (-2)) 23 11 (φ b) 23 11 = φ b := up_s _ _ _ _
          rw [fn_X8_remove_L276, hrr.1, pu_gd b1, b2, pu_gd ⟨by omega, by omega⟩, if_pos c1, b3, pu_gd ⟨by omega, by omega⟩, if_pos c2, d_held b1 ⟨by omega, by omega⟩, Option.bind_some, ek0, pu_lt, pu_lt, e11, pu_gd hφb, pu_lt, hr1, s2]
      · refine ⟨m, r, v, ?_, ?_, h, ⟨hZ, fun z => by have := hZ.2 z; omega⟩, ⟨⟨fun _ _ _ => rfl, fun _ _ => rfl, fun _ _ => rfl⟩, fun _ _ => rfl, fun _ _ _ _ => rfl, fun _ _ => rfl⟩⟩
        · rw [fn_X5_lowerRoot_L2, pu_gd ⟨by omega, by omega⟩, if_pos (by omega), pu_gd ⟨by omega, by omega⟩, pu_gd ⟨by omega, by omega⟩, if_pos c1, pu_gd ⟨by omega, by omega⟩, if_neg c2]
        · rw [fn_X8_remove_L276, hrr.1, pu_gd b1, b2, pu_gd ⟨by omega, by omega⟩, if_pos c1, b3, pu_gd ⟨by omega, by omega⟩, if_neg c2]
    · refine ⟨m, r, v, ?_, ?_, h, ⟨hZ, fun z => absurd z c1⟩, ⟨⟨fun _ _ _ => rfl, fun _ _ => rfl, fun _ _ => rfl⟩, fun _ _ => rfl, fun _ _ _ _ => rfl, fun _ _ => rfl⟩⟩
      · rw [fn_X5_lowerRoot_L2, pu_gd ⟨by omega, by omega⟩, if_pos (by omega), pu_gd ⟨by omega, by omega⟩, pu_gd ⟨by omega, by omega⟩, if_neg c1]
      · rw [fn_X8_remove_L276, hrr.1, pu_gd b1, b2, pu_gd ⟨by omega, by omega⟩, if_neg c1]
