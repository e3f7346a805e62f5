/-! ===== PURE, 39: what a window still shows; the class's way ===== -/
def r_mtb (a b : pR) : Bool := decide ((a.1 ≤ b.2.2.1 ∧ b.1 ≤ a.2.2.1) ∧ (a.2.1 ≤ b.2.2.2 ∧ b.2.1 ≤ a.2.2.2))
theorem r_mtb_t {a b : pR} : r_mtb a b = true ↔ r_mt a b := by unfold r_mtb r_mt; exact decide_eq_true_iff
theorem r_mtb_f {a b : pR} : r_mtb a b = false ↔ ¬ r_mt a b := by unfold r_mtb r_mt; exact decide_eq_false_iff_not
/-- what follows in u, of level n, from its index i on: -1 a node that is read, else an entry -/
def v_ev (w : Nat) (m : vl_M) (q : pR) : Nat → Int → Int → List Int
  | 0, u, i => ((pu_seq (m 9 u - i).toNat i).map (c_k w m u)).filter (fun c => r_mtb (c_rt m c) q)
  | n + 1, u, i => ((pu_seq (m 9 u - i).toNat i).map (c_k w m u)).flatMap (fun c => if r_mtb (c_rt m c) q = true then -1 :: v_ev w m q n c 0 else [])
def v_cl (w : Nat) (m : vl_M) (q : pR) (x : Int) : List Int := if x = m 11 6 ∨ r_mtb (c_rt m x) q = true then -1 :: (if m 2 x = 0 then v_ev w m q 0 x 0 else []) else []
def v_rc (w : Nat) (m : vl_M) (q : pR) (lf ix nu : Int) : List Int := (if lf = -1 then [] else v_ev w m q 0 lf ix) ++ ((c_ord w m).drop nu.toNat).flatMap (v_cl w m q)
def v_nx : List Int → Int × Nat × List Int
  | [] => (-1, 0, [])
  | a :: t => if a < 0 then ((v_nx t).1, (v_nx t).2.1 + 1, (v_nx t).2.2) else (a, 0, t)
theorem v_nx_neg (t : List Int) : v_nx (-1 :: t) = ((v_nx t).1, (v_nx t).2.1 + 1, (v_nx t).2.2) := if_pos (by decide)
theorem v_nx_pos {a : Int} (h : 0 ≤ a) (t : List Int) : v_nx (a :: t) = (a, 0, t) := if_neg (by omega)
/-- what is held lies inside -/
theorem q_inside {w : Nat} {m r : vl_M} {φ : Int → Int} {a : Int} (hT : q_T w m r φ a) {u i : Int} {q : pR} (hu : c_LN m u) (hua : u ≠ a) (hi : 0 ≤ i ∧ i < m 9 u) (h : r_mt (c_rt m (c_k w m u i)) q) : r_mt (c_rt m u) q := by
  obtain ⟨-, h0, -⟩ := hT u hu hua (by omega)
  have := h0 _ ⟨i, hi.1, hi.2, rfl⟩
  unfold r_mt at h ⊢
  omega
theorem v_skip {w : Nat} {m r : vl_M} {φ : Int → Int} {X : Int → Prop} {a : Int} {q : pR} (hK : s_K w m X) (hT : q_T w m r φ a) (ha : a < 0) : ∀ (n : Nat) (x : Int), c_LN m x → m 2 x = (n : Int) → x ≠ m 11 6 → ¬ r_mt (c_rt m x) q → (c_pre w m n x).flatMap (v_cl w m q) = [] := by
  intro n
  induction n with
  | zero =>
    intro x hx hl hr hm
    show [x].flatMap (v_cl w m q) = []
    rw [List.flatMap_cons, List.flatMap_nil]
    unfold v_cl
    rw [if_neg (fun z => z.elim hr (fun y => hm (r_mtb_t.mp y)))]
    rfl
  | succ n ih =>
    intro x hx hl hr hm
    show (x :: (c_kids w m x).flatMap (c_pre w m n)).flatMap (v_cl w m q) = []
    rw [List.flatMap_cons, List.flatMap_assoc]
    have e1 : v_cl w m q x = [] := by
      unfold v_cl
      rw [if_neg (fun z => z.elim hr (fun y => hm (r_mtb_t.mp y)))]
    rw [e1, List.nil_append]
    refine List.flatMap_eq_nil_iff.mpr (fun c hc => ?_)
    obtain ⟨k1, k2, k3, k4⟩ := c_kid_LN hK hx (by omega) hc
    obtain ⟨i, i1, i2, e⟩ := c_kids_mem.mp hc
    refine ih c k1 (by omega) k4 (fun z => hm ?_)
    rw [← e] at z
    exact q_inside hT hx (by have := hx.1; omega) ⟨i1, i2⟩ z
theorem pu_flatMap_congr {f g : Int → List Int} : ∀ (l : List Int), (∀ x, x ∈ l → f x = g x) → l.flatMap f = l.flatMap g := by
  intro l
  induction l with
  | nil => intro _; rfl
  | cons a t ih =>
    intro h
    rw [List.flatMap_cons, List.flatMap_cons, h a List.mem_cons_self, ih (fun x hx => h x (List.mem_cons_of_mem _ hx))]
theorem v_flat {w : Nat} {m r : vl_M} {φ : Int → Int} {X : Int → Prop} {a : Int} {q : pR} (hK : s_K w m X) (hT : q_T w m r φ a) (ha : a < 0) : ∀ (n : Nat) (x : Int), c_LN m x → m 2 x = (n : Int) → (x = m 11 6 ∨ r_mt (c_rt m x) q) → (c_pre w m n x).flatMap (v_cl w m q) = -1 :: v_ev w m q n x 0 := by
  intro n
  induction n with
  | zero =>
    intro x hx hl hr
    show [x].flatMap (v_cl w m q) = _
    rw [List.flatMap_cons, List.flatMap_nil, List.append_nil]
    unfold v_cl
    rw [if_pos (hr.imp id r_mtb_t.mpr), if_pos (by rw [hl]; rfl)]
  | succ n ih =>
    intro x hx hl hr
    show (x :: (c_kids w m x).flatMap (c_pre w m n)).flatMap (v_cl w m q) = _
    rw [List.flatMap_cons, List.flatMap_assoc]
    have e1 : v_cl w m q x = [-1] := by
      unfold v_cl
      rw [if_pos (hr.imp id r_mtb_t.mpr), if_neg (by omega)]
    rw [e1]
    show -1 :: (c_kids w m x).flatMap _ = -1 :: ((pu_seq (m 9 x - 0).toNat 0).map (c_k w m x)).flatMap (fun c => if r_mtb (c_rt m c) q = true then -1 :: v_ev w m q n c 0 else [])
    rw [show m 9 x - 0 = m 9 x by omega]
    congr 1
    refine pu_flatMap_congr _ (fun c hc => ?_)
    obtain ⟨k1, k2, k3, k4⟩ := c_kid_LN hK hx (by omega) hc
    by_cases cm : r_mt (c_rt m c) q
    · rw [if_pos (r_mtb_t.mpr cm)]
      exact ih c k1 (by omega) (Or.inr cm)
    · rw [if_neg (fun z => cm (r_mtb_t.mp z))]
      exact v_skip hK hT ha n c k1 (by omega) k4 cm
/-- the sane state of the class's way -/
def v_S (w : Nat) (m : vl_M) (lf ix nu : Int) : Prop := (0 ≤ nu ∧ nu ≤ ((c_ord w m).length : Int)) ∧ (lf = -1 ∨ (c_LN m lf ∧ m 2 lf = 0 ∧ 0 ≤ ix ∧ ix ≤ m 9 lf))
theorem v_ev0 {w : Nat} {m : vl_M} {q : pR} {u i : Int} (h : i < m 9 u) : v_ev w m q 0 u i = (if r_mtb (c_rt m (c_k w m u i)) q = true then [c_k w m u i] else []) ++ v_ev w m q 0 u (i + 1) := by
  obtain ⟨k, hk⟩ : ∃ k : Nat, (m 9 u - i).toNat = k + 1 := ⟨(m 9 u - i).toNat - 1, by omega⟩
  have e : v_ev w m q 0 u i = ((pu_seq (m 9 u - i).toNat i).map (c_k w m u)).filter (fun c => r_mtb (c_rt m c) q) := rfl
  have e2 : v_ev w m q 0 u (i + 1) = ((pu_seq (m 9 u - (i + 1)).toNat (i + 1)).map (c_k w m u)).filter (fun c => r_mtb (c_rt m c) q) := rfl
  rw [e, e2, hk, show (m 9 u - (i + 1)).toNat = k by omega, pu_seq_cons, List.map_cons]
  by_cases c : r_mtb (c_rt m (c_k w m u i)) q = true
  · rw [if_pos c, List.filter_cons_of_pos (p := fun c => r_mtb (c_rt m c) q) c]; rfl
  · rw [if_neg c, List.filter_cons_of_neg (p := fun c => r_mtb (c_rt m c) q) c]; rfl
theorem v_ev_nil {w : Nat} {m : vl_M} {q : pR} {u i : Int} (n : Nat) (h : m 9 u ≤ i) : v_ev w m q n u i = [] := by
  have : (m 9 u - i).toNat = 0 := by omega
  cases n with
  | zero => unfold v_ev; rw [this]; rfl
  | succ n => unfold v_ev; rw [this]; rfl
theorem c_nilL {w N : Nat} {m : vl_M} {q : pR} {lf : Int} {κ : vl_M → Option (Int × vl_M)} (hcw : c_w w N m) (hnd : c_nd lf) (hz : m 9 lf ≤ (w : Int)) (h4 : c_rt m 804 = q) (oq : r_ok q) (hk : ∀ i, 0 ≤ i → i < m 9 lf → c_in (c_k w m lf i) ∧ r_ok (c_rt m (c_k w m lf i))) : ∀ (n fu : Nat) (mm : vl_M), (∀ h : Nat, h ≠ 18 → mm h = m h) → mm 18 5 = lf → 0 ≤ mm 18 6 → mm 18 6 + (n : Int) = m 9 lf → n < fu →
    ∃ mm', (∀ h : Nat, h ≠ 18 → mm' h = m h) ∧ (∀ j, j ≠ 6 → mm' 18 j = mm 18 j) ∧ ((fn_X6_nextInLeaf_L10 w N κ fu mm = κ mm' ∧ v_ev w m q 0 lf (mm 18 6) = []) ∨ (∃ i, 0 ≤ i ∧ i < m 9 lf ∧ fn_X6_nextInLeaf_L10 w N κ fu mm = some (c_k w m lf i, mm') ∧ mm' 18 6 = i + 1 ∧ v_ev w m q 0 lf (mm 18 6) = c_k w m lf i :: v_ev w m q 0 lf (i + 1))) := by
  have hw11 := hcw.2.1
  intro n
  induction n with
  | zero =>
    intro fu mm hm h5 h6 h7 hf
    obtain ⟨fu, rfl⟩ : ∃ x, fu = x + 1 := ⟨fu - 1, by omega⟩
    refine ⟨mm, hm, fun _ _ => rfl, Or.inl ⟨?_, v_ev_nil 0 (by omega)⟩⟩
    rw [fn_X6_nextInLeaf_L10, h5, pu_gd ⟨by omega, by omega⟩, pu_gd ⟨by omega, by omega⟩, hm 9 (by decide), pu_gd ⟨by omega, by omega⟩, if_neg (by omega)]
  | succ n ih =>
    intro fu mm hm h5 h6 h7 hf
    obtain ⟨fu, rfl⟩ : ∃ x, fu = x + 1 := ⟨fu - 1, by omega⟩
    obtain ⟨k1, k2⟩ := hk (mm 18 6) h6 (by omega)
    have ek : c_k w mm lf (mm 18 6) = c_k w m lf (mm 18 6) := by unfold c_k; rw [hm 10 (by decide)]
    generalize hm1 : vl_up mm 18 6 (mm 18 6 + 1) = m1
    have m1h : ∀ h : Nat, h ≠ 18 → m1 h = m h := fun h x => by rw [← hm1, up_h _ _ _ x, hm h x]
    have m1j : ∀ j, j ≠ 6 → m1 18 j = mm 18 j := fun j x => by rw [← hm1, up_i _ _ x]
    have m16 : m1 18 6 = mm 18 6 + 1 := by rw [← hm1, up_s]
    have m1rt : ∀ u, c_rt m1 u = c_rt m u := fun u => c_rt_congr (m1h 3 (by decide)) (m1h 4 (by decide)) (m1h 5 (by decide)) (m1h 6 (by decide))
    obtain ⟨t1, t2⟩ := c_meet (m := m1) (a := c_k w m lf (mm 18 6)) (b := 804) k1 (by decide) (by rw [m1rt]; exact k2) (by rw [m1rt, h4]; exact oq)
    rw [m1rt, m1rt, h4] at t1 t2
    have hcwm : c_w w N mm := c_w_of hcw (hm 1 (by decide))
    by_cases c : r_mt (c_rt m (c_k w m lf (mm 18 6))) q
    · refine ⟨m1, m1h, m1j, Or.inr ⟨mm 18 6, h6, by omega, ?_, m16, ?_⟩⟩
      · rw [fn_X6_nextInLeaf_L10, h5, pu_gd ⟨by omega, by omega⟩, pu_gd ⟨by omega, by omega⟩, hm 9 (by decide), pu_gd ⟨by omega, by omega⟩, if_pos (by omega), c_thing hcwm hnd ⟨by omega, by omega⟩, Option.bind_some, pu_lt, ek, hm1, t1 c, Option.bind_some, pu_gd (by decide), if_neg (by decide)]
      · rw [v_ev0 (by omega), if_pos (r_mtb_t.mpr c)]; rfl
    · obtain ⟨mm', g1, g2, g3⟩ := ih fu m1 m1h (by rw [m1j 5 (by decide)]; exact h5) (by omega) (by omega) (by omega)
      have est : fn_X6_nextInLeaf_L10 w N κ (fu + 1) mm = fn_X6_nextInLeaf_L10 w N κ fu m1 := by
        rw [fn_X6_nextInLeaf_L10, h5, pu_gd ⟨by omega, by omega⟩, pu_gd ⟨by omega, by omega⟩, hm 9 (by decide), pu_gd ⟨by omega, by omega⟩, if_pos (by omega), c_thing hcwm hnd ⟨by omega, by omega⟩, Option.bind_some, pu_lt, ek, hm1, t2 c, Option.bind_some, pu_gd (by decide), if_pos rfl]
      have eev : v_ev w m q 0 lf (mm 18 6) = v_ev w m q 0 lf (m1 18 6) := by rw [v_ev0 (by omega), if_neg (fun z => c (r_mtb_t.mp z)), m16]; rfl
      refine ⟨mm', g1, fun j x => by rw [g2 j x, m1j j x], ?_⟩
      rw [est, eev]
      exact g3
/-- the next one in the leaf -/
theorem c_nil {w N : Nat} {m r : vl_M} {φ : Int → Int} {X : Int → Prop} {a : Int} {q : pR} (hN : 100000 ≤ N) (h : q_I w m r φ X a) (h4 : c_rt m 804 = q) (oq : r_ok q) {mm : vl_M} (hm : ∀ h : Nat, h ≠ 18 → mm h = m h) (hS : mm 18 5 = -1 ∨ (c_LN m (mm 18 5) ∧ m 2 (mm 18 5) = 0 ∧ 0 ≤ mm 18 6 ∧ mm 18 6 ≤ m 9 (mm 18 5))) :
    ∃ e mm', fn_X6_nextInLeaf w N mm = some (e, mm') ∧ (∀ h : Nat, h ≠ 18 → mm' h = m h) ∧ (∀ j, j ≠ 5 → j ≠ 6 → mm' 18 j = mm 18 j) ∧ ((e = -1 ∧ mm' 18 5 = -1 ∧ (mm 18 5 ≠ -1 → v_ev w m q 0 (mm 18 5) (mm 18 6) = [])) ∨ (c_LE m e ∧ (mm' 18 5 = mm 18 5 ∧ mm 18 5 ≠ -1 ∧ 0 ≤ mm' 18 6 ∧ mm' 18 6 ≤ m 9 (mm 18 5)) ∧ v_ev w m q 0 (mm 18 5) (mm 18 6) = e :: v_ev w m q 0 (mm 18 5) (mm' 18 6))) := by
  obtain ⟨⟨hP, hK, hA, hR⟩, ⟨hE, hS'⟩, hT, ⟨hsn, hsi, hso, hse⟩, hrr⟩ := h
  rcases hS with c | ⟨l1, l2, l3, l4⟩
  · refine ⟨-1, mm, ?_, hm, fun _ _ _ => rfl, Or.inl ⟨rfl, c, fun z => absurd c z⟩⟩
    unfold fn_X6_nextInLeaf
    rw [c, pu_gd (by decide), if_pos rfl]
  · have hnd := c_LN_nd hP l1
    have kE : ∀ i, 0 ≤ i → i < m 9 (mm 18 5) → c_LE m (c_k w m (mm 18 5) i) := fun i i1 i2 => by
      have := (hK _ l1).2 i i1 i2
      exact c_LT_E this.1.1 (by omega)
    have hz := (hK _ l1).1.2
    have hw11 := hP.1.2
    obtain ⟨mm', g1, g2, g3⟩ := c_nilL (N := N) (κ := fun (m3 : vl_M) => vl_lt (vl_up m3 18 5 (-1)) fun m4 => some ((-1), m4)) ⟨hP.1.1, hP.1.2, hN, hP.2.1.1⟩ hnd hz.2 h4 oq (fun i i1 i2 => ⟨c_LT_in hP (Or.inl (kE i i1 i2)), (hE _ (kE i i1 i2)).2⟩) (m 9 (mm 18 5) - mm 18 6).toNat N mm hm rfl l3 (by omega) (by omega)
    have hne : mm 18 5 ≠ -1 := by omega
    have ent : fn_X6_nextInLeaf w N mm = fn_X6_nextInLeaf_L10 w N (fun (m3 : vl_M) => vl_lt (vl_up m3 18 5 (-1)) fun m4 => some ((-1), m4)) N mm := by
      unfold fn_X6_nextInLeaf
      rw [pu_gd ⟨by omega, by omega⟩, if_neg hne]
    rcases g3 with ⟨g3, g4⟩ | ⟨i, i1, i2, g3, g4, g5⟩
    · refine ⟨-1, vl_up mm' 18 5 (-1), by rw [ent, g3, pu_lt], fun h x => by rw [up_h _ _ _ x, g1 h x], fun j x y => by rw [up_i _ _ x, g2 j y], Or.inl ⟨rfl, up_s _ _ _ _, fun _ => g4⟩⟩
    · refine ⟨c_k w m (mm 18 5) i, mm', by rw [ent, g3], g1, fun j x y => g2 j y, Or.inr ⟨kE i i1 i2, ⟨g2 5 (by decide), hne, by omega, by omega⟩, by rw [g4]; exact g5⟩⟩
theorem c_look {m : vl_M} {x : Int} {q : pR} (hx : c_nd x) (h4 : c_rt m 804 = q) (oq : r_ok q) (hl : vl_r32 (m 2 x)) (h6 : vl_r32 (m 11 6)) (ox : x ≠ m 11 6 → r_ok (c_rt m x)) {mm : vl_M} (hm : ∀ h : Nat, h ≠ 18 → mm h = m h) :
    fn_X6_lookAt mm x = some (if x = m 11 6 ∨ r_mtb (c_rt m x) q = true then (if m 2 x = 0 then vl_up (vl_up (vl_up mm 18 3 (mm 18 3 + 1)) 18 5 x) 18 6 0 else vl_up mm 18 3 (mm 18 3 + 1)) else mm) := by
  have tail : ∀ M : vl_M, (∀ h : Nat, h ≠ 18 → M h = m h) → (vl_gd (0 ≤ x ∧ x < 807) <| vl_gd (vl_r32 (M 2 x)) <| if M 2 x = 0 then vl_lt (vl_up M 18 5 x) fun m9 => vl_lt (vl_up m9 18 6 0) fun m10 => some m10 else some M) = some (if m 2 x = 0 then vl_up (vl_up M 18 5 x) 18 6 0 else M) := fun M hM => by
    rw [pu_gd ⟨by omega, by omega⟩, hM 2 (by decide), pu_gd hl]
    by_cases c : m 2 x = 0
    · rw [if_pos c, if_pos c]; rfl
    · rw [if_neg c, if_neg c]
  have t := tail (vl_up mm 18 3 (mm 18 3 + 1)) (fun h y => by rw [up_h _ _ _ y, hm h y])
  have e6 : mm 11 6 = m 11 6 := by rw [hm 11 (by decide)]
  unfold fn_X6_lookAt
  by_cases c : x = m 11 6
  · rw [if_pos (Or.inl c)]
    have hx32 : vl_r32 x := ⟨by omega, by omega⟩
    simp only [e6, pu_gd hx32, pu_gd h6, pu_jn, pu_lt, if_pos c] at *
    exact t
  · have mrt : ∀ u, c_rt mm u = c_rt m u := fun u => c_rt_congr (hm 3 (by decide)) (hm 4 (by decide)) (hm 5 (by decide)) (hm 6 (by decide))
    obtain ⟨t1, t2⟩ := c_meet (m := mm) (a := x) (b := 804) ⟨by omega, by omega⟩ (by decide) (by rw [mrt]; exact ox c) (by rw [mrt, h4]; exact oq)
    rw [mrt, mrt, h4] at t1 t2
    have hx32 : vl_r32 x := ⟨by omega, by omega⟩
    by_cases cm : r_mt (c_rt m x) q
    · rw [if_pos (Or.inr (r_mtb_t.mpr cm))]
      simp only [e6, pu_gd hx32, pu_gd h6, pu_jn, pu_lt, if_neg c, t1 cm, Option.bind_some] at *
      rw [pu_gd (by decide), if_neg (by decide)]
      exact t
    · rw [if_neg (fun z => z.elim c (fun y => cm (r_mtb_t.mp y)))]
      simp only [e6, pu_gd hx32, pu_gd h6, pu_jn, pu_lt, if_neg c, t2 cm, Option.bind_some] at *
      rw [pu_gd (by decide), if_pos trivial]
