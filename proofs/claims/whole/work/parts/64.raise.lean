/-! ===== PURE, 25: a new root ===== -/
theorem q_raise {w N : Nat} {m r : vl_M} {φ : Int → Int} {X : Int → Prop} {a0 s : Int} (hN : 100000 ≤ N) (h : q_I w m r φ X a0) (ha0 : a0 < 0) (hs : c_LN m s) (hw : m 9 s = (w : Int)) (hZ : q_Z m s (-1)) (hsr : s = m 11 6) :
    ∃ m' r' ψ, ((∀ (κ : Int → Int → vl_M → Option vl_M) (fu : Nat) (v : Int), 0 ≤ v → v < 40 → fn_X5_splitUpwards_L4 w N κ (fu + 1) s v m = fn_X5_splitUpwards_L4 w N κ fu (m' 8 s) (v + 1) m') ∧ fn_X8_split N r (φ s) = some r') ∧
      (q_I w m' r' ψ X (-1) ∧ q_Z m' (m' 8 s) (-1) ∧ q_F 1 m m' r r' φ ψ) ∧ (m' 8 s = m' 11 6 ∧ m' 9 (m' 11 6) = 2) := by
  obtain ⟨⟨hP, hK, hA, hR⟩, ⟨hE, hS⟩, hT, ⟨hsn, hsi, hso, hse⟩, hrr⟩ := id h
  have hw11 : w ≤ 11 := hP.1.2
  have hw5 : 5 ≤ w := hP.1.1
  have hpm : m 1 0 = (w : Int) - 1 := hP.2.1.2
  have hpl := hP.2.2.1
  obtain ⟨hZ1, hZ2⟩ := hZ
  have hge : ∀ t, c_LN m t → t ≠ m 11 6 → m 1 1 ≤ m 9 t := fun t ht hr => (hZ1 t ht).1 hr (by have := ht.1; omega)
  have h2 : ∀ t, c_LN m t → t ≠ m 11 6 → 2 ≤ m 9 t := fun t ht hr => by have := hge t ht hr; omega
  obtain ⟨fr, m3, ψ, r3, ⟨e1, e2, e3⟩, hq3, ⟨⟨f1, f1'⟩, f2, ⟨f3, f4⟩, f5⟩, ⟨⟨z1, z2, z3⟩, z4⟩, ⟨⟨t1, t2, t3⟩, t4, t5⟩, ⟨p1, p2, p3, p4⟩, hF⟩ := q_halve hN h ha0 hs hw h2
  have hm8 : m 8 s = -1 := by rw [hsr]; exact hR.1.2
  rw [hm8] at hq3
  obtain ⟨⟨hP3, hK3, hA3, hR3⟩, ⟨-, hS3⟩, hT3, ⟨hsn3, hsi3, hso3, -⟩, hrr3⟩ := id hq3
  have hl0 := hs.2
  have hsf : s ≠ fr := fun z => f1 (by rw [← z]; exact hs)
  have hs3 : c_LN m3 s := (f2 s).mpr (Or.inl hs)
  have hf3 : c_LN m3 fr := (f2 fr).mpr (Or.inr rfl)
  have h6s : m3 11 6 = s := by rw [p1, hsr]
  have h2' : ∀ t, c_LN m3 t → t ≠ m3 11 6 → 2 ≤ m3 9 t := fun t ht hr => by
    rw [h6s] at hr
    by_cases cf : t = fr
    · rw [cf]; omega
    · rw [(z4 t hr cf).1]
      exact h2 t (((f2 t).mp ht).resolve_right cf) (by rw [← hsr]; exact hr)
  have hroom : m3 1 16 = -1 → m3 1 15 < 804 := fun z => c_room hP3 hK3 hS3 h2' z
  obtain ⟨g1, g2, g3⟩ := c_fn_ok hP3 hS3 hroom
  obtain ⟨o, o1, o2, o3, o4⟩ := q_free hP3 hso3
  have hlow := q_root_low hP hK h2 hR.1.1 hZ2
  rw [← hsr] at hlow
  obtain ⟨ψ', hψ1, hψ2⟩ : ∃ ψ' : Int → Int, ψ' (c_fn m3) = o ∧ ∀ u, u ≠ c_fn m3 → ψ' u = ψ u := ⟨fun u => if u = c_fn m3 then o else ψ u, if_pos rfl, fun u hu => if_neg hu⟩
  have hq4 := q_new (l := m 2 s + 1) hψ1 hψ2 hq3 ⟨by omega, by omega⟩ hroom ⟨o1, o2⟩ o3
  have m4LN' := c_newn_LN (l := m 2 s + 1) hP3 hS3 hroom (by omega)
  have hnew : fn_X4_newNode m3 (m3 2 (m3 11 6) + 1) = some (c_fn m3, c_newn m3 (m 2 s + 1)) := by
    rw [h6s, f4 s hsf]
    exact c_newNode (fun z => ⟨hP3.2.2.2.1.1, hroom z⟩) (fun z => (g3 z).1)
  have m4_2' := c_newn_2 m3 (m 2 s + 1)
  have m4_9' := c_newn_9 m3 (m 2 s + 1)
  have m4_8' := c_newn_8 m3 (m 2 s + 1)
  have m4_1' : ∀ j, j ≠ 15 → j ≠ 16 → c_newn m3 (m 2 s + 1) 1 j = m3 1 j := fun j x y => c_newn_1 _ _ x y
  have m4h : ∀ h : Nat, h ≠ 1 → h ≠ 2 → h ≠ 8 → h ≠ 9 → c_newn m3 (m 2 s + 1) h = m3 h := fun h x y z t => c_newn_h _ _ x y z t
  have m4rt : ∀ u, c_rt (c_newn m3 (m 2 s + 1)) u = c_rt m3 u := c_newn_rt m3 (m 2 s + 1)
  generalize hab : c_fn m3 = ab at *
  generalize hm4 : c_newn m3 (m 2 s + 1) = m4 at *
  have hsab : s ≠ ab := fun z => g2 (by rw [← z]; exact hs3)
  have hfab : fr ≠ ab := fun z => g2 (by rw [← z]; exact hf3)
  have hab4 : c_LN m4 ab := (m4LN' ab).mpr (Or.inr rfl)
  have m4_6 : m4 11 6 = s := by rw [m4h 11 (by decide) (by decide) (by decide) (by decide), h6s]
  have hq5 := q_root hq4 (Or.inr rfl) hab4 (by rw [m4_8', if_pos rfl]) (by rw [hψ1, d_new_30, if_pos rfl])
  rw [hψ1, m4_6] at hq5
  have m5h : ∀ h : Nat, h ≠ 11 → vl_up m4 11 6 ab h = m4 h := fun h x => up_h _ _ _ x
  have r5h : ∀ h : Nat, h ≠ 23 → h ≠ 26 → h ≠ 27 → h ≠ 30 → vl_up (d_new r3 o (m 2 s + 1)) 23 11 o h = r3 h := fun h x y z t => by rw [up_h _ _ _ x, d_new_h _ _ _ y z t]
  have r5_27 : vl_up (d_new r3 o (m 2 s + 1)) 23 11 o 27 o = 0 := by rw [up_h _ _ _ (by decide), d_new_27, if_pos rfl]
  have r5_26 : vl_up (d_new r3 o (m 2 s + 1)) 23 11 o 26 o = m 2 s + 1 := by rw [up_h _ _ _ (by decide), d_new_26, if_pos rfl]
  have r5_11 : vl_up (d_new r3 o (m 2 s + 1)) 23 11 o 23 11 = o := up_s _ _ _ _
  have r5_23 : ∀ j, j ≠ 11 → vl_up (d_new r3 o (m 2 s + 1)) 23 11 o 23 j = r3 23 j := fun j x => by rw [up_i _ _ x, d_new_h _ _ _ (by decide) (by decide) (by decide)]
  have hnode : fn_X8_node N r3 (r3 26 (φ s) + 1) = some (o, d_new r3 o (m 2 s + 1)) := by
    have : r3 26 (φ s) = m 2 s := by rw [← f5 s hsf, (hsn3 s hs3).1.2.1, f4 s hsf]
    rw [this]
    exact d_node' hN hK3 hsn3 hso3 ⟨o1, o2⟩ o3 o4
  generalize hm5 : vl_up m4 11 6 ab = m5 at *
  generalize hr5 : vl_up (d_new r3 o (m 2 s + 1)) 23 11 o = r5 at *
  have m5_9 : m5 9 ab = 0 := by rw [m5h 9 (by decide), m4_9', if_pos rfl]
  have m5_2 : ∀ u, m5 2 u = if u = ab then m 2 s + 1 else m3 2 u := fun u => by rw [m5h 2 (by decide), m4_2']
  have hψs : ψ' s = φ s := by rw [hψ2 s hsab, f5 s hsf]
  have hψf : ψ' fr = ψ fr := hψ2 fr hfab
  have hd1 : d_isIns r5 (d_app r5 o (φ s)) o 0 (φ s) := by
    have := d_app_is (r := r5) (n := o) (t := φ s) (by rw [r5_27]; omega)
    rw [r5_27] at this; exact this
  have hLN5 : ∀ u, c_LN m5 u ↔ c_LN m4 u := fun u => by unfold c_LN; rw [m5h 1 (by decide), m5h 2 (by decide)]
  have hq6 := q_ins (u := ab) (t := s) (idx := 0) (r' := d_app r5 o (φ s)) hq5 (Or.inr (by decide)) ((hLN5 ab).mpr hab4) (Or.inr rfl) (by rw [m5_2, m5_2, if_neg hsab, if_pos rfl, f4 s hsf]; omega) ⟨by omega, by omega⟩ (by omega) (by rw [hψ1, hψs]; exact hd1)
  have r6_27 : d_app r5 o (φ s) 27 o = 1 := by rw [d_app_27, if_pos rfl, r5_27]; omega
  have r6h : ∀ h : Nat, h ≠ 28 → h ≠ 27 → h ≠ 30 → d_app r5 o (φ s) h = r5 h := fun h x y z => d_app_h _ _ _ x y z
  have hho1 : fn_X8_hold r5 o (φ s) = some (d_app r5 o (φ s)) := d_hold ⟨o1, o2⟩ (by rw [r5_27]; omega) (by rw [r5_26]; exact ⟨by omega, by omega⟩) (fun _ => by rw [← f5 s hsf]; exact (hsn3 s hs3).1.1)
  generalize hr6 : d_app r5 o (φ s) = r6 at *
  have m6_9 : c_ins w m5 ab 0 s 9 ab = 1 := by rw [c_ins_9, if_pos rfl, m5_9]; omega
  have m6h : ∀ h : Nat, h ≠ 8 → h ≠ 9 → h ≠ 10 → c_ins w m5 ab 0 s h = m5 h := fun h x y z => c_ins_h _ _ _ _ _ x y z
  have hLN6 : ∀ u, c_LN (c_ins w m5 ab 0 s) u ↔ c_LN m4 u := fun u => by rw [← hLN5]; unfold c_LN; rw [m6h 1 (by decide) (by decide) (by decide), m6h 2 (by decide) (by decide) (by decide)]
  have hd2 : d_isIns r6 (d_app r6 o (ψ fr)) o 1 (ψ fr) := by
    have := d_app_is (r := r6) (n := o) (t := ψ fr) (by rw [r6_27]; omega)
    rw [r6_27] at this; exact this
  have hq7 := q_ins (u := ab) (t := fr) (idx := 1) (r' := d_app r6 o (ψ fr)) hq6 (Or.inl rfl) ((hLN6 ab).mpr hab4) ⟨Or.inl ⟨Or.inl (Or.inr rfl), hfab⟩, Ne.symm hsf⟩ (by rw [m6h 2 (by decide) (by decide) (by decide), m5_2, m5_2, if_neg hfab, if_pos rfl, f3]; omega) ⟨by omega, by omega⟩ (by omega) (by rw [hψ1, hψf]; exact hd2)
  have r7h : ∀ h : Nat, h ≠ 28 → h ≠ 27 → h ≠ 30 → d_app r6 o (ψ fr) h = r6 h := fun h x y z => d_app_h _ _ _ x y z
  have hho2 : fn_X8_hold r6 o (ψ fr) = some (d_app r6 o (ψ fr)) := d_hold ⟨o1, o2⟩ (by rw [r6_27]; omega) (by rw [r6h 26 (by decide) (by decide) (by decide), r5_26]; exact ⟨by omega, by omega⟩) (fun _ => (hsn3 fr hf3).1.1)
  generalize hr7 : d_app r6 o (ψ fr) = r7 at *
  have eX : (fun x => (((((X x ∨ x = fr) ∨ x = ab) ∧ x ≠ ab) ∨ x = s) ∧ x ≠ s) ∧ x ≠ fr) = X := funext fun x => propext ⟨fun z => by
    rcases z.1.1 with ⟨q, -⟩ | q
    · rcases q with q | q
      · exact q.resolve_right z.2
      · exact absurd q (by rcases z.1.1 with y | y; exact y.2; exact absurd y z.1.2)
    · exact absurd q z.1.2, fun z => by
    have hl := hR.2.2 x z
    have hxn : x ≠ fr := fun y => by
      rw [y] at hl
      rcases hl with q | q
      · have := c_LE_lt hP q; omega
      · exact f1 q
    have hxa : x ≠ ab := fun y => by
      rw [y] at hl
      rcases hl with q | q
      · have := c_LE_lt hP q; omega
      · exact g2 ((f2 ab).mpr (Or.inl q))
    have hxs : x ≠ s := fun y => by rw [y, hsr] at z; exact hR.2.1 z
    exact ⟨⟨Or.inl ⟨Or.inl (Or.inl z), hxa⟩, hxs⟩, hxn⟩⟩
  rw [eX] at hq7
  generalize hm6 : c_ins w m5 ab 0 s = m6 at *
  have m7h : ∀ h : Nat, h ≠ 8 → h ≠ 9 → h ≠ 10 → c_ins w m6 ab 1 fr h = m5 h := fun h x y z => by rw [c_ins_h _ _ _ _ _ x y z, m6h h x y z]
  have m7_9 : ∀ u, c_ins w m6 ab 1 fr 9 u = if u = ab then 2 else m3 9 u := fun u => by
    rw [c_ins_9, m6_9]
    by_cases c : u = ab
    · rw [if_pos c, if_pos c]; omega
    · rw [if_neg c, if_neg c, ← hm6, c_ins_9, if_neg c, m5h 9 (by decide), m4_9', if_neg c]
  have m7_8 : ∀ u, c_ins w m6 ab 1 fr 8 u = if u = fr then ab else if u = s then ab else if u = ab then -1 else m3 8 u := fun u => by
    rw [c_ins_8, ← hm6, c_ins_8, m5h 8 (by decide), m4_8']
  have m7k0 : c_k w (c_ins w m6 ab 1 fr) ab 0 = s := by
    rw [c_ins_k hw5 hw11 (by omega) (by omega) (by omega) ⟨by omega, by omega⟩, if_pos rfl, if_pos (by omega), ← hm6, c_ins_k hw5 hw11 (by omega) (by omega) (by omega) ⟨by omega, by omega⟩, if_pos rfl, if_neg (by omega), if_pos rfl]
  have m7k1 : c_k w (c_ins w m6 ab 1 fr) ab 1 = fr := by
    rw [c_ins_k hw5 hw11 (by omega) (by omega) (by omega) ⟨by omega, by omega⟩, if_pos rfl, if_neg (by omega), if_pos rfl]
  have m5rt : ∀ u, c_rt m5 u = c_rt m3 u := fun u => by
    rw [← m4rt u]; exact c_rt_congr (m5h 3 (by decide)) (m5h 4 (by decide)) (m5h 5 (by decide)) (m5h 6 (by decide))
  have m7rt : ∀ u, c_rt (c_ins w m6 ab 1 fr) u = c_rt m3 u := fun u => by
    rw [← m5rt u]; exact c_rt_congr (m7h 3 (by decide) (by decide) (by decide)) (m7h 4 (by decide) (by decide) (by decide)) (m7h 5 (by decide) (by decide) (by decide)) (m7h 6 (by decide) (by decide) (by decide))
  have hLN7 : ∀ u, c_LN (c_ins w m6 ab 1 fr) u ↔ ((c_LN m u ∨ u = fr) ∨ u = ab) := fun u => by
    rw [← f2, ← m4LN', ← hLN5]; unfold c_LN; rw [m7h 1 (by decide) (by decide) (by decide), m7h 2 (by decide) (by decide) (by decide)]
  have hq : r_is (c_rt m s) (fun p => ∃ i, 0 ≤ i ∧ i < c_ins w m6 ab 1 fr 9 ab ∧ p = c_rt (c_ins w m6 ab 1 fr) (c_k w (c_ins w m6 ab 1 fr) ab i)) := by
    rw [t1, m7_9, if_pos rfl]
    refine r_is_congr (fun p => ?_) (r_is_both (r_is_one (c_rt m3 s)) (r_is_one (c_rt m3 fr)))
    constructor
    · rintro (e | e)
      · exact ⟨0, by omega, by omega, by rw [m7k0, m7rt]; exact e⟩
      · exact ⟨1, by omega, by omega, by rw [m7k1, m7rt]; exact e⟩
    · rintro ⟨i, i1, i2, e⟩
      by_cases c : i = 0
      · rw [c, m7k0, m7rt] at e; exact Or.inl e
      · have c' : i = 1 := by omega
        rw [c', m7k1, m7rt] at e; exact Or.inr e
  have hq8 := q_fit hq7 ((hLN7 ab).mpr (Or.inr rfl)) (by rw [t1]; exact r_cv_ok t2 t3) hq
  rw [m7_8, if_neg (Ne.symm hfab), if_neg (Ne.symm hsab), if_pos rfl, hψ1] at hq8
  have hmea : fn_X8_measure N r7 o = some (d_set r7 o (c_rt m s)) := by
    have := q_mea (u := ab) hN hq7 ((hLN7 ab).mpr (Or.inr rfl)) (fun i i1 i2 => by
      rw [m7_9, if_pos rfl] at i2
      by_cases c : i = 0
      · rw [c, m7k0]; exact hsab
      · have c' : i = 1 := by omega
        rw [c', m7k1]; exact hfab) (fun t ht hr => by
      rw [m7h 11 (by decide) (by decide) (by decide), ← hm5, up_s] at hr
      rw [m7_9, if_neg hr]
      by_cases cs : t = s
      · rw [cs]; omega
      · have := h2' t ((f2 t).mpr (((hLN7 t).mp ht).resolve_right hr)) (by rw [h6s]; exact cs)
        omega) (by rw [m7_9, if_pos rfl]; omega) hq
    rw [hψ1] at this; exact this
  generalize hm7 : c_ins w m6 ab 1 fr = m7 at *
  -- the class
  have hc4 : c_w w N m4 := ⟨hw5, hw11, hN, by rw [m4_1' 10 (by decide) (by decide)]; exact hP3.2.1.1⟩
  have hsnd := c_LN_nd hP hs
  have hat1 : fn_X4_attach w N m4 ab s = some (c_ins w (c_set m4 ab (c_rt m3 s)) ab 0 s) := by
    have := c_attach (s := ab) (t := s) hc4 g1 ⟨by omega, by omega⟩ (by rw [m4_9', if_pos rfl]; omega) (by rw [m4_9', if_pos rfl]; omega) (by rw [m4rt]; exact t2) (fun z => absurd (by rw [m4_9', if_pos rfl]) z)
    rw [m4_9', if_pos rfl, if_pos rfl, m4rt] at this
    exact this
  rw [c_ins_set] at hat1
  have a9 : c_set (c_ins w m4 ab 0 s) ab (c_rt m3 s) 9 ab = 1 := by
    rw [c_set_h _ _ _ (by decide) (by decide) (by decide) (by decide), c_ins_9, if_pos rfl, m4_9', if_pos rfl]; omega
  have art : ∀ u, c_rt (c_ins w m4 ab 0 s) u = c_rt m3 u := fun u => by
    rw [← m4rt u]; exact c_rt_congr (c_ins_h _ _ _ _ _ (by decide) (by decide) (by decide)) (c_ins_h _ _ _ _ _ (by decide) (by decide) (by decide)) (c_ins_h _ _ _ _ _ (by decide) (by decide) (by decide)) (c_ins_h _ _ _ _ _ (by decide) (by decide) (by decide))
  have hat2 : fn_X4_attach w N (c_set (c_ins w m4 ab 0 s) ab (c_rt m3 s)) ab fr = some (c_set (c_ins w (c_ins w m4 ab 0 s) ab 1 fr) ab (c_rt m s)) := by
    have := c_attach (m := c_set (c_ins w m4 ab 0 s) ab (c_rt m3 s)) (s := ab) (t := fr) (c_w_of hc4 (by rw [c_set_h _ _ _ (by decide) (by decide) (by decide) (by decide), c_ins_h _ _ _ _ _ (by decide) (by decide) (by decide)])) g1 ⟨by omega, by omega⟩ (by rw [a9]; omega) (by rw [a9]; omega) (by rw [c_set_ne _ _ hfab, art]; exact t3) (fun _ => by rw [c_set_s]; exact t2)
    rw [a9, if_neg (by decide), c_set_s, c_set_ne _ _ hfab, art, ← t1, c_set_set, c_ins_set] at this
    exact this
  have hfin : vl_up (c_set (c_ins w (c_ins w m4 ab 0 s) ab 1 fr) ab (c_rt m s)) 11 6 ab = c_set m7 ab (c_rt m s) := by
    rw [← c_set_11, ← c_ins_11, ← c_ins_11, hm5, hm6, hm7]
  have hraise : fn_X5_raiseRoot w N m3 fr = some (c_set m7 ab (c_rt m s)) := by
    unfold fn_X5_raiseRoot
    rw [pu_gd (by rw [h6s]; exact ⟨by omega, by omega⟩), hnew, Option.bind_some, pu_un, m4_6, hat1, Option.bind_some, hat2, Option.bind_some, pu_lt, hfin]
  have esplit : fn_X8_split N r (φ s) = some (d_set r7 o (c_rt m s)) := by
    rw [e3]
    unfold d_tail2
    have e11 : r3 23 11 = φ s := by rw [hrr3.1, h6s, f5 s hsf]
    have hd := (hsn s hs).1.1
    rw [pu_gd (by rw [e11]; exact ⟨by omega, by omega⟩), if_pos e11.symm, hnode, Option.bind_some, pu_un, pu_lt, hr5, r5_11, hho1, Option.bind_some, r6h 23 (by decide) (by decide) (by decide), r5_11, hho2, Option.bind_some, r7h 23 (by decide) (by decide) (by decide), r6h 23 (by decide) (by decide) (by decide), r5_11, hmea, Option.bind_some]
  have m8h : ∀ h : Nat, h ≠ 3 → h ≠ 4 → h ≠ 5 → h ≠ 6 → c_set m7 ab (c_rt m s) h = m7 h := fun h x y z t => c_set_h _ _ _ x y z t
  have m8_8s : c_set m7 ab (c_rt m s) 8 s = ab := by rw [m8h 8 (by decide) (by decide) (by decide) (by decide), m7_8, if_neg hsf, if_pos rfl]
  have m7_6 : m7 11 6 = ab := by rw [m7h 11 (by decide) (by decide) (by decide), ← hm5, up_s]
  have m8_6 : c_set m7 ab (c_rt m s) 11 6 = ab := by rw [m8h 11 (by decide) (by decide) (by decide) (by decide), m7_6]
  have m7_1 : ∀ j, j ≠ 15 → j ≠ 16 → m7 1 j = m 1 j := fun j x y => by rw [m7h 1 (by decide) (by decide) (by decide), m5h 1 (by decide), m4_1' j x y]; exact hF.1.2.1 j x y
  refine ⟨c_set m7 ab (c_rt m s), d_set r7 o (c_rt m s), ψ', ⟨fun κ fu v v1 v2 => ?_, esplit⟩, ⟨hq8, ?_, ?_⟩, ⟨by rw [m8_8s, m8_6], by rw [m8_6, m8h 9 (by decide) (by decide) (by decide) (by decide), m7_9, if_pos rfl]⟩⟩
  · rw [fn_X5_splitUpwards_L4, pu_gd ⟨by omega, by omega⟩, if_pos v2, pu_gd ⟨by omega, by omega⟩, if_neg (by omega), pu_gd ⟨by omega, by omega⟩, pu_gd ⟨by omega, by omega⟩, pu_gd ⟨by omega, by omega⟩, if_pos (by omega), e1, Option.bind_some, pu_un, pu_lt, e2, Option.bind_some, pu_gd (by rw [h6s]; exact ⟨by omega, by omega⟩), pu_jn, if_pos h6s.symm, hraise, Option.bind_some]
    rfl
  · rw [m8_8s]
    unfold q_Z
    rw [m8_6, m8h 1 (by decide) (by decide) (by decide) (by decide), m8h 9 (by decide) (by decide) (by decide) (by decide), m7_1 1 (by decide) (by decide), m7_1 0 (by decide) (by decide)]
    constructor
    · intro t ht
      have ht' := (hLN7 t).mp (by
        have : c_LN m7 t ↔ c_LN (c_set m7 ab (c_rt m s)) t := by unfold c_LN; rw [m8h 1 (by decide) (by decide) (by decide) (by decide), m8h 2 (by decide) (by decide) (by decide) (by decide)]
        exact this.mpr ht)
      rw [m7_9]
      by_cases ca : t = ab
      · exact ⟨fun x => absurd ca x, fun x => absurd ca x⟩
      · rw [if_neg ca]
        by_cases cs : t = s
        · rw [cs]; exact ⟨fun _ _ => z1, fun _ => by omega⟩
        · by_cases cf : t = fr
          · rw [cf]; exact ⟨fun _ _ => z2, fun _ => by omega⟩
          · have q := (ht'.resolve_right ca).resolve_right cf
            rw [(z4 t cs cf).1]
            exact ⟨fun _ _ => hge t q (by rw [← hsr]; exact cs), fun _ => (hZ1 t q).2 cs⟩
    · intro _
      rw [m7_9, if_pos rfl]; omega
  · obtain ⟨⟨a1, a2, a3⟩, ⟨a4, a5⟩, ⟨a6, a7, a8⟩, a9, a10⟩ := hF
    have m711 : ∀ j, j ≠ 6 → m7 11 j = m3 11 j := fun j x => by rw [m7h 11 (by decide) (by decide) (by decide), ← hm5, up_i _ _ x, m4h 11 (by decide) (by decide) (by decide) (by decide)]
    refine ⟨⟨fun h x => by rw [m8h h (by omega) (by omega) (by omega) (by omega), m7h h (by omega) (by omega) (by omega), m5h h (by omega), m4h h (by omega) (by omega) (by omega) (by omega), a1 h x], fun j x y => by rw [m8h 1 (by decide) (by decide) (by decide) (by decide), m7_1 j x y], fun j x y => by rw [m8h 11 (by decide) (by decide) (by decide) (by decide), m711 j x, a3 j x y]⟩, ⟨fun u x => ?_, fun u x => ?_⟩, ⟨?_, ?_, ?_⟩, fun h x => ?_, fun j x y => ?_⟩
    · have hne : u ≠ ab := by omega
      obtain ⟨c1, c2, c3⟩ := a4 u x
      rw [m8h 2 (by decide) (by decide) (by decide) (by decide), m7h 2 (by decide) (by decide) (by decide), m5_2, if_neg hne, c_set_ne _ _ hne, m7rt, hψ2 u hne]
      exact ⟨c1, c2, c3⟩
    · obtain ⟨c1, c2, c3⟩ := a5 u x
      have hne : u ≠ ab := fun z => g2 (by rw [← z]; exact c1)
      rw [m8h 2 (by decide) (by decide) (by decide) (by decide), m7h 2 (by decide) (by decide) (by decide), m5_2, if_neg hne, hψ2 u hne]
      refine ⟨?_, c2, c3⟩
      have : c_LN m7 u ↔ c_LN (c_set m7 ab (c_rt m s)) u := by unfold c_LN; rw [m8h 1 (by decide) (by decide) (by decide) (by decide), m8h 2 (by decide) (by decide) (by decide) (by decide)]
      exact this.mp ((hLN7 u).mpr (Or.inl (Or.inl x)))
    · rw [m8_6, m8h 2 (by decide) (by decide) (by decide) (by decide), m7h 2 (by decide) (by decide) (by decide), m5_2, if_pos rfl, ← hsr]; omega
    · rw [m8h 11 (by decide) (by decide) (by decide) (by decide), m711 7 (by decide)]; exact a7
    · rw [m8h 11 (by decide) (by decide) (by decide) (by decide), m711 7 (by decide)]; exact a8
    · rw [d_set_h _ _ _ (by omega), r7h h (by omega) (by omega) (by omega), r6h h (by omega) (by omega) (by omega), r5h h (by omega) (by omega) (by omega) (by omega), a9 h x]
    · rw [d_set_h _ _ _ (by decide), r7h 23 (by decide) (by decide) (by decide), r6h 23 (by decide) (by decide) (by decide), r5_23 j x, a10 j x y]
