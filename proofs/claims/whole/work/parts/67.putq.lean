/-! ===== PURE, 28: put, in both ===== -/
theorem c_up_cg {m m' : vl_M} {X X' : Int → Prop} (h6 : m' 11 6 = m 11 6) (hX : ∀ v, X' v → X v) (h8 : ∀ v, ¬ X v → m' 8 v = m 8 v) : ∀ (P : List Int) (u : Int), c_up m X u P → c_up m' X' u P := by
  intro P
  induction P with
  | nil => intro v hv; show v = m' 11 6; rw [h6]; exact hv
  | cons q P ih => intro v hv; exact ⟨⟨by rw [h6]; exact hv.1.1, fun z => hv.1.2 (hX v z)⟩, by rw [h8 v hv.1.2]; exact hv.2.1, ih q hv.2.2⟩
theorem c_ins_rt (w : Nat) (m : vl_M) (s i t u : Int) : c_rt (c_ins w m s i t) u = c_rt m u := c_rt_congr (c_ins_h _ _ _ _ _ (by decide) (by decide) (by decide)) (c_ins_h _ _ _ _ _ (by decide) (by decide) (by decide)) (c_ins_h _ _ _ _ _ (by decide) (by decide) (by decide)) (c_ins_h _ _ _ _ _ (by decide) (by decide) (by decide))
theorem c_ins_cv (w : Nat) (m : vl_M) (b : pR) (s i t : Int) : ∀ Q : List Int, c_ins w (c_cv m b Q) s i t = c_cv (c_ins w m s i t) b Q := by
  intro Q
  induction Q with
  | nil => rfl
  | cons q Q ih =>
    show c_ins w (c_set (c_cv m b Q) q (r_cv (c_rt m q) b)) s i t = c_set (c_cv (c_ins w m s i t) b Q) q (r_cv (c_rt (c_ins w m s i t) q) b)
    rw [c_ins_set, ih, c_ins_rt]
theorem q_put {w N : Nat} {m r : vl_M} {φ : Int → Int} {X : Int → Prop} {t : Int} (hN : 100000 ≤ N) (h : q_I w m r φ X (-1)) (hZ : q_Z m (-1) (-1)) (ht : X t) (hl : m 2 t < m 2 (m 11 6)) :
    ∃ m' r' ψ, fn_X5_put w N m t = some m' ∧ fn_X8_put N r (m 2 t) (φ t) = some r' ∧ q_I w m' r' ψ (fun x => X x ∧ x ≠ t) (-1) ∧ (q_Z m' (-1) (-1) ∧ (q_W m → q_W m')) ∧ q_F 10 m m' r r' φ ψ := by
  obtain ⟨⟨hP, hK, hA, hR⟩, ⟨hE, hS⟩, hT, ⟨hsn, hsi, hso, hse⟩, hrr⟩ := id h
  have hw11 : w ≤ 11 := hP.1.2
  have hw5 : 5 ≤ w := hP.1.1
  have hpm : m 1 0 = (w : Int) - 1 := hP.2.1.2
  have hpl := hP.2.2.1
  have hge : ∀ t, c_LN m t → t ≠ m 11 6 → 2 ≤ m 9 t := fun t ht hr => by have := (hZ.1 t ht).1 hr (by have := ht.1; omega); omega
  have htT := hR.2.2 t ht
  have htin := c_LT_in hP htT
  have htr : t ≠ m 11 6 := fun z => hR.2.1 (by rw [← z]; exact ht)
  have h0 : c_LN m t → 0 < m 9 t := fun z => by have := hge t z htr; omega
  obtain ⟨y1, y2, y3⟩ := q_thing h htT (by omega) h0
  have htl : -1 ≤ m 2 t := by
    rcases htT with q | q
    · rw [q.2]; omega
    · have := q.2; omega
  have hrlow := q_root_low hP hK hge hR.1.1 hZ.2
  generalize hb : c_rt m t = b at *
  obtain ⟨u, Q, z, e1, e2, hu, hup, hul⟩ := q_desc (κ := fun (v5 : Int) (v6 : Int) (m7 : vl_M) => 
    (fn_X4_attach w N m7 v5 t).bind fun m9 => (fn_X5_splitUpwards w N m9 v5).bind fun m11 => some m11) (κ' := fun (v3 : Int) => 
    (fn_X8_hold r v3 (φ t)).bind fun m5 => (fn_X8_measureUp N m5 v3).bind fun m7 => fn_X8_put_L39 N  (fun (v10 : Int) (m11 : vl_M) => 
    some m11) N v3 m7) hN h hZ ht hb h0 (m 2 (m 11 6) - m 2 t - 1).toNat N N 0 (m 11 6) [] hR.1.1 rfl (by omega) (by omega) (by omega) (by omega) (by omega)
  obtain ⟨⟨b1, b2, b3⟩, b4, b5, b6⟩ := hsn u hu
  have hnd := c_LN_nd hP hu
  obtain ⟨hXu, hXQ⟩ := c_up_X hR.2.1 Q u hup
  have hlvQ := c_up_lv hK hA Q u hu hup
  have huQ : u ∉ Q := fun z => by have := (hlvQ u z).2; omega
  have htQ : t ∉ Q := fun z => hXQ t z ht
  have hut : u ≠ t := fun z => hXu (by rw [z]; exact ht)
  have hsz := (hZ.1 u hu).2 (by omega)
  have hsz0 := (hK u hu).1.2.1
  have hkk := c_con_lv hK hA Q.length u hu (c_up_con Q u hup)
  have hu0 := hu.2
  have hul1 := (hK u hu).1.1
  -- both hold it
  have hho : fn_X8_hold r (φ u) (φ t) = some (d_app r (φ u) (φ t)) := d_hold b1 (by omega) (by rw [b2]; exact ⟨by omega, by omega⟩) (fun q => by
    rw [b2] at q
    exact (hsn t (c_LT_N htT (by omega))).1.1)
  have hqi := q_ins (t := t) (idx := m 9 u) (r' := d_app r (φ u) (φ t)) h (Or.inr (by decide)) hu ht (by omega) ⟨hsz0, Int.le_refl _⟩ (by omega) (by have := d_app_is (r := r) (n := φ u) (t := φ t) (by omega); rw [b3] at this; exact this)
  have hat : fn_X4_attach w N (c_cv m b Q) u t = some (c_set (c_cv (c_ins w m u (m 9 u) t) b Q) u (if m 9 u = 0 then b else r_cv (c_rt m u) b)) := by
    have e9 : c_cv m b Q 9 u = m 9 u := by rw [c_cv_h m b (by decide) (by decide) (by decide) (by decide)]
    have ru : c_rt (c_cv m b Q) u = c_rt m u := c_cv_out m b Q u huQ
    have rt : c_rt (c_cv m b Q) t = b := by rw [c_cv_out m b Q t htQ, hb]
    have := c_attach (N := N) (m := c_cv m b Q) (s := u) (t := t) ⟨hw5, hw11, hN, by rw [c_cv_h m b (by decide) (by decide) (by decide) (by decide)]; exact hP.2.1.1⟩ hnd htin (by omega) (by omega) (by rw [rt]; exact y3) (fun z => by
      rw [ru]
      rw [e9] at z
      exact (hT u hu (by omega) (by omega)).1.1)
    rw [e9, ru, rt, c_ins_set, c_ins_cv] at this
    exact this
  have r5h : ∀ h : Nat, h ≠ 28 → h ≠ 27 → h ≠ 30 → d_app r (φ u) (φ t) h = r h := fun h x y z => d_app_h _ _ _ x y z
  have r5_30 : r 26 (φ u) = m 2 u → u = m 11 6 → d_app r (φ u) (φ t) 30 (φ u) = -2 := fun q c => by
    rw [d_app_30, if_neg, b6 c]
    rintro ⟨z1, z2⟩
    exact hut (hsi.1 u t hu (c_LT_N htT (by omega)) z2)
  generalize hr5 : d_app r (φ u) (φ t) = r5 at *
  have mih : ∀ h : Nat, h ≠ 8 → h ≠ 9 → h ≠ 10 → c_ins w m u (m 9 u) t h = m h := fun h x y z => c_ins_h _ _ _ _ _ x y z
  have mi9 : ∀ v, c_ins w m u (m 9 u) t 9 v = if v = u then m 9 u + 1 else m 9 v := fun v => c_ins_9 _ _ _ _ _ _
  have mi8 : ∀ v, c_ins w m u (m 9 u) t 8 v = if v = t then u else m 8 v := fun v => c_ins_8 _ _ _ _ _ _
  have mik : ∀ i, 0 ≤ i → i < m 9 u + 1 → c_k w (c_ins w m u (m 9 u) t) u i = if i = m 9 u then t else c_k w m u i := fun i j1 j2 => by
    rw [c_ins_k hw5 hw11 hsz0 (Int.le_refl _) (by omega) ⟨j1, by omega⟩, if_pos rfl]
    by_cases c : i = m 9 u
    · rw [if_neg (by omega), if_pos c, if_pos c]
    · rw [if_pos (by omega), if_neg c]
  have mirt : ∀ v, c_rt (c_ins w m u (m 9 u) t) v = c_rt m v := fun v => c_ins_rt _ _ _ _ _ _
  generalize hmi : c_ins w m u (m 9 u) t = mi at *
  have LN : ∀ v, c_LN mi v ↔ c_LN m v := fun v => by unfold c_LN; rw [mih 1 (by decide) (by decide) (by decide), mih 2 (by decide) (by decide) (by decide)]
  have mi6 : mi 11 6 = m 11 6 := by rw [mih 11 (by decide) (by decide) (by decide)]
  have h0i : ∀ s, c_LN mi s → s ≠ mi 11 6 → 0 < mi 9 s := fun s hs hr => by
    rw [mi6] at hr
    rw [mi9]
    have := hge s ((LN s).mp hs) hr
    by_cases c : s = u
    · rw [if_pos c]; omega
    · rw [if_neg c]; omega
  have hupi : c_up mi (fun x => X x ∧ x ≠ t) u Q := c_up_cg mi6 (fun v z => z.1) (fun v z => by rw [mi8, if_neg (fun y => z (by rw [y]; exact ht))]) Q u hup
  -- measuring upwards
  have key : ∃ r7, fn_X8_measureUp N r5 (φ u) = some r7 ∧ q_I w (c_set (c_cv mi b Q) u (if m 9 u = 0 then b else r_cv (c_rt m u) b)) r7 φ (fun x => X x ∧ x ≠ t) (-1) ∧ ∀ h : Nat, h ≠ 29 → r7 h = r5 h := by
    by_cases c0 : m 9 u = 0
    · have cr : u = m 11 6 := Classical.byContradiction (fun z => by have := hge u hu z; omega)
      have hQ : Q = [] := by
        cases Q with
        | nil => rfl
        | cons p P => exact absurd cr hup.1.1
      subst hQ
      rw [if_pos c0]
      have hq : r_is b (fun p => ∃ i, 0 ≤ i ∧ i < mi 9 u ∧ p = c_rt mi (c_k w mi u i)) := by
        refine r_is_congr (fun p => ?_) (r_is_one b)
        rw [mi9, if_pos rfl]
        constructor
        · intro e
          exact ⟨0, by omega, by omega, by rw [mik 0 (by omega) (by omega), if_pos c0.symm, mirt, hb]; exact e⟩
        · rintro ⟨i, i1, i2, e⟩
          rw [mik i i1 i2, if_pos (by omega), mirt, hb] at e
          exact e
      have hqf := q_fit hqi ((LN u).mpr hu) y3 hq
      rw [mi8, if_neg hut] at hqf
      have h8 : m 8 u = -1 := by rw [cr]; exact hR.1.2
      rw [h8] at hqf
      have hka : ∀ i, 0 ≤ i → i < mi 9 u → c_k w mi u i ≠ u := fun i i1 i2 z => by
        have := ((hqi.1.2.1 u ((LN u).mpr hu)).2 i i1 i2).1.2
        rw [z] at this; omega
      obtain ⟨N', rfl⟩ : ∃ x, N = x + 2 := ⟨N - 2, by omega⟩
      refine ⟨_, ?_, hqf, fun h x => d_set_h _ _ _ x⟩
      unfold fn_X8_measureUp
      rw [fn_X8_measureUp_L2, pu_gd ⟨by omega, by omega⟩, if_neg (by omega), q_mea hN hqi ((LN u).mpr hu) hka h0i (by rw [mi9, if_pos rfl]; omega) hq, Option.bind_some, pu_gd b1, pu_lt, d_set_h _ _ _ (by decide), r5_30 b2 cr, fn_X8_measureUp_L2, pu_gd (by decide), if_pos (by decide)]
    · rw [if_neg c0]
      obtain ⟨⟨T1, T2⟩, T3⟩ := hT u hu (by omega) (by omega)
      obtain ⟨m', r', g1, g2, ⟨g3, g4, g5⟩, g6⟩ := q_mupG (κ := fun (v3 : Int) (m4 : vl_M) => some m4) hN y3 Q u mi r5 N hqi h0i ((LN u).mpr hu) (by rw [mi9, if_pos rfl]; omega) hupi (by rw [mirt]; exact T1) (by
        rw [mirt, mi9, if_pos rfl]
        refine r_is_congr (fun p => ?_) (r_is_add (b := b) T3)
        constructor
        · rintro (⟨i, i1, i2, e⟩ | e)
          · exact ⟨i, i1, by omega, by rw [mik i i1 (by omega), if_neg (by omega), mirt]; exact e⟩
          · exact ⟨m 9 u, hsz0, by omega, by rw [mik _ hsz0 (by omega), if_pos rfl, mirt, hb]; exact e⟩
        · rintro ⟨i, i1, i2, e⟩
          rw [mik i i1 i2] at e
          by_cases c : i = m 9 u
          · rw [if_pos c, mirt, hb] at e; exact Or.inr e
          · rw [if_neg c, mirt] at e; exact Or.inl ⟨i, i1, by omega, e⟩) (by omega)
      have cvh : ∀ h : Nat, h ≠ 3 → h ≠ 4 → h ≠ 5 → h ≠ 6 → c_set (c_cv mi b Q) u (r_cv (c_rt m u) b) h = m' h := fun h x y z t => by rw [c_set_h _ _ _ x y z t, c_cv_h mi b x y z t, g3 h x y z t]
      refine ⟨r', g1, q_cg g2 (cvh 1 (by decide) (by decide) (by decide) (by decide)) (cvh 2 (by decide) (by decide) (by decide) (by decide)) (cvh 8 (by decide) (by decide) (by decide) (by decide)) (cvh 9 (by decide) (by decide) (by decide) (by decide)) (cvh 10 (by decide) (by decide) (by decide) (by decide)) (fun v _ _ => ?_) (fun v _ _ => by rw [cvh 7 (by decide) (by decide) (by decide) (by decide)]) (by rw [cvh 11 (by decide) (by decide) (by decide) (by decide)]) (fun _ _ _ => rfl) ⟨rfl, rfl⟩ ⟨rfl, rfl⟩ ?_, g6⟩
      · by_cases cu : v = u
        · rw [cu, c_set_s, g4 u List.mem_cons_self, mirt]
        · rw [c_set_ne _ _ cu]
          by_cases cq : v ∈ Q
          · rw [c_cv_in mi b Q v cq, g4 v (List.mem_cons_of_mem _ cq)]
          · rw [c_cv_out mi b Q v cq, g5 v (pu_nmem.mpr ⟨cu, cq⟩)]
      · rw [cvh 11 (by decide) (by decide) (by decide) (by decide)]
        exact g2.2.2.2.2.2.2.2
  obtain ⟨r7, hmu, hq7, r7h⟩ := key
  have mmh : ∀ h : Nat, h ≠ 3 → h ≠ 4 → h ≠ 5 → h ≠ 6 → c_set (c_cv mi b Q) u (if m 9 u = 0 then b else r_cv (c_rt m u) b) h = mi h := fun h x y z t => by rw [c_set_h _ _ _ x y z t, c_cv_h mi b x y z t]
  have mmrt : ∀ v, v ≠ u → v ∉ Q → c_rt (c_set (c_cv mi b Q) u (if m 9 u = 0 then b else r_cv (c_rt m u) b)) v = c_rt m v := fun v x y => by rw [c_set_ne _ _ x, c_cv_out mi b Q v y, mirt]
  generalize hmm : c_set (c_cv mi b Q) u (if m 9 u = 0 then b else r_cv (c_rt m u) b) = mm at *
  have mm9 := mmh 9 (by decide) (by decide) (by decide) (by decide)
  have mm8 := mmh 8 (by decide) (by decide) (by decide) (by decide)
  have mm2 : mm 2 = m 2 := by rw [mmh 2 (by decide) (by decide) (by decide) (by decide), mih 2 (by decide) (by decide) (by decide)]
  have mm1 : mm 1 = m 1 := by rw [mmh 1 (by decide) (by decide) (by decide) (by decide), mih 1 (by decide) (by decide) (by decide)]
  have mm11 : mm 11 = m 11 := by rw [mmh 11 (by decide) (by decide) (by decide) (by decide), mih 11 (by decide) (by decide) (by decide)]
  have LNm : ∀ v, c_LN mm v ↔ c_LN m v := fun v => by unfold c_LN; rw [mm1, mm2]
  have hZm : q_Z mm u (-1) := by
    unfold q_Z
    rw [mm11, mm1, mm2, mm9]
    refine ⟨fun s hs => ?_, fun x => ?_⟩
    · have hs' := (LNm s).mp hs
      rw [mi9]
      by_cases c : s = u
      · rw [if_pos c, c]
        exact ⟨fun x y => by have := (hZ.1 u hu).1 x y; omega, fun x => absurd rfl x⟩
      · rw [if_neg c]
        exact ⟨fun x y => (hZ.1 s hs').1 x y, fun _ => (hZ.1 s hs').2 (by have := hs'.1; omega)⟩
    · have := hZ.2 x
      rw [mi9]
      by_cases c : m 11 6 = u
      · rw [if_pos c, ← c]; omega
      · rw [if_neg c]; exact this
  have hconm : c_con mm (fun x => X x ∧ x ≠ t) Q.length u := by
    refine c_up_con Q u (c_up_cg (m := mi) (X := fun x => X x ∧ x ≠ t) (by rw [mm11, mi6]) (fun v z => z) (fun v _ => by rw [mm8]) Q u hupi)
  obtain ⟨m'', r'', ψ, z1, z2, g1, g2, g3, g4, g5⟩ := q_splits (κ := fun (v4 : Int) (v5 : Int) (m6 : vl_M) => some m6) (κ' := fun (v10 : Int) (m11 : vl_M) => some m11) hN Q.length mm r7 φ u N N 0 hq7 ((LNm u).mpr hu) hZm hconm (by omega) (by omega) (by omega) (by omega)
  have hWm : q_W m → q_W mm := fun hW => by
    unfold q_W
    rw [mm11, mm2, mm9, mi9]
    intro x
    have := hW x
    by_cases c : m 11 6 = u
    · rw [if_pos c, ← c]; omega
    · rw [if_neg c]; exact this
  refine ⟨m'', r'', ψ, ?_, ?_, g3, ⟨g4.1, fun z => g4.2 (hWm z)⟩, ?_⟩
  · unfold fn_X5_put
    have e1' : fn_X5_put_L7 w N t (fun (v5 : Int) (v6 : Int) (m7 : vl_M) => (fn_X4_attach w N m7 v5 t).bind fun m9 => (fn_X5_splitUpwards w N m9 v5).bind fun m11 => some m11) N (m 11 6) 0 m = _ := e1
    rw [pu_lt, e1', hat, Option.bind_some]
    unfold fn_X5_splitUpwards
    rw [g1, Option.bind_some]
  · unfold fn_X8_put
    rw [pu_lt, hrr.1, e2, hho, Option.bind_some, hmu, Option.bind_some, g2]
  · refine q_F_mono (q_F_trans (k := 0) (m' := mm) (r' := r7) (ψ := φ) ⟨⟨fun h x => ?_, fun j x y => by rw [mm1], fun j x y => by rw [mm11]⟩, ⟨fun v x => ⟨by rw [mm2], mmrt v (by omega) (fun y => ?_), rfl⟩, fun v x => ⟨(LNm v).mpr x, by rw [mm2], rfl⟩⟩, ⟨by rw [mm2, mm11]; exact Int.le_refl _, by rw [mm11]; exact Int.le_refl _, by rw [mm11]; omega⟩, fun h x => by rw [r7h h (by omega), r5h h (by omega) (by omega) (by omega)], fun j x y => by rw [r7h 23 (by decide), r5h 23 (by decide) (by decide) (by decide)]⟩ g5) (by omega)
    · rw [mmh h (by omega) (by omega) (by omega) (by omega), mih h (by omega) (by omega) (by omega)]
    · have := c_LN_nd hP (hlvQ v y).1
      omega
