/-! ===== PURE, 63: a new node is filled ===== -/
theorem up_up (m : vl_M) (h : Nat) (i v v' : Int) : vl_up (vl_up m h i v) h i v' = vl_up m h i v' := by
  funext k j
  unfold vl_up
  by_cases c : k = h ∧ j = i
  · rw [if_pos c, if_pos c]
  · rw [if_neg c, if_neg c, if_neg c]
theorem up_cm (m : vl_M) {h h' : Nat} (i v i' v' : Int) (hh : h ≠ h') : vl_up (vl_up m h i v) h' i' v' = vl_up (vl_up m h' i' v') h i v := by
  funext k j
  unfold vl_up
  by_cases c : k = h ∧ j = i
  · rw [if_pos c, if_neg (fun z => hh (by rw [← c.1, z.1])), if_pos c]
  · rw [if_neg c, if_neg c]
theorem d_set_23 (r : vl_M) (n : Int) (q : pR) (j v : Int) : d_set (vl_up r 23 j v) n q = vl_up (d_set r n q) 23 j v := by
  unfold d_set
  rw [up_cm r _ _ _ _ (by decide), up_cm _ _ _ _ _ (show (23 : Nat) ≠ 29 by decide), up_cm _ _ _ _ _ (show (23 : Nat) ≠ 29 by decide), up_cm _ _ _ _ _ (show (23 : Nat) ≠ 29 by decide)]
theorem d_new_23 (r : vl_M) (f l j v : Int) : d_new (vl_up r 23 j v) f l = vl_up (d_new r f l) 23 j v := by
  unfold d_new
  rw [up_cm r _ _ _ _ (show (23 : Nat) ≠ 26 by decide), up_cm _ _ _ _ _ (show (23 : Nat) ≠ 27 by decide), up_cm _ _ _ _ _ (show (23 : Nat) ≠ 30 by decide)]
theorem d_app_23 (r : vl_M) (n t j v : Int) : d_app (vl_up r 23 j v) n t = vl_up (d_app r n t) 23 j v := by
  unfold d_app
  dsimp only
  rw [up_h r j v (show (27 : Nat) ≠ 23 by decide), up_h r j v (show (26 : Nat) ≠ 23 by decide), up_cm r _ _ _ _ (show (23 : Nat) ≠ 28 by decide), up_cm _ _ _ _ _ (show (23 : Nat) ≠ 27 by decide)]
  by_cases c : 0 < r 26 n
  · rw [if_pos c, if_pos c, up_cm _ _ _ _ _ (show (23 : Nat) ≠ 30 by decide)]
  · rw [if_neg c, if_neg c]
theorem c_set_self (m : vl_M) (s : Int) : c_set m s (c_rt m s) = m := by
  funext k j
  unfold c_set c_rt vl_up
  dsimp only
  by_cases c6 : k = 6 ∧ j = s
  · rw [if_pos c6, c6.1, c6.2]
  rw [if_neg c6]
  by_cases c5 : k = 5 ∧ j = s
  · rw [if_pos c5, c5.1, c5.2]
  rw [if_neg c5]
  by_cases c4 : k = 4 ∧ j = s
  · rw [if_pos c4, c4.1, c4.2]
  rw [if_neg c4]
  by_cases c3 : k = 3 ∧ j = s
  · rw [if_pos c3, c3.1, c3.2]
  rw [if_neg c3]
/-- the root's own rectangle is no one's business -/
theorem q_setr {w : Nat} {m r : vl_M} {φ : Int → Int} {X : Int → Prop} {u : Int} (q : pR) (h : q_I w m r φ X u) (hu : m 11 6 = u) : q_I w (c_set m u q) r φ X u := by
  obtain ⟨⟨hP, hK, hA, hR⟩, ⟨hE, hS⟩, hT, ⟨hsn, hsi, hso, hse⟩, hrr⟩ := h
  have eh : ∀ h : Nat, (h < 3 ∨ 6 < h) → c_set m u q h = m h := fun h x => c_set_h _ _ _ (by omega) (by omega) (by omega) (by omega)
  have e1 := eh 1 (by omega)
  have e2 := eh 2 (by omega)
  have e7 := eh 7 (by omega)
  have e8 := eh 8 (by omega)
  have e9 := eh 9 (by omega)
  have e11 := eh 11 (by omega)
  have ek : ∀ s i, c_k w (c_set m u q) s i = c_k w m s i := fun s i => by unfold c_k; rw [eh 10 (by omega)]
  have LN : ∀ x, c_LN (c_set m u q) x ↔ c_LN m x := fun x => by unfold c_LN; rw [e1, e2]
  have LE : ∀ x, c_LE (c_set m u q) x ↔ c_LE m x := fun x => by unfold c_LE; rw [e1, e2]
  have LT : ∀ x, c_LT (c_set m u q) x ↔ c_LT m x := fun x => by unfold c_LT; rw [LE, LN]
  have huN : c_LN m u := by rw [← hu]; exact hR.1.1
  have hue : ∀ e, c_LE m e → e ≠ u := fun e he z => by
    have := c_LE_lt hP he
    have := huN.1
    omega
  refine ⟨⟨?_, ?_, ?_, ?_⟩, ⟨?_, ?_⟩, ?_, ⟨?_, ?_, ?_, ?_⟩, ?_⟩
  · unfold s_P; rw [e1]; exact hP
  · intro s hs
    rw [e2, e9]
    obtain ⟨k1, k2⟩ := hK s ((LN s).mp hs)
    refine ⟨k1, fun i i1 i2 => ?_⟩
    simp only [ek]
    rw [LT, e8, e11]
    exact k2 i i1 i2
  · intro c hc h1 h2
    rw [e11] at h1
    obtain ⟨a1, i, a2, a3, a4⟩ := hA c ((LT c).mp hc) h1 h2
    rw [e8, LN]
    exact ⟨a1, i, a2, by rw [e9]; exact a3, by rw [ek]; exact a4⟩
  · obtain ⟨⟨a1, a2⟩, a3, a4⟩ := hR
    unfold s_R
    rw [e11, LN, e8]
    exact ⟨⟨a1, a2⟩, a3, fun c hc => (LT c).mpr (a4 c hc)⟩
  · intro e he
    have he' := (LE e).mp he
    rw [e7, c_set_ne _ _ (hue e he')]
    exact hE e he'
  · obtain ⟨⟨L, l1, l2, l3⟩, L', l4, l5, l6⟩ := hS
    refine ⟨⟨L, ?_, l2, ?_⟩, L', ?_, l5, ?_⟩
    · rw [e1]; exact c_ch_congr L _ (fun b _ => by rw [e8]) l1
    · rw [e1, e2]; exact l3
    · rw [e1]; exact c_ch_congr L' _ (fun b _ => by rw [e8]) l4
    · rw [e1, e2]; exact l6
  · intro s hs hsa h0
    have hs' := (LN s).mp hs
    rw [e9] at h0 ⊢
    obtain ⟨t1, t2⟩ := hT s hs' hsa h0
    rw [c_set_ne _ _ hsa]
    refine ⟨t1, r_is_congr (fun p => ?_) t2⟩
    constructor
    · rintro ⟨i, i1, i2, e⟩
      refine ⟨i, i1, i2, ?_⟩
      rw [ek, c_set_ne _ _ (by rw [← hu]; exact ((hK s hs').2 i i1 i2).2.1.2.2)]; exact e
    · rintro ⟨i, i1, i2, e⟩
      refine ⟨i, i1, i2, ?_⟩
      rw [ek, c_set_ne _ _ (by rw [← hu]; exact ((hK s hs').2 i i1 i2).2.1.2.2)] at e; exact e
  · intro s hs
    have hs' := (LN s).mp hs
    obtain ⟨b1, b2, b3⟩ := hsn s hs'
    rw [e2, e9, e11, e8]
    refine ⟨b1, fun i i1 i2 => ?_, b3⟩
    rw [ek]; exact b2 i i1 i2
  · exact ⟨fun s t hs ht => hsi.1 s t ((LN s).mp hs) ((LN t).mp ht), fun s t hs ht => hsi.2 s t ((LE s).mp hs) ((LE t).mp ht)⟩
  · refine ⟨fun n hn => ?_, fun n n1 n2 => ?_⟩
    · rcases hso.1 n hn with ⟨a, s, b, c⟩ | a
      · exact Or.inl ⟨a, s, (LN s).mpr b, c⟩
      · exact Or.inr a
    · rcases hso.2 n n1 n2 with ⟨a, s, b, c⟩ | a
      · exact Or.inl ⟨a, s, (LE s).mpr b, c⟩
      · exact Or.inr a
  · intro e he
    have he' := (LE e).mp he
    rw [e7, c_set_ne _ _ (hue e he')]
    exact hse e he'
  · unfold q_rr
    rw [e1, e11]
    exact hrr
theorem d_me_23 {r : vl_M} {n j v : Int} (h : d_me (vl_up r 23 j v) n) : d_me r n := by
  unfold d_me d_rt d_k at h ⊢
  rw [up_h r j v (show (25 : Nat) ≠ 23 by decide), up_h r j v (show (26 : Nat) ≠ 23 by decide), up_h r j v (show (27 : Nat) ≠ 23 by decide), up_h r j v (show (28 : Nat) ≠ 23 by decide), up_h r j v (show (29 : Nat) ≠ 23 by decide)] at h
  exact h
theorem d_f_23 (r : vl_M) (n i j v : Int) : d_f (vl_up r 23 j v) n i = d_f r n i := by
  unfold d_f d_rt d_k
  rw [up_h r j v (show (25 : Nat) ≠ 23 by decide), up_h r j v (show (26 : Nat) ≠ 23 by decide), up_h r j v (show (28 : Nat) ≠ 23 by decide), up_h r j v (show (29 : Nat) ≠ 23 by decide)]
/-- within a group: s takes what it is to hold -/
def g_I (w : Nat) (m r : vl_M) (φ : Int → Int) (X : Int → Prop) (s : Int) : Prop := q_I w (vl_up m 11 6 s) (vl_up r 23 11 (φ s)) φ X s ∧ (∀ u, c_LN m u → u ≠ s → 0 < m 9 u) ∧ (0 < m 9 s → r_ok (c_rt m s) ∧ r_is (c_rt m s) (fun p => ∃ i, 0 ≤ i ∧ i < m 9 s ∧ p = c_rt m (c_k w m s i)))
def g_fc (m m' : vl_M) (s : Int) : Prop := (∀ h : Nat, (h < 3 ∨ h = 7 ∨ 10 < h) → m' h = m h) ∧ (∀ u, u ≠ s → c_rt m' u = c_rt m u ∧ m' 9 u = m 9 u)
theorem g_fc_t {m m' m'' : vl_M} {s : Int} (h : g_fc m m' s) (h' : g_fc m' m'' s) : g_fc m m'' s := ⟨fun k x => by rw [h'.1 k x, h.1 k x], fun u x => by rw [(h'.2 u x).1, (h'.2 u x).2]; exact h.2 u x⟩
theorem q_att {w N : Nat} {m r : vl_M} {φ : Int → Int} {X : Int → Prop} {s t : Int} (hN : 100000 ≤ N) (h : g_I w m r φ X s) (ht : X t) (hl : m 2 t = m 2 s - 1) (hsz : m 9 s < (w : Int)) :
    ∃ m' r', fn_X4_attach w N m s t = some m' ∧ fn_X8_hold r (φ s) (φ t) = some r' ∧ g_I w m' r' φ (fun x => X x ∧ x ≠ t) s ∧ m' 9 s = m 9 s + 1 ∧ g_fc m m' s ∧ (∀ h : Nat, h ≠ 27 → h ≠ 28 → h ≠ 30 → r' h = r h) := by
  obtain ⟨hI, h0, htg⟩ := h
  obtain ⟨⟨hP, hK, hA, hR⟩, -, -, ⟨hsn, -, -, -⟩, -⟩ := id hI
  have eh : ∀ h : Nat, h ≠ 11 → vl_up m 11 6 s h = m h := fun h x => up_h _ _ _ x
  have e6 : vl_up m 11 6 s 11 6 = s := up_s _ _ _ _
  have rh : ∀ h : Nat, h ≠ 23 → vl_up r 23 11 (φ s) h = r h := fun h x => up_h _ _ _ x
  have LN : ∀ x, c_LN (vl_up m 11 6 s) x ↔ c_LN m x := fun x => by unfold c_LN; rw [eh 1 (by decide), eh 2 (by decide)]
  have ek : ∀ s' i, c_k w (vl_up m 11 6 s) s' i = c_k w m s' i := fun s' i => by unfold c_k; rw [eh 10 (by decide)]
  have ert : ∀ x, c_rt (vl_up m 11 6 s) x = c_rt m x := fun x => c_rt_congr (eh 3 (by decide)) (eh 4 (by decide)) (eh 5 (by decide)) (eh 6 (by decide))
  have hs : c_LN (vl_up m 11 6 s) s := by have := hR.1.1; rw [e6] at this; exact this
  have hsnd := c_LN_nd hP hs
  have htL := hR.2.2 t ht
  have htc := c_LT_in hP htL
  have hts : t ≠ s := fun z => hR.2.1 (by rw [e6, ← z]; exact ht)
  obtain ⟨th1, -, th3⟩ := q_thing hI htL hts (fun z => by rw [eh 9 (by decide)]; exact h0 t ((LN t).mp z) hts)
  rw [ert] at th3
  rw [eh 2 (by decide)] at th1
  have hw5 : 5 ≤ w := hP.1.1
  have hw11 : w ≤ 11 := hP.1.2
  have hcw : c_w w N m := ⟨hw5, hw11, hN, by have := hP.2.1.1; rw [eh 1 (by decide)] at this; exact this⟩
  obtain ⟨k1, k2⟩ := hK s hs
  rw [eh 9 (by decide)] at k1
  have k9 : 0 ≤ m 9 s := k1.2.1
  obtain ⟨⟨b1, b2, b3⟩, -⟩ := hsn s hs
  rw [rh 26 (by decide), eh 2 (by decide)] at b2
  rw [rh 27 (by decide), eh 9 (by decide)] at b3
  have s2 := hs.2
  rw [eh 2 (by decide)] at s2
  have l2 := k1.1
  rw [eh 2 (by decide)] at l2
  have hatt := c_attach (w := w) (N := N) (m := m) (s := s) (t := t) hcw hsnd htc k9 hsz th3 (fun z => (htg (by omega)).1)
  generalize hq : (if m 9 s = 0 then c_rt m t else r_cv (c_rt m s) (c_rt m t)) = q at hatt
  have h1 := q_setr q hI e6
  have h2 := q_ins (t := t) (idx := m 9 s) (r' := d_app (vl_up r 23 11 (φ s)) (φ s) (φ t)) h1 (Or.inl rfl) (by unfold c_LN; rw [c_set_h _ _ _ (by decide) (by decide) (by decide) (by decide), c_set_h _ _ _ (by decide) (by decide) (by decide) (by decide)]; exact hs) ht (by rw [c_set_h _ _ _ (by decide) (by decide) (by decide) (by decide), eh 2 (by decide)]; exact hl) ⟨k9, by rw [c_set_h _ _ _ (by decide) (by decide) (by decide) (by decide), eh 9 (by decide)]; exact Int.le_refl _⟩ (by rw [c_set_h _ _ _ (by decide) (by decide) (by decide) (by decide), eh 9 (by decide)]; exact hsz) (by
    have := d_app_is (r := vl_up r 23 11 (φ s)) (n := φ s) (t := φ t) (by rw [rh 27 (by decide), b3]; exact ⟨k9, by omega⟩)
    rw [rh 27 (by decide), b3] at this
    exact this)
  rw [c_set_11, c_ins_11, d_app_23] at h2
  generalize hm' : c_ins w (c_set m s q) s (m 9 s) t = m' at h2 hatt
  have m'9 : ∀ u, m' 9 u = if u = s then m 9 s + 1 else m 9 u := fun u => by rw [← hm', c_ins_9, c_set_h _ _ _ (by decide) (by decide) (by decide) (by decide)]
  have m'rt : ∀ u, c_rt m' u = c_rt (c_set m s q) u := fun u => by rw [← hm', c_ins_rt]
  have m'h : ∀ h : Nat, (h < 3 ∨ h = 7 ∨ 10 < h) → m' h = m h := fun h x => by rw [← hm', c_ins_h _ _ _ _ _ (by omega) (by omega) (by omega), c_set_h _ _ _ (by omega) (by omega) (by omega) (by omega)]
  have m'k : ∀ i, 0 ≤ i → i < m 9 s + 1 → c_k w m' s i = if i < m 9 s then c_k w m s i else t := fun i i1 i2 => by
    have e9 : c_set m s q 9 = m 9 := c_set_h _ _ _ (by decide) (by decide) (by decide) (by decide)
    have ek' : ∀ u j, c_k w (c_set m s q) u j = c_k w m u j := fun u j => by unfold c_k; rw [c_set_h _ _ _ (by decide) (by decide) (by decide) (by decide)]
    rw [← hm', c_ins_k hw5 hw11 k9 (by rw [e9]; exact Int.le_refl _) (by rw [e9]; exact hsz) ⟨i1, by omega⟩, if_pos rfl]
    by_cases c : i < m 9 s
    · rw [if_pos c, if_pos c, ek']
    · rw [if_neg c, if_neg c, if_pos (by omega)]
  have kid : ∀ i, 0 ≤ i → i < m 9 s → c_k w m s i ≠ s := fun i i1 i2 => by
    have := (k2 i i1 (by rw [eh 9 (by decide)]; exact i2)).2.1.2.2
    rw [ek, e6] at this; exact this
  have hkr : ∀ i, 0 ≤ i → i < m 9 s + 1 → c_rt m' (c_k w m' s i) = if i < m 9 s then c_rt m (c_k w m s i) else c_rt m t := fun i i1 i2 => by
    rw [m'rt, m'k i i1 i2]
    by_cases c : i < m 9 s
    · rw [if_pos c, if_pos c, c_set_ne _ _ (kid i i1 c)]
    · rw [if_neg c, if_neg c, c_set_ne _ _ hts]
  have LN' : ∀ u, c_LN m' u ↔ c_LN m u := fun u => by unfold c_LN; rw [m'h 1 (by omega), m'h 2 (by omega)]
  refine ⟨m', d_app r (φ s) (φ t), hatt, ?_, ⟨h2, fun u hu hus => ?_, fun _ => ?_⟩, by rw [m'9, if_pos rfl], ⟨m'h, fun u hu => ⟨by rw [m'rt, c_set_ne _ _ hu], by rw [m'9, if_neg hu]⟩⟩, fun h x y z => d_app_h _ _ _ y x z⟩
  · exact d_hold b1 (by rw [b3]; exact ⟨k9, by omega⟩) (by rw [b2]; exact ⟨by omega, by omega⟩) (fun z => by
      rw [b2] at z
      exact ⟨th1.2.1, th1.2.2.2 (by omega)⟩)
  · rw [m'9, if_neg hus]; exact h0 u ((LN' u).mp hu) hus
  · have ers : c_rt m' s = q := by rw [m'rt, c_set_s]
    rw [ers, m'9, if_pos rfl]
    by_cases c : m 9 s = 0
    · rw [if_pos c] at hq
      rw [← hq]
      refine ⟨th3, r_is_congr (fun p => ?_) (r_is_one (c_rt m t))⟩
      constructor
      · intro e
        exact ⟨0, by omega, by omega, by rw [hkr 0 (by omega) (by omega), if_neg (by omega)]; exact e⟩
      · rintro ⟨i, i1, i2, e⟩
        rw [hkr i i1 i2, if_neg (by omega)] at e
        exact e
    · rw [if_neg c] at hq
      obtain ⟨g1, g2⟩ := htg (by omega)
      rw [← hq]
      refine ⟨r_cv_ok g1 th3, r_is_congr (fun p => ?_) (r_is_add g2)⟩
      constructor
      · rintro (⟨i, i1, i2, e⟩ | e)
        · exact ⟨i, i1, by omega, by rw [hkr i i1 (by omega), if_pos i2]; exact e⟩
        · exact ⟨m 9 s, k9, by omega, by rw [hkr _ k9 (by omega), if_neg (by omega)]; exact e⟩
      · rintro ⟨i, i1, i2, e⟩
        rw [hkr i i1 i2] at e
        by_cases d : i < m 9 s
        · rw [if_pos d] at e
          exact Or.inl ⟨i, i1, d, e⟩
        · rw [if_neg d] at e
          exact Or.inr e
/-- all of them -/
theorem q_fill {w N : Nat} {φ : Int → Int} {s l : Int} {D R : List Int} {a1 b1 v2 a1' u1 u2 u3 v25 : Int} {κ : Int → vl_M → Option vl_M} {κ' : Int → vl_M → Option (Int × vl_M)} (hN : 100000 ≤ N) : ∀ (T : List Int) (fu fu' : Nat) (v13 v29 b11 : Int) (m r : vl_M), T.length < fu → T.length < fu' → 0 ≤ v13 → v13 + (T.length : Int) = b11 → b11 ≤ 400 → 0 ≤ v29 → v29 + (T.length : Int) = v25 → 0 ≤ u2 → u2 + v29 = v13 → g_I w m r φ (fun x => x ∈ D ++ (T ++ R)) s → (D ++ (T ++ R)).Nodup → m 2 s = l → (∀ x, x ∈ T → m 2 x = l - 1) → m 9 s + (T.length : Int) ≤ (w : Int) → (∀ (i : Nat) x, T[i]? = some x → m 17 (v13 + (i : Int)) = x ∧ r 45 (v13 + (i : Int)) = φ x) →
    ∃ m' r', fn_X1_groupInto_L44 w N a1 b1 v2 s b11 κ fu v13 m = κ b11 m' ∧ fn_X8_layer_L76 N a1' u1 u2 u3 v25 (φ s) κ' fu' v29 r = κ' v25 r' ∧ g_I w m' r' φ (fun x => x ∈ D ++ R) s ∧ m' 9 s = m 9 s + (T.length : Int) ∧ g_fc m m' s ∧ (∀ h : Nat, h ≠ 27 → h ≠ 28 → h ≠ 30 → r' h = r h) := by
  intro T
  induction T with
  | nil =>
    intro fu fu' v13 v29 b11 m r f1 f2 h1 h2 h3 h4 h5 h6 h7 hg hn hl hx hw ha
    obtain ⟨fu, rfl⟩ : ∃ x, fu = x + 1 := ⟨fu - 1, by omega⟩
    obtain ⟨fu', rfl⟩ : ∃ x, fu' = x + 1 := ⟨fu' - 1, by omega⟩
    have e1 : v13 = b11 := by rw [← h2]; simp
    have e2 : v29 = v25 := by rw [← h5]; simp
    refine ⟨m, r, ?_, ?_, hg, by simp, ⟨fun _ _ => rfl, fun _ _ => ⟨rfl, rfl⟩⟩, fun _ _ _ _ => rfl⟩
    · rw [fn_X1_groupInto_L44, pu_gd ⟨by omega, by omega⟩, pu_gd ⟨by omega, by omega⟩, if_neg (by omega), e1]
    · rw [fn_X8_layer_L76, pu_gd ⟨by omega, by omega⟩, pu_gd ⟨by omega, by omega⟩, if_neg (by omega), e2]
  | cons t T ih =>
    intro fu fu' v13 v29 b11 m r f1 f2 h1 h2 h3 h4 h5 h6 h7 hg hn hl hx hw ha
    obtain ⟨fu, rfl⟩ : ∃ x, fu = x + 1 := ⟨fu - 1, by omega⟩
    obtain ⟨fu', rfl⟩ : ∃ x, fu' = x + 1 := ⟨fu' - 1, by omega⟩
    have elen : ((t :: T).length : Int) = (T.length : Int) + 1 := by simp
    rw [elen] at h2 h5 hw
    have flen : (t :: T).length = T.length + 1 := by simp
    rw [flen] at f1 f2
    obtain ⟨at1, at2⟩ := ha 0 t rfl
    rw [show v13 + ((0 : Nat) : Int) = v13 by omega] at at1 at2
    have hts : m 2 t = m 2 s - 1 := by rw [hx t List.mem_cons_self, hl]
    obtain ⟨m1, r1, g1, g2, g3, g4, g5, g6⟩ := q_att hN hg (show t ∈ D ++ ((t :: T) ++ R) by simp) hts (by omega)
    have eX : (fun x => x ∈ D ++ ((t :: T) ++ R) ∧ x ≠ t) = (fun x => x ∈ D ++ (T ++ R)) := by
      funext x
      refine propext ⟨fun ⟨z, y⟩ => ?_, fun z => ⟨?_, ?_⟩⟩
      · simp only [List.mem_append, List.mem_cons] at z ⊢
        rcases z with z | (z | z) | z
        · exact Or.inl z
        · exact absurd z y
        · exact Or.inr (Or.inl z)
        · exact Or.inr (Or.inr z)
      · simp only [List.mem_append, List.mem_cons] at z ⊢
        rcases z with z | z | z
        · exact Or.inl z
        · exact Or.inr (Or.inl (Or.inr z))
        · exact Or.inr (Or.inr z)
      · intro e
        subst e
        have hp : (D ++ ((x :: T) ++ R)).Perm (x :: (D ++ (T ++ R))) := List.perm_middle
        exact (List.nodup_cons.mp (hp.nodup_iff.mp hn)).1 z
    rw [eX] at g3
    have hn1 : (D ++ (T ++ R)).Nodup := by
      have hp : (D ++ ((t :: T) ++ R)).Perm (t :: (D ++ (T ++ R))) := List.perm_middle
      exact (List.nodup_cons.mp (hp.nodup_iff.mp hn)).2
    obtain ⟨m', r', s1, s2, s3, s4, s5, s6⟩ := ih fu fu' (v13 + 1) (v29 + 1) b11 m1 r1 (by omega) (by omega) (by omega) (by omega) h3 (by omega) (by omega) h6 (by omega) g3 hn1 (by rw [g5.1 2 (by omega)]; exact hl) (fun x hx' => by rw [g5.1 2 (by omega)]; exact hx x (List.mem_cons_of_mem _ hx')) (by rw [g4]; omega) (fun i x hi => by
      have := ha (i + 1) x (by simpa using hi)
      rw [show v13 + ((i + 1 : Nat) : Int) = v13 + 1 + (i : Int) by omega] at this
      rw [g5.1 17 (by omega), g6 45 (by decide) (by decide) (by decide)]
      exact this)
    refine ⟨m', r', ?_, ?_, s3, by rw [s4, g4, elen]; omega, g_fc_t g5 s5, fun h x y z => by rw [s6 h x y z, g6 h x y z]⟩
    · rw [fn_X1_groupInto_L44, pu_gd ⟨by omega, by omega⟩, pu_gd ⟨by omega, by omega⟩, if_pos (by omega), pu_gd ⟨by omega, by omega⟩, at1, g1, Option.bind_some, pu_lt, s1]
    · rw [fn_X8_layer_L76, pu_gd ⟨by omega, by omega⟩, pu_gd ⟨by omega, by omega⟩, if_pos (by omega), pu_gd ⟨by omega, by omega⟩, h7, at2, g2, Option.bind_some, pu_lt, s2]
/-- then it is measured -/
theorem q_done {w N : Nat} {m r : vl_M} {φ : Int → Int} {X : Int → Prop} {s : Int} (hN : 100000 ≤ N) (h : g_I w m r φ X s) (hpos : 0 < m 9 s) : fn_X8_measure N r (φ s) = some (d_set r (φ s) (c_rt m s)) ∧ q_I w (vl_up m 11 6 s) (vl_up (d_set r (φ s) (c_rt m s)) 23 11 (φ s)) φ X (-1) := by
  obtain ⟨hI, h0, htg⟩ := h
  obtain ⟨⟨hP, hK, hA, hR⟩, -, -, ⟨hsn, -, -, -⟩, -⟩ := id hI
  obtain ⟨t1, t2⟩ := htg hpos
  have eh : ∀ h : Nat, h ≠ 11 → vl_up m 11 6 s h = m h := fun h x => up_h _ _ _ x
  have e6 : vl_up m 11 6 s 11 6 = s := up_s _ _ _ _
  have LN : ∀ x, c_LN (vl_up m 11 6 s) x ↔ c_LN m x := fun x => by unfold c_LN; rw [eh 1 (by decide), eh 2 (by decide)]
  have ek : ∀ s' i, c_k w (vl_up m 11 6 s) s' i = c_k w m s' i := fun s' i => by unfold c_k; rw [eh 10 (by decide)]
  have ert : ∀ x, c_rt (vl_up m 11 6 s) x = c_rt m x := fun x => c_rt_congr (eh 3 (by decide)) (eh 4 (by decide)) (eh 5 (by decide)) (eh 6 (by decide))
  have hs : c_LN (vl_up m 11 6 s) s := by have := hR.1.1; rw [e6] at this; exact this
  have h8 : vl_up m 11 6 s 8 s = -1 := by have := hR.1.2; rw [e6] at this; exact this
  have t3 : r_is (c_rt m s) (fun p => ∃ i, 0 ≤ i ∧ i < vl_up m 11 6 s 9 s ∧ p = c_rt (vl_up m 11 6 s) (c_k w (vl_up m 11 6 s) s i)) := by
    refine r_is_congr (fun p => ?_) t2
    rw [eh 9 (by decide)]
    constructor
    · rintro ⟨i, i1, i2, e⟩
      exact ⟨i, i1, i2, by rw [ek, ert]; exact e⟩
    · rintro ⟨i, i1, i2, e⟩
      exact ⟨i, i1, i2, by rw [ek, ert] at e; exact e⟩
  have hka : ∀ i, 0 ≤ i → i < vl_up m 11 6 s 9 s → c_k w (vl_up m 11 6 s) s i ≠ s := fun i i1 i2 => by
    have := ((hK s hs).2 i i1 i2).2.1.2.2
    rw [e6] at this
    exact this
  obtain ⟨m1, m2⟩ := q_me hI hs hka (fun u hu hur => by rw [e6] at hur; rw [eh 9 (by decide)]; exact h0 u ((LN u).mp hu) hur)
  obtain ⟨⟨b1, b2, b3⟩, -⟩ := hsn s hs
  have b3' : r 27 (φ s) = m 9 s := by rw [up_h _ _ _ (by decide), eh 9 (by decide)] at b3; exact b3
  constructor
  · rw [d_measure hN (d_me_23 m1)]
    unfold d_mea
    rw [if_neg (by omega)]
    congr 2
    refine r_is_uni (r_is_congr (fun p => ?_) (r_mb_is (d_f r (φ s)) (r 27 (φ s) - 1).toNat)) t2
    constructor
    · rintro ⟨i, i1, i2, e⟩
      have := (m2 i i1 (by rw [eh 9 (by decide)]; omega)).1
      rw [d_f_23, ert, ek] at this
      exact ⟨i, i1, by omega, by rw [e, this]⟩
    · rintro ⟨i, i1, i2, e⟩
      have := (m2 i i1 (by rw [eh 9 (by decide)]; omega)).1
      rw [d_f_23, ert, ek] at this
      exact ⟨i, i1, by omega, by rw [e, this]⟩
  · have := q_fit hI hs t1 t3
    rw [h8, d_set_23, ← ert s, c_set_self, ert s] at this
    exact this
