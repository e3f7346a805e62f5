/-! ===== PURE, 64: a new node while packing ===== -/
def g_S (w : Nat) (m r : vl_M) (φ : Int → Int) (Y : List Int) (ρ : Int) : Prop := (q_I w (vl_up m 11 6 ρ) (vl_up r 23 11 (φ ρ)) φ (fun x => x ∈ Y ∧ x ≠ ρ) (-1) ∧ m 1 16 = -1) ∧ ρ ∈ Y ∧ Y.Nodup
def g_nf (m m' r r' : vl_M) (s l : Int) : Prop := ((m' 9 s = 0 ∧ m' 2 s = l) ∧ (∀ u, u ≠ s → m' 2 u = m 2 u ∧ m' 9 u = m 9 u) ∧ (∀ u, c_LN m' u ↔ (c_LN m u ∨ u = s))) ∧ ((∀ h : Nat, h ≠ 1 → h ≠ 2 → h ≠ 8 → h ≠ 9 → m' h = m h) ∧ (∀ j, j ≠ 15 → j ≠ 16 → m' 1 j = m 1 j) ∧ m' 1 15 = m 1 15 + 1 ∧ m' 1 16 = -1) ∧ (s = m 1 15 ∧ 400 ≤ s) ∧ (∀ h : Nat, h ≠ 26 → h ≠ 27 → h ≠ 30 → r' h = r h)
def g_O (w N : Nat) (l : Int) (m r : vl_M) (φ : Int → Int) (Y : List Int) : Prop := ∃ s o ψ m' r', (fn_X4_newNode m l = some (s, m') ∧ fn_X8_node N r l = some (o, r')) ∧ (ψ s = o ∧ ∀ u, u ≠ s → ψ u = φ u) ∧ (g_I w m' r' ψ (fun x => x ∈ Y) s ∧ s ∉ Y) ∧ g_nf m m' r r' s l
theorem q_wk {w : Nat} {m r : vl_M} {φ : Int → Int} {X : Int → Prop} {a : Int} (s : Int) (h : q_I w m r φ X a) (ha : a < 0) : q_I w m r φ X s := by
  obtain ⟨h1, h2, hT, h3⟩ := h
  exact ⟨h1, h2, fun t ht _ h0 => hT t ht (by have := ht.1; omega) h0, h3⟩
theorem g_open {w N : Nat} {m r : vl_M} {φ : Int → Int} {Y : List Int} {ρ l : Int} (hN : 100000 ≤ N) (h : g_S w m r φ Y ρ) (h2 : ∀ u, c_LN m u → 2 ≤ m 9 u) (hl : 0 ≤ l ∧ l < 100) : g_O w N l m r φ Y := by
  obtain ⟨⟨hI, h16⟩, hρ, hn⟩ := h
  obtain ⟨⟨hP, hK, hA, hR⟩, ⟨hE, hS⟩, hT, ⟨hsn, hsi, hso, hse⟩, hrr⟩ := id hI
  have eh : ∀ h : Nat, h ≠ 11 → vl_up m 11 6 ρ h = m h := fun h x => up_h _ _ _ x
  have e6 : vl_up m 11 6 ρ 11 6 = ρ := up_s _ _ _ _
  have rh : ∀ h : Nat, h ≠ 23 → vl_up r 23 11 (φ ρ) h = r h := fun h x => up_h _ _ _ x
  have LN : ∀ x, c_LN (vl_up m 11 6 ρ) x ↔ c_LN m x := fun x => by unfold c_LN; rw [eh 1 (by decide), eh 2 (by decide)]
  have LE : ∀ x, c_LE (vl_up m 11 6 ρ) x ↔ c_LE m x := fun x => by unfold c_LE; rw [eh 1 (by decide), eh 2 (by decide)]
  have hroom : vl_up m 11 6 ρ 1 15 < 804 := c_room hP hK hS (fun u hu _ => by rw [eh 9 (by decide)]; exact h2 u ((LN u).mp hu)) (by rw [eh 1 (by decide)]; exact h16)
  have hroom' : m 1 15 < 804 := by rw [eh 1 (by decide)] at hroom; exact hroom
  have hp15 : 400 ≤ m 1 15 := by have := hP.2.2.2.1.1; rw [eh 1 (by decide)] at this; exact this
  have efn : c_fn m = m 1 15 := by unfold c_fn; rw [if_pos h16]
  have efn0 : c_fn (vl_up m 11 6 ρ) = c_fn m := by unfold c_fn; rw [eh 1 (by decide)]
  obtain ⟨f1, f2, -⟩ := c_fn_ok hP hS (fun _ => hroom)
  rw [efn0] at f1 f2
  obtain ⟨o, o1, o2, o3, o4⟩ := q_free hP hso
  have hso' : q_so (vl_up m 11 6 ρ) r φ := by
    unfold q_so at hso ⊢
    rw [rh 26 (by decide), rh 24 (by decide)] at hso
    exact hso
  have hsn' : q_sn w (vl_up m 11 6 ρ) r φ (fun x => x ∈ Y ∧ x ≠ ρ) := by
    unfold q_sn d_k at hsn ⊢
    rw [rh 26 (by decide), rh 27 (by decide), rh 28 (by decide), rh 30 (by decide)] at hsn
    exact hsn
  have hnode := d_node' (N := N) (l := l) (o := o) hN hK hsn' hso' ⟨o1, o2⟩ (by rw [← rh 26 (by decide)]; exact o3) (fun i i1 i2 => by rw [← rh 26 (by decide)]; exact o4 i i1 i2)
  obtain ⟨ψ, hψ1, hψ2⟩ : ∃ ψ : Int → Int, ψ (c_fn m) = o ∧ ∀ u, u ≠ c_fn m → ψ u = φ u := ⟨fun u => if u = c_fn m then o else φ u, if_pos rfl, fun u hu => if_neg hu⟩
  have q2 := q_new (l := l) (ψ := ψ) (o := o) (by rw [efn0]; exact hψ1) (by rw [efn0]; exact hψ2) hI hl (fun _ => hroom) ⟨o1, o2⟩ o3
  rw [efn0, c_newn_11, d_new_23] at q2
  have hLN1 : ∀ u, c_LN (vl_up (c_newn m l) 11 6 ρ) u ↔ (c_LN m u ∨ u = c_fn m) := fun u => by
    have := c_newn_LN (l := l) hP hS (fun _ => hroom) hl.1 u
    rw [c_newn_11, efn0, LN] at this
    exact this
  have q3 := q_root (b := c_fn m) q2 (Or.inr rfl) ((hLN1 _).mpr (Or.inr rfl)) (by rw [up_h _ _ _ (by decide), c_newn_8, if_pos rfl]) (by rw [up_h _ _ _ (by decide), d_new_30, if_pos hψ1])
  rw [up_up, up_up, up_s] at q3
  have hsY : c_fn m ∉ Y := fun z => by
    by_cases c : c_fn m = ρ
    · have := hR.1.1
      rw [e6, ← c] at this
      exact f2 this
    · rcases hR.2.2 _ ⟨z, c⟩ with y | y
      · have := c_LE_lt hP y; omega
      · exact f2 y
  have eX : (fun x => ((x ∈ Y ∧ x ≠ ρ) ∨ x = c_fn m) ∧ x ≠ c_fn m ∨ x = ρ) = (fun x => x ∈ Y) := by
    funext x
    refine propext ⟨fun z => ?_, fun z => ?_⟩
    · rcases z with ⟨z1, z2⟩ | z
      · rcases z1 with z1 | z1
        · exact z1.1
        · exact absurd z1 z2
      · rw [z]; exact hρ
    · by_cases c : x = ρ
      · exact Or.inr c
      · exact Or.inl ⟨Or.inl ⟨z, c⟩, fun y => hsY (by rw [← y]; exact z)⟩
  rw [eX] at q3
  have hLN2 : ∀ u, c_LN (c_newn m l) u ↔ (c_LN m u ∨ u = c_fn m) := fun u => by
    rw [← hLN1 u]
    unfold c_LN
    rw [up_h _ _ _ (show (1 : Nat) ≠ 11 by decide), up_h _ _ _ (show (2 : Nat) ≠ 11 by decide)]
  refine ⟨c_fn m, o, ψ, c_newn m l, d_new r o l, ⟨c_newNode (fun _ => ⟨hp15, hroom'⟩) (fun z => absurd h16 z), hnode⟩, ⟨hψ1, hψ2⟩, ⟨⟨q_wk _ q3 (by decide), fun u hu hus => ?_, fun z => ?_⟩, hsY⟩, ⟨⟨by rw [c_newn_9, if_pos rfl], by rw [c_newn_2, if_pos rfl]⟩, fun u hu => ⟨by rw [c_newn_2, if_neg hu], by rw [c_newn_9, if_neg hu]⟩, hLN2⟩, ⟨fun h a b c d => c_newn_h _ _ a b c d, fun j a b => c_newn_1 _ _ a b, by rw [c_newn_15, if_pos h16], by rw [c_newn_16, if_pos h16]⟩, ⟨efn, f1.1⟩, fun h a b c => d_new_h _ _ _ a b c⟩
  · rw [c_newn_9, if_neg hus]
    have := h2 u (((hLN2 u).mp hu).resolve_right hus)
    omega
  · rw [c_newn_9, if_pos rfl] at z; omega
/-- the first of all -/
theorem g_first {w N : Nat} {m r : vl_M} {φ : Int → Int} {Y : List Int} (hN : 100000 ≤ N) (hP : s_P w m) (h15 : m 1 15 = 400) (h16 : m 1 16 = -1) (hE : s_E m) (hS : ∃ L, c_ch m (m 1 14) L ∧ L.Nodup ∧ ∀ e, e ∈ L ↔ ((0 ≤ e ∧ e < m 1 13) ∧ m 2 e ≠ -1)) (h26 : ∀ n, 0 ≤ n → n < 500 → r 26 n = -2) (hr1 : r 23 1 = m 1 0 ∧ r 23 2 = m 1 1) (hr5 : r 23 5 = m 1 12) (hc : r 23 12 = m 11 7 ∧ r 23 13 = m 11 8) (hsi : ∀ e e', c_LE m e → c_LE m e' → φ e = φ e' → e = e') (hso : ∀ n, 0 ≤ n → n < 401 → (0 ≤ r 24 n ∧ ∃ e, c_LE m e ∧ φ e = n) ∨ r 24 n = -2) (hse : q_se m r φ) (hY : ∀ x, x ∈ Y ↔ c_LE m x) : g_O w N 0 m r φ Y := by
  have efn : c_fn m = 400 := by unfold c_fn; rw [if_pos h16, h15]
  obtain ⟨ψ, hψ1, hψ2⟩ : ∃ ψ : Int → Int, ψ 400 = 0 ∧ ∀ u, u ≠ 400 → ψ u = φ u := ⟨fun u => if u = 400 then 0 else φ u, if_pos rfl, fun u hu => if_neg hu⟩
  have hnode : fn_X8_node N r 0 = some (0, d_new r 0 0) := by
    refine d_node hN ⟨by decide, by decide⟩ (fun i i1 i2 => ?_) ?_ (fun i i1 i2 => by omega)
    · rw [h26 i i1 (by omega)]; decide
    · rw [h26 0 (by decide) (by decide)]; decide
  have n1 : ∀ j, j ≠ 15 → j ≠ 16 → c_newn m 0 1 j = m 1 j := fun j a b => c_newn_1 _ _ a b
  have n15 : c_newn m 0 1 15 = 401 := by rw [c_newn_15, if_pos h16, h15]; rfl
  have n2 : ∀ u, c_newn m 0 2 u = if u = 400 then 0 else m 2 u := fun u => by rw [c_newn_2, efn]
  have n9 : ∀ u, c_newn m 0 9 u = if u = 400 then 0 else m 9 u := fun u => by rw [c_newn_9, efn]
  have n8 : ∀ u, c_newn m 0 8 u = if u = 400 then -1 else m 8 u := fun u => by rw [c_newn_8, efn]
  have hp13 := hP.2.2.2.2
  have LE : ∀ e, c_LE (c_newn m 0) e ↔ c_LE m e := fun e => by
    unfold c_LE
    rw [n1 13 (by decide) (by decide), n2]
    constructor
    · rintro ⟨a, b⟩
      rw [if_neg (by omega)] at b
      exact ⟨a, b⟩
    · rintro ⟨a, b⟩
      rw [if_neg (by omega)]
      exact ⟨a, b⟩
  have LN : ∀ u, c_LN (c_newn m 0) u ↔ (c_LN m u ∨ u = 400) := fun u => by
    unfold c_LN
    rw [n15, n2, h15]
    constructor
    · rintro ⟨a, b⟩
      exact Or.inr (by omega)
    · rintro (⟨a, b⟩ | a)
      · omega
      · rw [if_pos a]; omega
  have nrt : ∀ u, c_rt (c_newn m 0) u = c_rt m u := fun u => c_newn_rt _ _ _
  have eh : ∀ h : Nat, h ≠ 11 → vl_up (c_newn m 0) 11 6 400 h = c_newn m 0 h := fun h x => up_h _ _ _ x
  have e6 : vl_up (c_newn m 0) 11 6 400 11 6 = 400 := up_s _ _ _ _
  have rh : ∀ h : Nat, h ≠ 23 → vl_up (d_new r 0 0) 23 11 (ψ 400) h = d_new r 0 0 h := fun h x => up_h _ _ _ x
  have rj : ∀ j, j ≠ 11 → vl_up (d_new r 0 0) 23 11 (ψ 400) 23 j = r 23 j := fun j x => by rw [up_i _ _ x, d_new_h _ _ _ (by decide) (by decide) (by decide)]
  have LE' : ∀ e, c_LE (vl_up (c_newn m 0) 11 6 400) e ↔ c_LE m e := fun e => by
    rw [← LE e]
    unfold c_LE
    rw [eh 1 (by decide), eh 2 (by decide)]
  have rt' : ∀ u, c_rt (vl_up (c_newn m 0) 11 6 400) u = c_rt m u := fun u => by
    rw [← nrt u]
    exact c_rt_congr (eh 3 (by decide)) (eh 4 (by decide)) (eh 5 (by decide)) (eh 6 (by decide))
  have ψe : ∀ e, c_LE m e → ψ e = φ e := fun e he => hψ2 e (by have := c_LE_lt hP he; omega)
  have hI : q_I w (vl_up (c_newn m 0) 11 6 400) (vl_up (d_new r 0 0) 23 11 (ψ 400)) ψ (c_LE (vl_up (c_newn m 0) 11 6 400)) (-1) := by
    refine q_leaf1 ?_ ?_ ?_ ?_ ?_ ?_ e6 ?_ ?_ hψ1 ?_ ?_ ?_ ?_ ?_ ⟨?_, ?_⟩ ?_ ⟨?_, ?_⟩ ?_ ?_ ?_
    · obtain ⟨p0, p1, p2, p3, p4⟩ := hP
      unfold s_P
      rw [eh 1 (by decide), n15, n1 10 (by decide) (by decide), n1 0 (by decide) (by decide), n1 1 (by decide) (by decide), n1 13 (by decide) (by decide)]
      exact ⟨p0, p1, p2, ⟨by omega, by omega⟩, p4⟩
    · rw [eh 1 (by decide), n15]
    · rw [eh 1 (by decide), c_newn_16, if_pos h16]
    · rw [eh 2 (by decide), n2, if_pos rfl]
    · rw [eh 9 (by decide), n9, if_pos rfl]
    · rw [eh 8 (by decide), n8, if_pos rfl]
    · intro e he
      have he' := (LE' e).mp he
      rw [eh 7 (by decide), c_newn_h _ _ (by decide) (by decide) (by decide) (by decide), rt']
      exact hE e he'
    · obtain ⟨L, l1, l2, l3⟩ := hS
      refine ⟨L, ?_, l2, fun e => ?_⟩
      · rw [eh 1 (by decide), n1 14 (by decide) (by decide)]
        refine c_ch_congr L _ (fun b hb => ?_) l1
        have := (l3 b).mp hb
        rw [eh 8 (by decide), n8, if_neg (by omega)]
      · rw [l3 e, eh 1 (by decide), n1 13 (by decide) (by decide), eh 2 (by decide), n2]
        constructor
        · rintro ⟨a, b⟩
          rw [if_neg (by omega)]
          exact ⟨a, b⟩
        · rintro ⟨a, b⟩
          rw [if_neg (by omega)] at b
          exact ⟨a, b⟩
    · rw [rh 26 (by decide), d_new_26, if_pos rfl]
    · intro n n1' n2'
      rw [rh 26 (by decide), d_new_26, if_neg (by omega)]
      exact h26 n (by omega) n2'
    · rw [rh 27 (by decide), d_new_27, if_pos rfl]
    · rw [rh 30 (by decide), d_new_30, if_pos rfl]
    · rw [up_s, hψ1]
    · rw [rj 1 (by decide), eh 1 (by decide), n1 0 (by decide) (by decide)]; exact hr1.1
    · rw [rj 2 (by decide), eh 1 (by decide), n1 1 (by decide) (by decide)]; exact hr1.2
    · rw [rj 5 (by decide), eh 1 (by decide), n1 12 (by decide) (by decide)]; exact hr5
    · rw [rj 12 (by decide), up_i _ _ (by decide), c_newn_h _ _ (by decide) (by decide) (by decide) (by decide)]; exact hc.1
    · rw [rj 13 (by decide), up_i _ _ (by decide), c_newn_h _ _ (by decide) (by decide) (by decide) (by decide)]; exact hc.2
    · intro e e' he he' z
      have a := (LE' e).mp he
      have b := (LE' e').mp he'
      rw [ψe e a, ψe e' b] at z
      exact hsi e e' a b z
    · intro n n1' n2'
      rw [rh 24 (by decide), d_new_h _ _ _ (by decide) (by decide) (by decide)]
      rcases hso n n1' n2' with ⟨a, e, b, c⟩ | a
      · exact Or.inl ⟨a, e, (LE' e).mpr b, by rw [ψe e b]; exact c⟩
      · exact Or.inr a
    · intro e he
      have a := (LE' e).mp he
      obtain ⟨x1, x2, x3⟩ := hse e a
      rw [ψe e a, rh 24 (by decide), d_new_h _ _ _ (by decide) (by decide) (by decide), eh 7 (by decide), c_newn_h _ _ (by decide) (by decide) (by decide) (by decide), rt', d_rt_neg (show vl_up (d_new r 0 0) 23 11 (ψ 400) 25 = r 25 by rw [rh 25 (by decide), d_new_h _ _ _ (by decide) (by decide) (by decide)])]
      exact ⟨x1, x2, x3⟩
  have eX : c_LE (vl_up (c_newn m 0) 11 6 400) = (fun x => x ∈ Y) := funext fun x => propext ⟨fun z => (hY x).mpr ((LE' x).mp z), fun z => (LE' x).mpr ((hY x).mp z)⟩
  rw [eX] at hI
  refine ⟨400, 0, ψ, c_newn m 0, d_new r 0 0, ⟨?_, hnode⟩, ⟨hψ1, hψ2⟩, ⟨⟨q_wk _ hI (by decide), fun u hu hus => ?_, fun z => ?_⟩, fun z => ?_⟩, ⟨⟨by rw [n9, if_pos rfl], by rw [n2, if_pos rfl]⟩, fun u hu => ⟨by rw [n2, if_neg hu], by rw [n9, if_neg hu]⟩, LN⟩, ⟨fun h a b c d => c_newn_h _ _ a b c d, n1, by rw [n15, h15]; rfl, by rw [c_newn_16, if_pos h16]⟩, ⟨h15.symm, by decide⟩, fun h a b c => d_new_h _ _ _ a b c⟩
  · have := c_newNode (m := m) (l := 0) (fun _ => ⟨by omega, by omega⟩) (fun z => absurd h16 z)
    rw [efn] at this
    exact this
  · rcases (LN u).mp hu with y | y
    · have := y.1; omega
    · exact absurd y hus
  · rw [n9, if_pos rfl] at z; omega
  · have := c_LE_lt hP ((hY 400).mp z); omega
