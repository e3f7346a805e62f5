/-! ===== PURE, 31: insert, as far as the tree ===== -/
def q_B (w : Nat) (m r : vl_M) (φ : Int → Int) : Prop := q_I w m r φ (fun _ => False) (-1) ∧ (q_Z m (-1) (-1) ∧ q_W m) ∧ (q_D m ∧ q_N m ∧ q_V m)
theorem q_N_congr {m m' : vl_M} (h12 : m' 1 12 = m 1 12) (h13 : m' 1 13 = m 1 13) (h2 : ∀ e, 0 ≤ e → e < 400 → m' 2 e = m 2 e) (h : q_N m) : q_N m' := by
  have e := pu_cnt_congr (p := fun e => decide (m 2 e = -1 ∧ e < m 1 13)) (q := fun e => decide (m' 2 e = -1 ∧ e < m' 1 13)) 400 (fun i hi => by
    rw [h13, h2 i (by omega) (by omega)])
  unfold q_N at h ⊢
  rw [h12, h, e]
theorem q_DNV_F {k : Int} {w : Nat} {m m' r r' : vl_M} {φ ψ : Int → Int} (h : q_F k m m' r r' φ ψ) (hP : s_P w m) (g : q_D m ∧ q_N m ∧ q_V m) : q_D m' ∧ q_N m' ∧ q_V m' := by
  obtain ⟨g1, g2, g3⟩ := g
  have hLE := q_F_LE h hP
  obtain ⟨⟨a1, a2, a3⟩, ⟨a4, a5⟩, -⟩ := h
  refine ⟨fun e e' he he' x y => ?_, q_N_congr (a2 12 (by decide) (by decide)) (a2 13 (by decide) (by decide)) (fun e e1 e2 => (a4 e (Or.inl e2)).1) g2, fun e e1 e2 => by rw [(a4 e (Or.inl e2)).1]; exact g3 e e1 e2⟩
  have he1 := (hLE e).mp he
  have he2 := (hLE e').mp he'
  have l1 := c_LE_lt hP he1
  have l2 := c_LE_lt hP he2
  rw [a1 7 (by omega)] at x
  rw [(a4 e (Or.inl l1.2)).2.1, (a4 e' (Or.inl l2.2)).2.1] at y
  exact g1 e e' he1 he2 x y
theorem d_frL {N : Nat} {r : vl_M} {n a b c d o : Int} {κ : Int → Option (Int × vl_M)} (ho : 0 ≤ o ∧ o < 401) (h1 : ∀ i, 0 ≤ i → i ≤ o → vl_r32 (r 24 i)) (h2 : r 24 o < 0) (h3 : ∀ i, 0 ≤ i → i < o → ¬ r 24 i < 0) : ∀ (fu : Nat) (v : Int), 0 ≤ v → v ≤ o → o - v < (fu : Int) → fn_X8_insert_L48 N r n a b c d κ fu v = κ o := by
  intro fu
  induction fu with
  | zero => intro v x y z; omega
  | succ fu ih =>
    intro v x y z
    rw [fn_X8_insert_L48, pu_gd ⟨by omega, by omega⟩, pu_gd (h1 v x y)]
    by_cases e : v = o
    · rw [e, if_pos h2]
    · rw [if_neg (h3 v x (by omega)), pu_lt]
      exact ih (v + 1) (by omega) (by omega) (by omega)
theorem q_room {w : Nat} {m r : vl_M} {φ : Int → Int} {X : Int → Prop} {a : Int} (h : q_I w m r φ X a) (hN : q_N m) (hlt : m 1 12 < 400) : (m 1 14 = -1 → m 1 13 < 400) ∧ ∃ o, (0 ≤ o ∧ o < 400) ∧ r 24 o = -2 ∧ ∀ i, 0 ≤ i → i < o → ¬ r 24 i < 0 := by
  obtain ⟨⟨hP, hK, hA, hR⟩, ⟨hE, hS⟩, hT, ⟨hsn, hsi, hso, hse⟩, hrr⟩ := h
  unfold q_N at hN
  have hc : pu_cnt (fun e => decide (m 2 e = -1 ∧ e < m 1 13)) 400 < 400 := by omega
  obtain ⟨k, k1, k2⟩ := pu_cnt_free 400 hc
  have k3 : ¬ (m 2 (k : Int) = -1 ∧ (k : Int) < m 1 13) := of_decide_eq_false k2
  constructor
  · intro e
    refine Classical.byContradiction (fun z => k3 ?_)
    obtain ⟨-, ⟨L, l1, l2, l3⟩⟩ := hS
    have hp := hP.2.2.2.2
    have hL : L = [] := by
      cases L with
      | nil => rfl
      | cons x t =>
        have e' : m 1 14 = x := l1.1
        have := (l3 x).mp List.mem_cons_self
        omega
    refine ⟨Classical.byContradiction (fun y => ?_), by omega⟩
    have := (l3 (k : Int)).mpr ⟨⟨by omega, by omega⟩, y⟩
    rw [hL] at this
    exact absurd this (by simp)
  · have hex : ∃ i : Nat, i < 400 ∧ (fun n => r 24 n < 0) (i : Int) := by
      refine Classical.byContradiction (fun hno => ?_)
      have hall : ∀ i : Nat, i < 400 → ∃ e, c_LE m e ∧ φ e = (i : Int) := fun i hi => by
        rcases hso.2 (i : Int) (by omega) (by omega) with ⟨-, h⟩ | h
        · exact h
        · exact absurd ⟨i, hi, by show r 24 (i : Int) < 0; omega⟩ hno
      have hval : ∀ i (hi : i < 400), 0 ≤ (hall i hi).choose ∧ (hall i hi).choose < 400 ∧ (hall i hi).choose ≠ (k : Int) := fun i hi => by
        have := (hall i hi).choose_spec.1
        have h2 := c_LE_lt hP this
        exact ⟨h2.1, h2.2, fun z => k3 (by rw [← z]; exact ⟨this.2, this.1.2⟩)⟩
      have := pu_pig 399 400 (fun i => if h : i < 400 then (if (hall i h).choose < (k : Int) then ((hall i h).choose).toNat else ((hall i h).choose - 1).toNat) else 0) (fun i hi => by
        obtain ⟨v1, v2, v3⟩ := hval i hi
        simp only [hi, dif_pos]
        split <;> omega) (fun i j hi hj hij => by
        obtain ⟨v1, v2, v3⟩ := hval i hi
        obtain ⟨u1, u2, u3⟩ := hval j hj
        have a := (hall i hi).choose_spec
        have b := (hall j hj).choose_spec
        simp only [hi, hj, dif_pos] at hij
        have e : (hall i hi).choose = (hall j hj).choose := by
          split at hij <;> split at hij <;> omega
        have : (i : Int) = (j : Int) := by rw [← a.2, ← b.2, e]
        omega)
      omega
    obtain ⟨o, h1, h2, h3, h4⟩ := pu_first (P := fun n => r 24 n < 0) 400 hex
    have h2' : o < 400 := h2
    refine ⟨o, ⟨h1, h2'⟩, ?_, h4⟩
    rcases hso.2 o h1 (by omega) with ⟨z, -⟩ | z
    · have : r 24 o < 0 := h3
      omega
    · exact z
/-- a new entry comes into both trees -/
theorem q_insert1 {w N : Nat} {m r : vl_M} {φ : Int → Int} (hN : 100000 ≤ N) (h : q_B w m r φ) (hn : 0 ≤ m 7 805 ∧ m 7 805 ≤ 999) (hq : r_ok (c_rt m 805)) (hno : ∀ e, c_LE m e → ¬ (m 7 e = m 7 805 ∧ c_rt m e = c_rt m 805)) (hlt : m 1 12 < 400) :
    ∃ o ψ m' r' ψ', (fn_X4_newEntry m 805 = some (c_fe m, c_newe m 805) ∧ fn_X5_put w N (c_newe m 805) (c_fe m) = some m') ∧
      ((∀ (κ : Int → Option (Int × vl_M)) (n a b c d : Int), fn_X8_insert_L48 N r n a b c d κ N 0 = κ o) ∧ (0 ≤ o ∧ o < 400) ∧ fn_X8_put N (vl_up (d_newe r o (m 7 805) (c_rt m 805)) 23 20 0) (-1) o = some r') ∧
      q_B w m' r' ψ' ∧ q_F 10 (c_newe m 805) m' (vl_up (d_newe r o (m 7 805) (c_rt m 805)) 23 20 0) r' ψ ψ' := by
  obtain ⟨hI, ⟨hZ, hW⟩, hD, hNn, hV⟩ := h
  obtain ⟨hr1, o, ho, ho2, ho3⟩ := q_room hI hNn hlt
  obtain ⟨⟨hP, hK, hA, hR⟩, ⟨hE, hS⟩, hT, ⟨hsn, hsi, hso, hse⟩, hrr⟩ := id hI
  obtain ⟨f1, f2, f3⟩ := c_fe_ok hP hS hr1
  obtain ⟨ψ, hψ1, hψ2⟩ : ∃ ψ : Int → Int, ψ (c_fe m) = o ∧ ∀ u, u ≠ c_fe m → ψ u = φ u := ⟨fun u => if u = c_fe m then o else φ u, if_pos rfl, fun u hu => if_neg hu⟩
  have hq1 := q_newE (k := 805) hψ1 hψ2 hI hn hq hr1 ho ho2
  have hq2 : q_I w (c_newe m 805) (vl_up (d_newe r o (m 7 805) (c_rt m 805)) 23 20 0) ψ (fun x => False ∨ x = c_fe m) (-1) := by
    refine q_cg hq1 rfl rfl rfl rfl rfl (fun _ _ _ => rfl) (fun _ _ _ => rfl) rfl (fun h x y => up_h _ _ _ (by omega)) ⟨up_i _ _ (by decide), up_i _ _ (by decide)⟩ ⟨up_i _ _ (by decide), up_i _ _ (by decide)⟩ ⟨?_, ?_⟩
    · rw [up_i _ _ (by decide)]; exact hq1.2.2.2.2.2.2.2.1
    · rw [up_i _ _ (by decide)]; exact hq1.2.2.2.2.2.2.2.2
  generalize hr1' : vl_up (d_newe r o (m 7 805) (c_rt m 805)) 23 20 0 = r1 at hq2
  have e11 : c_newe m 805 11 = m 11 := c_newe_h _ _ (by decide)
  have e9 : c_newe m 805 9 = m 9 := c_newe_h _ _ (by decide)
  have e2 : ∀ u, u ≠ c_fe m → c_newe m 805 2 u = m 2 u := fun u hu => by rw [c_newe_2, if_neg hu]
  have hrf : m 11 6 ≠ c_fe m := by have := hR.1.1.1; omega
  have LN := fun u => c_newe_LN (k := 805) hP hS hr1 u
  have hZ1 : q_Z (c_newe m 805) (-1) (-1) := by
    unfold q_Z
    rw [e11, e9, c_newe_1 _ _ (by decide) (by decide) (by decide), c_newe_1 _ _ (by decide) (by decide) (by decide), e2 _ hrf]
    exact ⟨fun s hs => hZ.1 s ((LN s).mp hs), hZ.2⟩
  have hW1 : q_W (c_newe m 805) := by
    unfold q_W
    rw [e11, e9, e2 _ hrf]; exact hW
  have hl2 : c_newe m 805 2 (c_fe m) = -1 := by rw [c_newe_2, if_pos rfl]
  obtain ⟨m', r', ψ', g1, g2, g3, ⟨g4, g5⟩, g6⟩ := q_put (t := c_fe m) hN hq2 hZ1 (Or.inr rfl) (by rw [hl2, e11, e2 _ hrf]; have := hR.1.1.2; omega)
  rw [hl2, hψ1] at g2
  have eX : (fun x => (False ∨ x = c_fe m) ∧ x ≠ c_fe m) = (fun _ => False) := funext fun x => propext ⟨fun z => z.2 (z.1.resolve_left id), fun z => z.elim⟩
  rw [eX] at g3
  have hDNV : q_D (c_newe m 805) ∧ q_N (c_newe m 805) ∧ q_V (c_newe m 805) := by
    have LE := fun u => c_newe_LE (k := 805) hP hS hr1 u
    refine ⟨fun e e' he he' x y => ?_, ?_, fun e e1 e2' => ?_⟩
    · rw [c_newe_7, c_newe_7] at x
      rw [c_newe_rt, c_newe_rt] at y
      by_cases c : e = c_fe m
      · by_cases c' : e' = c_fe m
        · rw [c, c']
        · rw [if_pos c, if_neg c'] at x y
          exact absurd ⟨x.symm, y.symm⟩ (hno e' (((LE e').mp he').resolve_right c'))
      · by_cases c' : e' = c_fe m
        · rw [if_neg c, if_pos c'] at x y
          exact absurd ⟨x, y⟩ (hno e (((LE e).mp he).resolve_right c))
        · rw [if_neg c, if_neg c'] at x y
          exact hD e e' (((LE e).mp he).resolve_right c) (((LE e').mp he').resolve_right c') x y
    · unfold q_N at hNn ⊢
      rw [c_newe_12, hNn]
      have hk : ((c_fe m).toNat : Int) = c_fe m := by omega
      have h13 : c_fe m < c_newe m 805 1 13 := ((LE _).mpr (Or.inr rfl)).1.2
      have := pu_cnt_add (p := fun e => decide (m 2 e = -1 ∧ e < m 1 13)) (q := fun e => decide (c_newe m 805 2 e = -1 ∧ e < c_newe m 805 1 13)) (k := (c_fe m).toNat) (decide_eq_false (by rw [hk]; exact fun z => f2 ⟨⟨f1.1, z.2⟩, z.1⟩)) (decide_eq_true (by rw [hk]; exact ⟨hl2, h13⟩)) (fun i hi => by
        have hne : (i : Int) ≠ c_fe m := by omega
        have := LE (i : Int)
        unfold c_LE at this
        refine decide_eq_decide.mpr ⟨fun z => ?_, fun z => ?_⟩
        · have := this.mpr (Or.inl ⟨⟨by omega, z.2⟩, z.1⟩)
          exact ⟨this.2, this.1.2⟩
        · have := (this.mp ⟨⟨by omega, z.2⟩, z.1⟩).resolve_right hne
          exact ⟨this.2, this.1.2⟩) 400 (by omega)
      rw [this]
      omega
    · rw [c_newe_2]
      by_cases c : e = c_fe m
      · rw [if_pos c]; decide
      · rw [if_neg c]; exact hV e e1 e2'
  refine ⟨o, ψ, m', r', ψ', ⟨c_newEntry (by decide) (fun z => ⟨hP.2.2.2.2.1, hr1 z⟩) (fun z => (f3 z).1), g1⟩, ⟨fun κ n a b c d => ?_, ho, by rw [hr1']; exact g2⟩, ⟨g3, ⟨g4, g5 hW1⟩, q_DNV_F g6 hq2.1.1 hDNV⟩, by rw [hr1']; exact g6⟩
  refine d_frL ⟨ho.1, by omega⟩ (fun i i1 i2 => ?_) (by omega) ho3 N 0 (by omega) ho.1 (by omega)
  rcases hso.2 i i1 (by omega) with ⟨z, e, he, q⟩ | z
  · obtain ⟨b1, b2, b3⟩ := hse e he
    obtain ⟨c1, c2⟩ := hE e he
    rw [← q, b2]
    exact ⟨by omega, by omega⟩
  · rw [z]; decide
