/-! ===== PURE, 47: nodes that meet ===== -/
def pu_cr (p : Int → Int → Bool) : List Int → List Int → Nat
  | [], _ => 0
  | a :: A, B => (B.filter (fun x => p x a)).length + pu_cr p A B
theorem pu_cr_l (p : Int → Int → Bool) : ∀ (A A' B : List Int), pu_cr p (A ++ A') B = pu_cr p A B + pu_cr p A' B := by
  intro A
  induction A with
  | nil => intro A' B; show pu_cr p A' B = 0 + pu_cr p A' B; omega
  | cons a A ih =>
    intro A' B
    show (B.filter (fun x => p x a)).length + pu_cr p (A ++ A') B = (B.filter (fun x => p x a)).length + pu_cr p A B + pu_cr p A' B
    rw [ih]; omega
theorem pu_cr_r (p : Int → Int → Bool) : ∀ (A B B' : List Int), pu_cr p A (B ++ B') = pu_cr p A B + pu_cr p A B' := by
  intro A
  induction A with
  | nil => intro B B'; rfl
  | cons a A ih =>
    intro B B'
    show ((B ++ B').filter (fun x => p x a)).length + pu_cr p A (B ++ B') = (B.filter (fun x => p x a)).length + pu_cr p A B + ((B'.filter (fun x => p x a)).length + pu_cr p A B')
    rw [ih, List.filter_append, List.length_append]; omega
theorem pu_cr_0 (p : Int → Int → Bool) : ∀ (A B : List Int), (∀ a b, a ∈ A → b ∈ B → p b a = false) → pu_cr p A B = 0 := by
  intro A
  induction A with
  | nil => intro B _; rfl
  | cons a A ih =>
    intro B h
    show (B.filter (fun x => p x a)).length + pu_cr p A B = 0
    rw [ih B (fun x y hx hy => h x y (List.mem_cons_of_mem _ hx) hy), List.filter_eq_nil_iff.mpr (fun x hx => by rw [h a x List.mem_cons_self hx]; decide)]
    rfl
theorem pu_pc_app (p : Int → Int → Bool) : ∀ (A B : List Int), pu_pc p (A ++ B) = pu_pc p A + pu_cr p A B + pu_pc p B := by
  intro A
  induction A with
  | nil => intro B; show pu_pc p B = 0 + 0 + pu_pc p B; omega
  | cons a A ih =>
    intro B
    show ((A ++ B).filter (fun x => p x a)).length + pu_pc p (A ++ B) = (A.filter (fun x => p x a)).length + pu_pc p A + ((B.filter (fun x => p x a)).length + pu_cr p A B) + pu_pc p B
    rw [ih, List.filter_append, List.length_append]; omega
/-- two nodes of one level that meet -/
def v_pp (m : vl_M) (x a : Int) : Bool := decide (m 2 a = m 2 x) && r_mtb (c_rt m a) (c_rt m x)
theorem v_pp_lv {m : vl_M} {x a : Int} (h : m 2 a ≠ m 2 x) : v_pp m x a = false := by
  unfold v_pp
  rw [decide_eq_false h]; rfl
theorem c_pre_in {w : Nat} {m r : vl_M} {φ : Int → Int} {X : Int → Prop} {a : Int} (hK : s_K w m X) (hT : q_T w m r φ a) (ha : a < 0) {q : pR} : ∀ (n : Nat) (u x : Int), c_LN m u → m 2 u = (n : Int) → x ∈ c_pre w m n u → r_mt (c_rt m x) q → r_mt (c_rt m u) q := by
  intro n
  induction n with
  | zero =>
    intro u x hu hl hx h
    have e : x = u := by simpa [c_pre] using hx
    rw [← e]; exact h
  | succ n ih =>
    intro u x hu hl hx h
    rcases List.mem_cons.mp hx with e | hx
    · rw [← e]; exact h
    · obtain ⟨c, hc1, hc2⟩ := List.mem_flatMap.mp hx
      obtain ⟨k1, k2, -⟩ := c_kid_LN hK hu (by omega) hc1
      have := ih c x k1 (by omega) hc2 h
      obtain ⟨i, i1, i2, e⟩ := c_kids_mem.mp hc1
      rw [← e] at this
      exact q_inside hT hu (by have := hu.1; omega) ⟨i1, i2⟩ this
theorem r_mt_comm {a b : pR} (h : r_mt a b) : r_mt b a := by unfold r_mt at h ⊢; omega
theorem v_cr_0 {w : Nat} {m r : vl_M} {φ : Int → Int} {X : Int → Prop} {e : Int} (hK : s_K w m X) (hT : q_T w m r φ e) (he : e < 0) {n : Nat} {a b : Int} (ha : c_LN m a) (hb : c_LN m b) (la : m 2 a = (n : Int)) (lb : m 2 b = (n : Int)) (h : ¬ r_mt (c_rt m a) (c_rt m b)) : pu_cr (v_pp m) (c_pre w m n a) (c_pre w m n b) = 0 := by
  refine pu_cr_0 _ _ _ (fun x y hx hy => ?_)
  cases hc : v_pp m y x with
  | false => rfl
  | true =>
    unfold v_pp at hc
    have h2 := r_mtb_t.mp (Bool.and_eq_true_iff.mp hc).2
    have h3 := c_pre_in hK hT he n a x ha la hx h2
    have h4 := c_pre_in hK hT he n b y hb lb hy (r_mt_comm h3)
    exact absurd (r_mt_comm h4) h
theorem d_prI {w N rr n : Nat} {m r : vl_M} {φ : Int → Int} {a b i : Int} {κ : Int → Int → Option Int} (hφa : d_nd (φ a)) (hφb : d_nd (φ b)) (hib : 0 ≤ i ∧ i < 11) (h27 : r 27 (φ b) = m 9 b) (h9 : 0 ≤ m 9 b ∧ m 9 b ≤ 11) (hci : d_k r (φ a) i = φ (c_k w m a i)) (hdj : ∀ j, 0 ≤ j → j < m 9 b → d_k r (φ b) j = φ (c_k w m b j)) (hd : d_nd (φ (c_k w m a i))) (hdd : ∀ j, 0 ≤ j → j < m 9 b → d_nd (φ (c_k w m b j))) (hmeet : ∀ j, 0 ≤ j → j < m 9 b → φ (c_k w m a i) ≠ φ (c_k w m b j) → (r_mt (c_rt m (c_k w m a i)) (c_rt m (c_k w m b j)) → fn_X8_meet r (r 26 (φ (c_k w m a i))) (φ (c_k w m a i)) (r 26 (φ (c_k w m b j))) (φ (c_k w m b j)) = some 1) ∧ (¬ r_mt (c_rt m (c_k w m a i)) (c_rt m (c_k w m b j)) → fn_X8_meet r (r 26 (φ (c_k w m a i))) (φ (c_k w m a i)) (r 26 (φ (c_k w m b j))) (φ (c_k w m b j)) = some 0)) :
    ∀ (k fu : Nat) (v c : Int), 0 ≤ v → v + (k : Int) = m 9 b → k < fu → (∀ j, v ≤ j → j < m 9 b → φ (c_k w m a i) ≠ φ (c_k w m b j) ∧ (r_mt (c_rt m (c_k w m a i)) (c_rt m (c_k w m b j)) → fn_X8_pairsOf N rr r (φ (c_k w m a i)) (φ (c_k w m b j)) = some ((pu_cr (v_pp m) (c_pre w m n (c_k w m a i)) (c_pre w m n (c_k w m b j)) : Nat) : Int)) ∧ (¬ r_mt (c_rt m (c_k w m a i)) (c_rt m (c_k w m b j)) → pu_cr (v_pp m) (c_pre w m n (c_k w m a i)) (c_pre w m n (c_k w m b j)) = 0)) →
      fn_X8_pairsOf_L38 N (fn_X8_pairsOf N rr) r (φ a) (φ b) i κ fu c v = κ (c + ((pu_cr (v_pp m) (c_pre w m n (c_k w m a i)) (((pu_seq k v).map (c_k w m b)).flatMap (c_pre w m n)) : Nat) : Int)) (m 9 b) := by
  intro k
  induction k with
  | zero =>
    intro fu v c h1 h2 h3 h4
    obtain ⟨fu, rfl⟩ : ∃ x, fu = x + 1 := ⟨fu - 1, by omega⟩
    have e0 : pu_cr (v_pp m) (c_pre w m n (c_k w m a i)) (((pu_seq 0 v).map (c_k w m b)).flatMap (c_pre w m n)) = 0 := pu_cr_0 _ _ _ (fun _ _ _ h => (List.not_mem_nil h).elim)
    rw [fn_X8_pairsOf_L38, pu_gd hφb, pu_gd ⟨by omega, by omega⟩, h27, pu_gd ⟨by omega, by omega⟩, if_neg (by omega), e0, show v = m 9 b by omega]
    show κ c _ = κ (c + 0) _
    rw [Int.add_zero]
  | succ k ih =>
    intro fu v c h1 h2 h3 h4
    obtain ⟨fu, rfl⟩ : ∃ x, fu = x + 1 := ⟨fu - 1, by omega⟩
    obtain ⟨s1, s2, s3⟩ := h4 v (Int.le_refl _) (by omega)
    obtain ⟨t1, t2⟩ := hmeet v h1 (by omega) s1
    have hdv := hdd v h1 (by omega)
    have e1 : pu_cr (v_pp m) (c_pre w m n (c_k w m a i)) (((pu_seq (k + 1) v).map (c_k w m b)).flatMap (c_pre w m n)) = pu_cr (v_pp m) (c_pre w m n (c_k w m a i)) (c_pre w m n (c_k w m b v)) + pu_cr (v_pp m) (c_pre w m n (c_k w m a i)) (((pu_seq k (v + 1)).map (c_k w m b)).flatMap (c_pre w m n)) := by
      rw [pu_seq_cons, List.map_cons, List.flatMap_cons, pu_cr_r]
    rw [fn_X8_pairsOf_L38, pu_gd hφb, pu_gd ⟨by omega, by omega⟩, h27, pu_gd ⟨by omega, by omega⟩, if_pos (by omega), d_held hφa hib, Option.bind_some, d_held hφb ⟨h1, by omega⟩, Option.bind_some, hci, hdj v h1 (by omega), pu_gd ⟨by omega, by omega⟩, pu_gd ⟨by omega, by omega⟩, pu_jn, if_neg s1, pu_gd hd, pu_gd hdv]
    by_cases cm : r_mt (c_rt m (c_k w m a i)) (c_rt m (c_k w m b v))
    · rw [t1 cm, Option.bind_some, pu_gd (by decide), if_neg (by decide), s2 cm, Option.bind_some]
      dsimp only
      rw [pu_lt, pu_lt, ih fu (v + 1) _ (by omega) (by omega) (by omega) (fun j j1 j2 => h4 j (by omega) j2), e1]
      congr 1; omega
    · rw [t2 cm, Option.bind_some, pu_gd (by decide), if_pos rfl]
      dsimp only
      rw [pu_lt, pu_lt, ih fu (v + 1) _ (by omega) (by omega) (by omega) (fun j j1 j2 => h4 j (by omega) j2), e1, s3 cm]
      congr 1; omega
/-- nodes below are of lower level -/
theorem c_fl_lv {w : Nat} {m : vl_M} {X : Int → Prop} (hK : s_K w m X) {n : Nat} {u x : Int} {l : List Int} (hu : c_LN m u) (hl : m 2 u = ((n + 1 : Nat) : Int)) (hs : ∀ c, c ∈ l → c ∈ c_kids w m u) (hx : x ∈ l.flatMap (c_pre w m n)) : m 2 x < m 2 u := by
  obtain ⟨c, hc1, hc2⟩ := List.mem_flatMap.mp hx
  obtain ⟨k1, k2, -⟩ := c_kid_LN hK hu (by omega) (hs c hc1)
  obtain ⟨-, j, -, q3, -⟩ := c_pre_sub hK n c x k1 (by omega) hc2
  omega
theorem c_kid_at {w : Nat} {m : vl_M} {X : Int → Prop} (hK : s_K w m X) {u i : Int} (hu : c_LN m u) (hl : 0 < m 2 u) (h1 : 0 ≤ i) (h2 : i < m 9 u) : c_LN m (c_k w m u i) ∧ m 2 (c_k w m u i) = m 2 u - 1 ∧ m 8 (c_k w m u i) = u ∧ c_k w m u i ≠ m 11 6 := c_kid_LN hK hu hl (c_kids_mem.mpr ⟨i, h1, h2, rfl⟩)
theorem d_prB {w N : Nat} {m r : vl_M} {φ : Int → Int} {X : Int → Prop} (hN : 100000 ≤ N) (h : q_I w m r φ X (-1)) (h0 : ∀ s, c_LN m s → s ≠ m 11 6 → 0 < m 9 s) : ∀ (n rr : Nat) (a b : Int), c_LN m a → c_LN m b → a ≠ b → m 2 a = (n : Int) → m 2 b = (n : Int) → r_mt (c_rt m a) (c_rt m b) → n < rr → fn_X8_pairsOf N rr r (φ a) (φ b) = some ((pu_cr (v_pp m) (c_pre w m n a) (c_pre w m n b) : Nat) : Int) := by
  obtain ⟨⟨hP, hK, hA, hR⟩, -, hT, ⟨hsn, hsi, -⟩, -⟩ := id h
  have hw11 := hP.1.2
  intro n
  induction n with
  | zero =>
    intro rr a b ha hb hab la lb hm hr
    obtain ⟨rr, rfl⟩ : ∃ x, rr = x + 1 := ⟨rr - 1, by omega⟩
    obtain ⟨N', e⟩ : ∃ k, N = k + 1 := ⟨N - 1, by omega⟩
    obtain ⟨⟨b1, b2, b3⟩, -⟩ := hsn a ha
    have e1 : pu_cr (v_pp m) (c_pre w m 0 a) (c_pre w m 0 b) = 1 := by
      show ([b].filter (fun x => v_pp m x a)).length + 0 = 1
      have : v_pp m b a = true := by unfold v_pp; rw [decide_eq_true (by rw [la, lb]), r_mtb_t.mpr hm]; rfl
      rw [List.filter_cons_of_pos (p := fun x => v_pp m x a) this]; rfl
    rw [e1, fn_X8_pairsOf]
    conv => lhs; arg 7; rw [e]
    rw [fn_X8_pairsOf_L5, pu_gd b1, b2, la, pu_gd (by decide), if_neg (by decide)]
    rfl
  | succ n ih =>
    intro rr a b ha hb hab la lb hm hr
    obtain ⟨rr, rfl⟩ : ∃ x, rr = x + 1 := ⟨rr - 1, by omega⟩
    obtain ⟨⟨a1, a2, a3⟩, a4, -⟩ := hsn a ha
    obtain ⟨⟨b1, b2, b3⟩, b4, -⟩ := hsn b hb
    have hza := (hK a ha).1
    have hzb := (hK b hb).1
    have hφab : φ a ≠ φ b := fun z => hab (hsi.1 a b ha hb z)
    have kA : ∀ i, 0 ≤ i → i < m 9 a → c_LN m (c_k w m a i) ∧ m 2 (c_k w m a i) = (n : Int) ∧ m 8 (c_k w m a i) = a ∧ c_k w m a i ≠ m 11 6 := fun i i1 i2 => by
      have := c_kid_at hK ha (by omega) i1 i2
      exact ⟨this.1, by omega, this.2.2.1, this.2.2.2⟩
    have kB : ∀ i, 0 ≤ i → i < m 9 b → c_LN m (c_k w m b i) ∧ m 2 (c_k w m b i) = (n : Int) ∧ m 8 (c_k w m b i) = b ∧ c_k w m b i ≠ m 11 6 := fun i i1 i2 => by
      have := c_kid_at hK hb (by omega) i1 i2
      exact ⟨this.1, by omega, this.2.2.1, this.2.2.2⟩
    have outer : ∀ (k fu : Nat) (v c : Int), 0 ≤ v → v + (k : Int) = m 9 a → k < fu → fn_X8_pairsOf_L5 N (fn_X8_pairsOf N rr) r (φ a) (φ b) (fun (v3 : Int) (v4 : Int) => some (v3)) fu c v = some (c + ((pu_cr (v_pp m) (((pu_seq k v).map (c_k w m a)).flatMap (c_pre w m n)) ((c_kids w m b).flatMap (c_pre w m n)) : Nat) : Int)) := by
      intro k
      induction k with
      | zero =>
        intro fu v c h1 h2 h3
        obtain ⟨fu, rfl⟩ : ∃ x, fu = x + 1 := ⟨fu - 1, by omega⟩
        rw [fn_X8_pairsOf_L5, pu_gd a1, a2, pu_gd ⟨by omega, by omega⟩, if_pos (by omega), pu_gd ⟨by omega, by omega⟩, a3, pu_gd ⟨by omega, by omega⟩, if_neg (by omega)]
        show some c = some (c + 0)
        rw [Int.add_zero]
      | succ k ihk =>
        intro fu v c h1 h2 h3
        obtain ⟨fu, rfl⟩ : ∃ x, fu = x + 1 := ⟨fu - 1, by omega⟩
        obtain ⟨p1, p2, p3, p4⟩ := kA v h1 (by omega)
        have hthA := q_thing h (Or.inr p1) (by have := p1.1; omega) (fun _ => h0 _ p1 p4)
        have hin := d_prI (w := w) (N := N) (rr := rr) (n := n) (m := m) (r := r) (φ := φ) (a := a) (b := b) (i := v) (κ := fun (v15 : Int) (v16 : Int) => vl_lt (v + 1) fun v17 => fn_X8_pairsOf_L5 N (fn_X8_pairsOf N rr) r (φ a) (φ b) (fun (v3 : Int) (v4 : Int) => some (v3)) fu v15 v17) a1 b1 ⟨h1, by omega⟩ b3 ⟨hzb.2.1, by omega⟩ (a4 v h1 (by omega)) b4 (hsn _ p1).1.1 (fun j j1 j2 => (hsn _ (kB j j1 j2).1).1.1) (fun j j1 j2 _ => by
          obtain ⟨s1, s2, s3, s4⟩ := kB j j1 j2
          have hthB := q_thing h (Or.inr s1) (by have := s1.1; omega) (fun _ => h0 _ s1 s4)
          rw [(hsn _ p1).1.2.1, (hsn _ s1).1.2.1]
          have := d_meet (r := r) hthA.1 hthB.1 (by rw [hthA.2.1]; exact hthA.2.2) (by rw [hthB.2.1]; exact hthB.2.2)
          rw [hthA.2.1, hthB.2.1] at this
          exact this) (m 9 b).toNat N 0 c (by omega) (by omega) (by omega) (fun j j1 j2 => by
          obtain ⟨s1, s2, s3, s4⟩ := kB j (by omega) j2
          have hne : c_k w m a v ≠ c_k w m b j := fun z => hab (by rw [← p3, z, s3])
          exact ⟨fun z => hne (hsi.1 _ _ p1 s1 z), fun hmm => ih rr _ _ p1 s1 hne p2 s2 hmm (by omega), fun hmm => v_cr_0 hK hT (by decide) p1 s1 p2 s2 hmm⟩)
        rw [fn_X8_pairsOf_L5, pu_gd a1, a2, pu_gd ⟨by omega, by omega⟩, if_pos (by omega), pu_gd ⟨by omega, by omega⟩, a3, pu_gd ⟨by omega, by omega⟩, if_pos (by omega), pu_gd ⟨by omega, by omega⟩, pu_jn, if_neg hφab]
        dsimp only
        rw [hin, pu_lt, ihk fu (v + 1) _ (by omega) (by omega) (by omega), pu_seq_cons, List.map_cons, List.flatMap_cons, pu_cr_l]
        congr 1
        have : (((pu_seq (m 9 b).toNat 0).map (c_k w m b)).flatMap (c_pre w m n)) = (c_kids w m b).flatMap (c_pre w m n) := rfl
        rw [this]
        omega
    rw [fn_X8_pairsOf, outer (m 9 a).toNat N 0 1 (by omega) (by omega) (by omega)]
    congr 1
    have e1 : pu_cr (v_pp m) (c_pre w m (n + 1) a) (c_pre w m (n + 1) b) = ((b :: (c_kids w m b).flatMap (c_pre w m n)).filter (fun x => v_pp m x a)).length + pu_cr (v_pp m) ((c_kids w m a).flatMap (c_pre w m n)) ([b] ++ (c_kids w m b).flatMap (c_pre w m n)) := rfl
    have e2 : v_pp m b a = true := by unfold v_pp; rw [decide_eq_true (by rw [la, lb]), r_mtb_t.mpr hm]; rfl
    have e3 : ((c_kids w m b).flatMap (c_pre w m n)).filter (fun x => v_pp m x a) = [] := List.filter_eq_nil_iff.mpr (fun x hx => by
      have := c_fl_lv hK hb lb (fun c hc => hc) hx
      rw [v_pp_lv (by omega)]; decide)
    have e4 : pu_cr (v_pp m) ((c_kids w m a).flatMap (c_pre w m n)) [b] = 0 := pu_cr_0 _ _ _ (fun x y hx hy => by
      have := c_fl_lv hK ha la (fun c hc => hc) hx
      have hyb : y = b := by simpa using hy
      rw [hyb]
      exact v_pp_lv (by omega))
    rw [e1, pu_cr_r, e4, List.filter_cons_of_pos (p := fun x => v_pp m x a) e2, e3]
    show (1 : Int) + ((pu_cr (v_pp m) ((c_kids w m a).flatMap (c_pre w m n)) ((c_kids w m b).flatMap (c_pre w m n)) : Nat) : Int) = ((1 + (0 + pu_cr (v_pp m) ((c_kids w m a).flatMap (c_pre w m n)) ((c_kids w m b).flatMap (c_pre w m n))) : Nat) : Int)
    omega
theorem d_prC {w N : Nat} {m r : vl_M} {φ : Int → Int} {X : Int → Prop} (hN : 100000 ≤ N) (h : q_I w m r φ X (-1)) (h0 : ∀ s, c_LN m s → s ≠ m 11 6 → 0 < m 9 s) : ∀ (n rr : Nat) (a : Int), c_LN m a → m 2 a = (n : Int) → n < rr → fn_X8_pairsOf N rr r (φ a) (φ a) = some (((c_pre w m n a).length + pu_pc (v_pp m) (c_pre w m n a) : Nat) : Int) := by
  obtain ⟨⟨hP, hK, hA, hR⟩, -, hT, ⟨hsn, hsi, -⟩, -⟩ := id h
  have hw11 := hP.1.2
  intro n
  induction n with
  | zero =>
    intro rr a ha la hr
    obtain ⟨rr, rfl⟩ : ∃ x, rr = x + 1 := ⟨rr - 1, by omega⟩
    obtain ⟨N', e⟩ : ∃ k, N = k + 1 := ⟨N - 1, by omega⟩
    obtain ⟨⟨b1, b2, b3⟩, -⟩ := hsn a ha
    rw [fn_X8_pairsOf]
    conv => lhs; arg 7; rw [e]
    rw [fn_X8_pairsOf_L5, pu_gd b1, b2, la, pu_gd (by decide), if_neg (by decide)]
    rfl
  | succ n ih =>
    intro rr a ha la hr
    obtain ⟨rr, rfl⟩ : ∃ x, rr = x + 1 := ⟨rr - 1, by omega⟩
    obtain ⟨⟨a1, a2, a3⟩, a4, -⟩ := hsn a ha
    have hza := (hK a ha).1
    have kA : ∀ i, 0 ≤ i → i < m 9 a → c_LN m (c_k w m a i) ∧ m 2 (c_k w m a i) = (n : Int) ∧ m 8 (c_k w m a i) = a ∧ c_k w m a i ≠ m 11 6 := fun i i1 i2 => by
      have := c_kid_at hK ha (by omega) i1 i2
      exact ⟨this.1, by omega, this.2.2.1, this.2.2.2⟩
    have outer : ∀ (k fu : Nat) (v c : Int), 0 ≤ v → v + (k : Int) = m 9 a → k < fu → fn_X8_pairsOf_L5 N (fn_X8_pairsOf N rr) r (φ a) (φ a) (fun (v3 : Int) (v4 : Int) => some (v3)) fu c v = some (c + (((((pu_seq k v).map (c_k w m a)).flatMap (c_pre w m n)).length + pu_pc (v_pp m) (((pu_seq k v).map (c_k w m a)).flatMap (c_pre w m n)) : Nat) : Int)) := by
      intro k
      induction k with
      | zero =>
        intro fu v c h1 h2 h3
        obtain ⟨fu, rfl⟩ : ∃ x, fu = x + 1 := ⟨fu - 1, by omega⟩
        rw [fn_X8_pairsOf_L5, pu_gd a1, a2, pu_gd ⟨by omega, by omega⟩, if_pos (by omega), pu_gd ⟨by omega, by omega⟩, a3, pu_gd ⟨by omega, by omega⟩, if_neg (by omega)]
        show some c = some (c + 0)
        rw [Int.add_zero]
      | succ k ihk =>
        intro fu v c h1 h2 h3
        obtain ⟨fu, rfl⟩ : ∃ x, fu = x + 1 := ⟨fu - 1, by omega⟩
        obtain ⟨p1, p2, p3, p4⟩ := kA v h1 (by omega)
        have hthA := q_thing h (Or.inr p1) (by have := p1.1; omega) (fun _ => h0 _ p1 p4)
        have hdv := (hsn _ p1).1.1
        have hin := d_prI (w := w) (N := N) (rr := rr) (n := n) (m := m) (r := r) (φ := φ) (a := a) (b := a) (i := v) (κ := fun (v15 : Int) (v16 : Int) => vl_lt (v + 1) fun v17 => fn_X8_pairsOf_L5 N (fn_X8_pairsOf N rr) r (φ a) (φ a) (fun (v3 : Int) (v4 : Int) => some (v3)) fu v15 v17) a1 a1 ⟨h1, by omega⟩ a3 ⟨hza.2.1, by omega⟩ (a4 v h1 (by omega)) a4 hdv (fun j j1 j2 => (hsn _ (kA j j1 j2).1).1.1) (fun j j1 j2 _ => by
          obtain ⟨s1, s2, s3, s4⟩ := kA j j1 j2
          have hthB := q_thing h (Or.inr s1) (by have := s1.1; omega) (fun _ => h0 _ s1 s4)
          rw [(hsn _ p1).1.2.1, (hsn _ s1).1.2.1]
          have := d_meet (r := r) hthA.1 hthB.1 (by rw [hthA.2.1]; exact hthA.2.2) (by rw [hthB.2.1]; exact hthB.2.2)
          rw [hthA.2.1, hthB.2.1] at this
          exact this) k (N - 1) (v + 1) (c + (((c_pre w m n (c_k w m a v)).length + pu_pc (v_pp m) (c_pre w m n (c_k w m a v)) : Nat) : Int)) (by omega) (by omega) (by omega) (fun j j1 j2 => by
          obtain ⟨s1, s2, s3, s4⟩ := kA j (by omega) j2
          have hne : c_k w m a v ≠ c_k w m a j := fun z => by
            have := ((hK a ha).2 v h1 (by omega)).2.2 j (by omega) j2 z
            omega
          exact ⟨fun z => hne (hsi.1 _ _ p1 s1 z), fun hmm => d_prB hN h h0 n rr _ _ p1 s1 hne p2 s2 hmm (by omega), fun hmm => v_cr_0 hK hT (by decide) p1 s1 p2 s2 hmm⟩)
        obtain ⟨N', e⟩ : ∃ k, N = k + 1 := ⟨N - 1, by omega⟩
        have hin1 : fn_X8_pairsOf_L38 N (fn_X8_pairsOf N rr) r (φ a) (φ a) v (fun (v15 : Int) (v16 : Int) => vl_lt (v + 1) fun v17 => fn_X8_pairsOf_L5 N (fn_X8_pairsOf N rr) r (φ a) (φ a) (fun (v3 : Int) (v4 : Int) => some (v3)) fu v15 v17) N c v = fn_X8_pairsOf_L38 N (fn_X8_pairsOf N rr) r (φ a) (φ a) v (fun (v15 : Int) (v16 : Int) => vl_lt (v + 1) fun v17 => fn_X8_pairsOf_L5 N (fn_X8_pairsOf N rr) r (φ a) (φ a) (fun (v3 : Int) (v4 : Int) => some (v3)) fu v15 v17) (N - 1) (c + (((c_pre w m n (c_k w m a v)).length + pu_pc (v_pp m) (c_pre w m n (c_k w m a v)) : Nat) : Int)) (v + 1) := by
          conv => lhs; arg 8; rw [e]
          rw [fn_X8_pairsOf_L38, pu_gd a1, pu_gd ⟨by omega, by omega⟩, a3, pu_gd ⟨by omega, by omega⟩, if_pos (by omega), d_held a1 ⟨h1, by omega⟩, Option.bind_some, Option.bind_some, a4 v h1 (by omega), pu_gd ⟨by omega, by omega⟩, pu_gd ⟨by omega, by omega⟩, pu_jn, if_pos rfl, ih rr _ p1 p2 (by omega), Option.bind_some]
          dsimp only
          rw [pu_lt, pu_lt, show N' = N - 1 by omega]
        rw [fn_X8_pairsOf_L5, pu_gd a1, a2, pu_gd ⟨by omega, by omega⟩, if_pos (by omega), pu_gd ⟨by omega, by omega⟩, a3, pu_gd ⟨by omega, by omega⟩, if_pos (by omega), pu_gd ⟨by omega, by omega⟩, pu_jn, if_pos rfl]
        dsimp only
        rw [hin1, hin, pu_lt, ihk fu (v + 1) _ (by omega) (by omega) (by omega), pu_seq_cons, List.map_cons, List.flatMap_cons, pu_pc_app, List.length_append]
        congr 1
        omega
    rw [fn_X8_pairsOf, outer (m 9 a).toNat N 0 1 (by omega) (by omega) (by omega)]
    congr 1
    have e1 : c_pre w m (n + 1) a = a :: (c_kids w m a).flatMap (c_pre w m n) := rfl
    have e2 : pu_pc (v_pp m) (a :: (c_kids w m a).flatMap (c_pre w m n)) = (((c_kids w m a).flatMap (c_pre w m n)).filter (fun x => v_pp m x a)).length + pu_pc (v_pp m) ((c_kids w m a).flatMap (c_pre w m n)) := rfl
    have e3 : ((c_kids w m a).flatMap (c_pre w m n)).filter (fun x => v_pp m x a) = [] := List.filter_eq_nil_iff.mpr (fun x hx => by
      have := c_fl_lv hK ha la (fun c hc => hc) hx
      rw [v_pp_lv (by omega)]; decide)
    rw [e1, e2, e3, List.length_cons]
    have : (((pu_seq (m 9 a).toNat 0).map (c_k w m a)).flatMap (c_pre w m n)) = (c_kids w m a).flatMap (c_pre w m n) := rfl
    rw [this, List.length_nil]
    omega
