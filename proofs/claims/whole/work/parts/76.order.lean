/-! ===== PURE, 37: the nodes in their order ===== -/
def c_kids (w : Nat) (m : vl_M) (u : Int) : List Int := (pu_seq (m 9 u).toNat 0).map (c_k w m u)
def c_pre (w : Nat) (m : vl_M) : Nat → Int → List Int
  | 0, u => [u]
  | n + 1, u => u :: (c_kids w m u).flatMap (c_pre w m n)
theorem c_pre_congr {w : Nat} {m m' : vl_M} (h9 : m' 9 = m 9) (h10 : m' 10 = m 10) : ∀ (n : Nat) (u : Int), c_pre w m' n u = c_pre w m n u := by
  intro n
  induction n with
  | zero => intro u; rfl
  | succ n ih =>
    intro u
    have e : c_kids w m' u = c_kids w m u := by
      unfold c_kids
      rw [h9]
      refine List.map_congr_left (fun i _ => ?_)
      unfold c_k
      rw [h10]
    have e2 : c_pre w m' n = c_pre w m n := funext ih
    show u :: (c_kids w m' u).flatMap (c_pre w m' n) = u :: (c_kids w m u).flatMap (c_pre w m n)
    rw [e, e2]
theorem c_kids_mem {w : Nat} {m : vl_M} {u x : Int} : x ∈ c_kids w m u ↔ ∃ i, 0 ≤ i ∧ i < m 9 u ∧ c_k w m u i = x := by
  unfold c_kids
  rw [List.mem_map]
  constructor
  · rintro ⟨i, h1, h2⟩
    have := (pu_seq_mem _ _ _).mp h1
    exact ⟨i, by omega, by omega, h2⟩
  · rintro ⟨i, h1, h2, h3⟩
    exact ⟨i, (pu_seq_mem _ _ _).mpr ⟨by omega, by omega⟩, h3⟩
theorem pu_map_nodup {f : Int → Int} : ∀ (l : List Int), (∀ a b, a ∈ l → b ∈ l → f a = f b → a = b) → l.Nodup → (l.map f).Nodup := by
  intro l
  induction l with
  | nil => intro _ _; exact List.nodup_nil
  | cons z t ih =>
    intro hz hn
    obtain ⟨n1, n2⟩ := List.nodup_cons.mp hn
    rw [List.map_cons]
    refine List.nodup_cons.mpr ⟨fun hm => ?_, ih (fun a b ha hb => hz a b (List.mem_cons_of_mem _ ha) (List.mem_cons_of_mem _ hb)) n2⟩
    obtain ⟨y, hy1, hy2⟩ := List.mem_map.mp hm
    have := hz z y List.mem_cons_self (List.mem_cons_of_mem _ hy1) hy2.symm
    exact n1 (by rw [this]; exact hy1)
theorem c_kids_nodup {w : Nat} {m : vl_M} {X : Int → Prop} (hK : s_K w m X) {u : Int} (hu : c_LN m u) : (c_kids w m u).Nodup := by
  unfold c_kids
  refine pu_map_nodup _ (fun a b ha hb e => ?_) (pu_seq_nodup _ _)
  have h1 := (pu_seq_mem _ _ _).mp ha
  have h2 := (pu_seq_mem _ _ _).mp hb
  exact ((hK u hu).2 a (by omega) (by omega)).2.2 b (by omega) (by omega) e
theorem pu_flat_nodup {f : Int → List Int} : ∀ (l : List Int), l.Nodup → (∀ a, a ∈ l → (f a).Nodup) → (∀ a b x, a ∈ l → b ∈ l → x ∈ f a → x ∈ f b → a = b) → (l.flatMap f).Nodup := by
  intro l
  induction l with
  | nil => intro _ _ _; exact List.nodup_nil
  | cons z t ih =>
    intro hn h1 h2
    obtain ⟨n1, n2⟩ := List.nodup_cons.mp hn
    rw [List.flatMap_cons]
    refine List.nodup_append.mpr ⟨h1 z List.mem_cons_self, ih n2 (fun a ha => h1 a (List.mem_cons_of_mem _ ha)) (fun a b x ha hb => h2 a b x (List.mem_cons_of_mem _ ha) (List.mem_cons_of_mem _ hb)), fun x hx y hy e => ?_⟩
    obtain ⟨b, hb1, hb2⟩ := List.mem_flatMap.mp hy
    have := h2 z b x List.mem_cons_self (List.mem_cons_of_mem _ hb1) hx (by rw [e]; exact hb2)
    exact n1 (by rw [this]; exact hb1)
/-- a kid that is a node -/
theorem c_kid_LN {w : Nat} {m : vl_M} {X : Int → Prop} (hK : s_K w m X) {u x : Int} (hu : c_LN m u) (hl : 0 < m 2 u) (hx : x ∈ c_kids w m u) : c_LN m x ∧ m 2 x = m 2 u - 1 ∧ m 8 x = u ∧ x ≠ m 11 6 := by
  obtain ⟨i, i1, i2, e⟩ := c_kids_mem.mp hx
  obtain ⟨⟨a1, a2⟩, ⟨a3, a4, a5⟩, -⟩ := (hK u hu).2 i i1 i2
  rw [e] at a1 a2 a3 a5
  exact ⟨c_LT_N a1 (by omega), a2, a3, a5⟩
theorem c_pre_sub {w : Nat} {m : vl_M} {X : Int → Prop} (hK : s_K w m X) : ∀ (n : Nat) (u x : Int), c_LN m u → m 2 u = (n : Int) → x ∈ c_pre w m n u → c_LN m x ∧ ∃ j : Nat, j ≤ n ∧ m 2 x = (n : Int) - (j : Int) ∧ c_anc m j x = u := by
  intro n
  induction n with
  | zero =>
    intro u x hu hl hx
    have e : x = u := by simpa [c_pre] using hx
    rw [e]; exact ⟨hu, 0, by omega, by omega, rfl⟩
  | succ n ih =>
    intro u x hu hl hx
    rcases List.mem_cons.mp hx with e | hx
    · rw [e]; exact ⟨hu, 0, by omega, by omega, rfl⟩
    · obtain ⟨c, hc1, hc2⟩ := List.mem_flatMap.mp hx
      obtain ⟨k1, k2, k3, -⟩ := c_kid_LN hK hu (by omega) hc1
      obtain ⟨q1, j, q2, q3, q4⟩ := ih c x k1 (by omega) hc2
      refine ⟨q1, j + 1, by omega, by omega, ?_⟩
      show m 8 (c_anc m j x) = u
      rw [q4, k3]
theorem c_pre_nodup {w : Nat} {m : vl_M} {X : Int → Prop} (hK : s_K w m X) : ∀ (n : Nat) (u : Int), c_LN m u → m 2 u = (n : Int) → (c_pre w m n u).Nodup := by
  intro n
  induction n with
  | zero => intro u _ _; simp [c_pre]
  | succ n ih =>
    intro u hu hl
    show (u :: (c_kids w m u).flatMap (c_pre w m n)).Nodup
    refine List.nodup_cons.mpr ⟨fun h => ?_, pu_flat_nodup _ (c_kids_nodup hK hu) (fun c hc => ?_) (fun a b x ha hb hxa hxb => ?_)⟩
    · obtain ⟨c, hc1, hc2⟩ := List.mem_flatMap.mp h
      obtain ⟨k1, k2, -⟩ := c_kid_LN hK hu (by omega) hc1
      obtain ⟨-, j, -, q3, -⟩ := c_pre_sub hK n c u k1 (by omega) hc2
      omega
    · obtain ⟨k1, k2, -⟩ := c_kid_LN hK hu (by omega) hc
      exact ih c k1 (by omega)
    · obtain ⟨k1, k2, -⟩ := c_kid_LN hK hu (by omega) ha
      obtain ⟨l1, l2, -⟩ := c_kid_LN hK hu (by omega) hb
      obtain ⟨-, j, -, q3, q4⟩ := c_pre_sub hK n a x k1 (by omega) hxa
      obtain ⟨-, j', -, q3', q4'⟩ := c_pre_sub hK n b x l1 (by omega) hxb
      have : j = j' := by omega
      rw [← q4, ← q4', this]
theorem pu_getD {L : List Int} {i : Nat} (h : i < L.length) : L.getD i 0 = L[i] := by
  rw [List.getD_eq_getElem?_getD, List.getElem?_eq_getElem h]; rfl
theorem pu_len_le {L : List Int} {a : Int} {n : Nat} (hn : L.Nodup) (h : ∀ x, x ∈ L → a ≤ x ∧ x < a + (n : Int)) : L.length ≤ n := by
  refine pu_pig n L.length (fun i => (L.getD i 0 - a).toNat) (fun i hi => ?_) (fun i j hi hj e => ?_)
  · have hm : L.getD i 0 ∈ L := by rw [pu_getD hi]; exact List.getElem_mem hi
    have := h _ hm
    omega
  · have hm : L.getD i 0 ∈ L := by rw [pu_getD hi]; exact List.getElem_mem hi
    have hm' : L.getD j 0 ∈ L := by rw [pu_getD hj]; exact List.getElem_mem hj
    have h1 := h _ hm
    have h2 := h _ hm'
    have e' : L.getD i 0 = L.getD j 0 := by omega
    rw [pu_getD hi, pu_getD hj] at e'
    exact (List.getElem?_inj (i := i) hi hn).mp (by rw [List.getElem?_eq_getElem hi, List.getElem?_eq_getElem hj, e'])
/-- numbering, one after the other -/
def c_nb : vl_M → List Int → vl_M
  | m, [] => m
  | m, x :: L => c_nb (vl_up (vl_up (vl_up m 7 x (m 11 5)) 11 5 (m 11 5 + 1)) 13 (m 11 5) x) L
theorem c_nb_app : ∀ (A B : List Int) (m : vl_M), c_nb m (A ++ B) = c_nb (c_nb m A) B := by
  intro A
  induction A with
  | nil => intro B m; rfl
  | cons x A ih => intro B m; exact ih B _
theorem c_nb_h : ∀ (L : List Int) (m : vl_M) {h : Nat}, h ≠ 7 → h ≠ 11 → h ≠ 13 → c_nb m L h = m h := by
  intro L
  induction L with
  | nil => intro m h _ _ _; rfl
  | cons x L ih =>
    intro m h h1 h2 h3
    show c_nb (vl_up (vl_up (vl_up m 7 x (m 11 5)) 11 5 (m 11 5 + 1)) 13 (m 11 5) x) L h = m h
    rw [ih _ h1 h2 h3, up_h _ _ _ h3, up_h _ _ _ h2, up_h _ _ _ h1]
theorem c_nb_5 : ∀ (L : List Int) (m : vl_M), c_nb m L 11 5 = m 11 5 + (L.length : Int) := by
  intro L
  induction L with
  | nil => intro m; show m 11 5 = _; simp
  | cons x L ih =>
    intro m
    show c_nb (vl_up (vl_up (vl_up m 7 x (m 11 5)) 11 5 (m 11 5 + 1)) 13 (m 11 5) x) L 11 5 = _
    rw [ih, up_h _ _ _ (by decide), up_s, List.length_cons]; omega
theorem c_nb_11 : ∀ (L : List Int) (m : vl_M) {j : Int}, j ≠ 5 → c_nb m L 11 j = m 11 j := by
  intro L
  induction L with
  | nil => intro m j _; rfl
  | cons x L ih =>
    intro m j hj
    show c_nb (vl_up (vl_up (vl_up m 7 x (m 11 5)) 11 5 (m 11 5 + 1)) 13 (m 11 5) x) L 11 j = _
    rw [ih _ hj, up_h _ _ _ (by decide), up_i _ _ hj, up_h _ _ _ (by decide)]
theorem c_nb_7n : ∀ (L : List Int) (m : vl_M) {x : Int}, x ∉ L → c_nb m L 7 x = m 7 x := by
  intro L
  induction L with
  | nil => intro m x _; rfl
  | cons y L ih =>
    intro m x hx
    obtain ⟨h1, h2⟩ := pu_nmem.mp hx
    show c_nb (vl_up (vl_up (vl_up m 7 y (m 11 5)) 11 5 (m 11 5 + 1)) 13 (m 11 5) y) L 7 x = _
    rw [ih _ h2, up_h _ _ _ (by decide), up_h _ _ _ (by decide), up_i _ _ h1]
theorem c_nb_13n : ∀ (L : List Int) (m : vl_M) {j : Int}, j < m 11 5 → c_nb m L 13 j = m 13 j := by
  intro L
  induction L with
  | nil => intro m j _; rfl
  | cons y L ih =>
    intro m j hj
    show c_nb (vl_up (vl_up (vl_up m 7 y (m 11 5)) 11 5 (m 11 5 + 1)) 13 (m 11 5) y) L 13 j = _
    rw [ih _ (by rw [up_h _ _ _ (by decide), up_s]; omega), up_i _ _ (by omega), up_h _ _ _ (by decide), up_h _ _ _ (by decide)]
theorem c_nb_at : ∀ (L : List Int) (m : vl_M), L.Nodup → ∀ (k : Nat) (x : Int), L[k]? = some x → c_nb m L 13 (m 11 5 + (k : Int)) = x ∧ c_nb m L 7 x = m 11 5 + (k : Int) := by
  intro L
  induction L with
  | nil => intro m _ k x hx; simp at hx
  | cons y L ih =>
    intro m hn k x hx
    obtain ⟨n1, n2⟩ := List.nodup_cons.mp hn
    have e5 : vl_up (vl_up (vl_up m 7 y (m 11 5)) 11 5 (m 11 5 + 1)) 13 (m 11 5) y 11 5 = m 11 5 + 1 := by rw [up_h _ _ _ (by decide), up_s]
    show c_nb (vl_up (vl_up (vl_up m 7 y (m 11 5)) 11 5 (m 11 5 + 1)) 13 (m 11 5) y) L 13 _ = x ∧ c_nb (vl_up (vl_up (vl_up m 7 y (m 11 5)) 11 5 (m 11 5 + 1)) 13 (m 11 5) y) L 7 x = _
    cases k with
    | zero =>
      have e : y = x := by simpa using hx
      subst e
      rw [c_nb_13n L _ (by rw [e5]; omega), c_nb_7n L _ n1]
      refine ⟨?_, ?_⟩
      · rw [show m 11 5 + ((0 : Nat) : Int) = m 11 5 by omega, up_s]
      · rw [up_h _ _ _ (by decide), up_h _ _ _ (by decide), up_s]; omega
    | succ k =>
      have hx' : L[k]? = some x := by simpa using hx
      obtain ⟨g1, g2⟩ := ih (vl_up (vl_up (vl_up m 7 y (m 11 5)) 11 5 (m 11 5 + 1)) 13 (m 11 5) y) n2 k x hx'
      rw [e5] at g1 g2
      rw [show m 11 5 + ((k + 1 : Nat) : Int) = m 11 5 + 1 + (k : Int) by omega]
      exact ⟨g1, g2⟩
theorem pu_seq_cons (k : Nat) (i : Int) : pu_seq (k + 1) i = i :: pu_seq k (i + 1) := rfl
theorem c_numberL {w N rr n : Nat} {m : vl_M} {u a2 : Int} {κ : Int → vl_M → Option vl_M} (hu : c_nd u) (h9u : 0 ≤ m 9 u ∧ m 9 u ≤ (w : Int)) (hself : ∀ (i : Int) (m' : vl_M), 0 ≤ i → i < m 9 u → c_w w N m' → (m' 2 = m 2 ∧ m' 9 = m 9 ∧ m' 10 = m 10) → 0 ≤ m' 11 5 → m' 11 5 + ((c_pre w m n (c_k w m u i)).length : Int) ≤ 404 → fn_X5_numberFrom w N rr m' (c_k w m u i) (a2 + 1) = some (c_nb m' (c_pre w m n (c_k w m u i)))) :
    ∀ (k fu : Nat) (i : Int) (m' : vl_M), 0 ≤ i → i + (k : Int) = m 9 u → k < fu → c_w w N m' → (m' 2 = m 2 ∧ m' 9 = m 9 ∧ m' 10 = m 10) → 0 ≤ m' 11 5 → m' 11 5 + ((((pu_seq k i).map (c_k w m u)).flatMap (c_pre w m n)).length : Int) ≤ 404 → fn_X5_numberFrom_L64 w N (fn_X5_numberFrom w N rr) u a2 κ fu i m' = κ (m 9 u) (c_nb m' (((pu_seq k i).map (c_k w m u)).flatMap (c_pre w m n))) := by
  intro k
  induction k with
  | zero =>
    intro fu i m' h1 h2 h3 hw hm h5 h6
    have := hw.2.1
    obtain ⟨fu, rfl⟩ : ∃ x, fu = x + 1 := ⟨fu - 1, by omega⟩
    rw [fn_X5_numberFrom_L64, pu_gd ⟨by omega, by omega⟩, hm.2.1, pu_gd ⟨by omega, by omega⟩, if_neg (by omega), show i = m 9 u by omega]
    rfl
  | succ k ih =>
    intro fu i m' h1 h2 h3 hw hm h5 h6
    have h11 := hw.2.1
    obtain ⟨fu, rfl⟩ : ∃ x, fu = x + 1 := ⟨fu - 1, by omega⟩
    have ek : c_k w m' u i = c_k w m u i := by unfold c_k; rw [hm.2.2]
    rw [pu_seq_cons, List.map_cons, List.flatMap_cons, List.length_append] at h6
    have hs := hself i m' h1 (by omega) hw hm h5 (by omega)
    rw [fn_X5_numberFrom_L64, pu_gd ⟨by omega, by omega⟩, hm.2.1, pu_gd ⟨by omega, by omega⟩, if_pos (by omega), c_thing hw hu ⟨by omega, by omega⟩, Option.bind_some, ek, hs, Option.bind_some, pu_lt]
    rw [ih fu (i + 1) _ (by omega) (by omega) (by omega) (c_w_of hw (c_nb_h _ _ (by decide) (by decide) (by decide))) ⟨by rw [c_nb_h _ _ (by decide) (by decide) (by decide)]; exact hm.1, by rw [c_nb_h _ _ (by decide) (by decide) (by decide)]; exact hm.2.1, by rw [c_nb_h _ _ (by decide) (by decide) (by decide)]; exact hm.2.2⟩ (by rw [c_nb_5]; omega) (by rw [c_nb_5]; omega)]
    rw [pu_seq_cons, List.map_cons, List.flatMap_cons, c_nb_app]
theorem c_number {w N : Nat} {m : vl_M} {X : Int → Prop} (hP : s_P w m) (hK : s_K w m X) (hN : 100000 ≤ N) : ∀ (n rr : Nat) (m' : vl_M) (u a2 : Int), c_w w N m' → (m' 2 = m 2 ∧ m' 9 = m 9 ∧ m' 10 = m 10) → c_LN m u → m 2 u = (n : Int) → n < rr → 0 ≤ a2 → a2 + (n : Int) < 40 → 0 ≤ m' 11 5 → m' 11 5 + ((c_pre w m n u).length : Int) ≤ 404 → fn_X5_numberFrom w N rr m' u a2 = some (c_nb m' (c_pre w m n u)) := by
  intro n
  induction n with
  | zero =>
    intro rr m' u a2 hw hm hu hl h1 h2 h3 h4 h5
    obtain ⟨rr, rfl⟩ : ∃ x, rr = x + 1 := ⟨rr - 1, by omega⟩
    have hnd := c_LN_nd hP hu
    have h5' : m' 11 5 + 1 ≤ 404 := by simpa [c_pre] using h5
    have e5 : vl_up m' 7 u (m' 11 5) 11 5 = m' 11 5 := by rw [up_h _ _ _ (by decide)]
    have e2 : vl_up (vl_up (vl_up m' 7 u (m' 11 5)) 11 5 (m' 11 5 + 1)) 13 (m' 11 5) u 2 u = 0 := by rw [up_h _ _ _ (by decide), up_h _ _ _ (by decide), up_h _ _ _ (by decide), hm.1, hl]; rfl
    rw [fn_X5_numberFrom, pu_gd ⟨by omega, by omega⟩, if_pos (by omega), pu_gd ⟨by omega, by omega⟩, if_pos (by omega), pu_gd ⟨by omega, by omega⟩, pu_lt, e5, pu_lt, pu_gd ⟨by omega, by omega⟩, pu_lt, e2, pu_gd (by decide), if_pos rfl]
    rfl
  | succ n ih =>
    intro rr m' u a2 hw hm hu hl h1 h2 h3 h4 h5
    obtain ⟨rr, rfl⟩ : ∃ x, rr = x + 1 := ⟨rr - 1, by omega⟩
    have hnd := c_LN_nd hP hu
    have hlt := (hK u hu).1
    have hw11 := hw.2.1
    have h5' : m' 11 5 + 1 + (((c_kids w m u).flatMap (c_pre w m n)).length : Int) ≤ 404 := by
      have e : c_pre w m (n + 1) u = u :: (c_kids w m u).flatMap (c_pre w m n) := rfl
      rw [e, List.length_cons] at h5
      omega
    have e5 : vl_up m' 7 u (m' 11 5) 11 5 = m' 11 5 := by rw [up_h _ _ _ (by decide)]
    generalize hm1 : vl_up (vl_up (vl_up m' 7 u (m' 11 5)) 11 5 (m' 11 5 + 1)) 13 (m' 11 5) u = m1
    have m1h : ∀ h : Nat, h ≠ 7 → h ≠ 11 → h ≠ 13 → m1 h = m' h := fun h x y z => by rw [← hm1, up_h _ _ _ z, up_h _ _ _ y, up_h _ _ _ x]
    have m15 : m1 11 5 = m' 11 5 + 1 := by rw [← hm1, up_h _ _ _ (by decide), up_s]
    have e2 : m1 2 u = m 2 u := by rw [m1h 2 (by decide) (by decide) (by decide), hm.1]
    have hm1' : m1 2 = m 2 ∧ m1 9 = m 9 ∧ m1 10 = m 10 := ⟨by rw [m1h 2 (by decide) (by decide) (by decide)]; exact hm.1, by rw [m1h 9 (by decide) (by decide) (by decide)]; exact hm.2.1, by rw [m1h 10 (by decide) (by decide) (by decide)]; exact hm.2.2⟩
    have hL := c_numberL (N := N) (rr := rr) (n := n) (a2 := a2) (κ := fun (v13 : Int) (m14 : vl_M) => some m14) hnd hlt.2 (fun i m'' i1 i2 hw' hm' q1 q2 => by
      have hmem : c_k w m u i ∈ c_kids w m u := c_kids_mem.mpr ⟨i, i1, i2, rfl⟩
      obtain ⟨k1, k2, -⟩ := c_kid_LN hK hu (by omega) hmem
      exact ih rr m'' _ (a2 + 1) hw' hm' k1 (by omega) (by omega) (by omega) (by omega) q1 q2) (m 9 u).toNat N 0 m1 (by omega) (by omega) (by omega) (c_w_of hw (m1h 1 (by decide) (by decide) (by decide))) hm1' (by omega) (by rw [m15]; exact h5')
    rw [fn_X5_numberFrom, pu_gd ⟨by omega, by omega⟩, if_pos (by omega), pu_gd ⟨by omega, by omega⟩, if_pos (by omega), pu_gd ⟨by omega, by omega⟩, pu_lt, e5, pu_lt, pu_gd ⟨by omega, by omega⟩, pu_lt, hm1, e2, pu_gd ⟨by omega, by omega⟩, if_neg (by omega), hL]
    show some (c_nb m1 ((c_kids w m u).flatMap (c_pre w m n))) = some (c_nb m' (u :: (c_kids w m u).flatMap (c_pre w m n)))
    rw [← hm1]; rfl
/-- all nodes in their order -/
def c_ord (w : Nat) (m : vl_M) : List Int := c_pre w m (m 2 (m 11 6)).toNat (m 11 6)
def q_O (w : Nat) (m : vl_M) : Prop := m 11 5 = ((c_ord w m).length : Int) ∧ ∀ (k : Nat) (x : Int), (c_ord w m)[k]? = some x → m 13 (k : Int) = x ∧ m 7 x = (k : Int)
theorem c_ord_nodup {w : Nat} {m : vl_M} {X : Int → Prop} (hP : s_P w m) (hK : s_K w m X) (hR : c_LN m (m 11 6)) : (c_ord w m).Nodup ∧ (c_ord w m).length ≤ 404 ∧ ∀ x, x ∈ c_ord w m → c_LN m x := by
  have hl := hR.2
  have h1 := c_pre_nodup hK (m 2 (m 11 6)).toNat (m 11 6) hR (by omega)
  have h3 : ∀ x, x ∈ c_ord w m → c_LN m x := fun x hx => (c_pre_sub hK (m 2 (m 11 6)).toNat (m 11 6) x hR (by omega) hx).1
  exact ⟨h1, pu_len_le (a := 400) h1 (fun x hx => by have := c_LN_nd hP (h3 x hx); omega), h3⟩
theorem c_renumber {w N : Nat} {m : vl_M} {X : Int → Prop} (hP : s_P w m) (hK : s_K w m X) (hR : c_LN m (m 11 6)) (hN : 100000 ≤ N) (hlow : m 2 (m 11 6) ≤ 8) : ∃ m', fn_X5_renumber w N m = some m' ∧ q_O w m' ∧ (∀ h : Nat, h ≠ 7 → h ≠ 11 → h ≠ 13 → m' h = m h) ∧ (∀ u, ¬ c_LN m u → m' 7 u = m 7 u) ∧ (∀ j, j ≠ 5 → m' 11 j = m 11 j) := by
  obtain ⟨n1, n2, n3⟩ := c_ord_nodup hP hK hR
  have hl := hR.2
  have e6 : vl_up m 11 5 0 11 6 = m 11 6 := up_i _ _ (by decide)
  have e5 : vl_up m 11 5 0 11 5 = 0 := up_s _ _ _ _
  have hh : ∀ h : Nat, h ≠ 11 → vl_up m 11 5 0 h = m h := fun h x => up_h _ _ _ x
  have hnum := c_number hP hK hN (m 2 (m 11 6)).toNat 60 (vl_up m 11 5 0) (m 11 6) 0 ⟨hP.1.1, hP.1.2, hN, by rw [hh 1 (by decide)]; exact hP.2.1.1⟩ ⟨hh 2 (by decide), hh 9 (by decide), hh 10 (by decide)⟩ hR (by omega) (by omega) (by omega) (by omega) (by rw [e5]; omega) (by rw [e5]; unfold c_ord at n2; omega)
  have hfr : ∀ h : Nat, h ≠ 7 → h ≠ 11 → h ≠ 13 → c_nb (vl_up m 11 5 0) (c_ord w m) h = m h := fun h x y z => by rw [c_nb_h _ _ x y z, hh h y]
  refine ⟨c_nb (vl_up m 11 5 0) (c_ord w m), ?_, ?_, hfr, fun u hu => ?_, fun j hj => ?_⟩
  · unfold fn_X5_renumber
    rw [pu_lt, e6, hnum, Option.bind_some]
    rfl
  · have eo : c_ord w (c_nb (vl_up m 11 5 0) (c_ord w m)) = c_ord w m := by
      have : ∀ M, M 2 = m 2 → M 9 = m 9 → M 10 = m 10 → M 11 6 = m 11 6 → c_ord w M = c_ord w m := fun M h2 h9 h10 h6 => by
        unfold c_ord
        rw [h2, h6, c_pre_congr h9 h10]
      exact this _ (hfr 2 (by decide) (by decide) (by decide)) (hfr 9 (by decide) (by decide) (by decide)) (hfr 10 (by decide) (by decide) (by decide)) (by rw [c_nb_11 _ _ (by decide), e6])
    unfold q_O
    rw [eo]
    refine ⟨by rw [c_nb_5, e5]; omega, fun k x hx => ?_⟩
    obtain ⟨g1, g2⟩ := c_nb_at _ (vl_up m 11 5 0) n1 k x hx
    rw [e5, show (0 : Int) + (k : Int) = (k : Int) by omega] at g1 g2
    exact ⟨g1, g2⟩
  · rw [c_nb_7n _ _ (fun z => hu (n3 u z)), hh 7 (by decide)]
  · rw [c_nb_11 _ _ hj, up_i _ _ hj]
