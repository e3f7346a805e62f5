/-! ===== PURE, 7: how a node too full is shared, as lists of numbers of its things; the class does so ===== -/
/-- the least around some things, by their numbers -/
def mbl (f : Int → pR) : List Int → pR
  | [] => (0, 0, 0, 0)
  | a :: t => t.foldl (fun q x => r_cv q (f x)) (f a)
theorem mbl_app (f : Int → pR) (A : List Int) (x : Int) : mbl f (A ++ [x]) = if A = [] then f x else r_cv (mbl f A) (f x) := by
  cases A with
  | nil => rfl
  | cons a t => simp [mbl, List.foldl_append]
theorem mbl_ok {f : Int → pR} : ∀ (A : List Int), A ≠ [] → (∀ x, x ∈ A → r_ok (f x)) → r_ok (mbl f A) := by
  have key : ∀ (t : List Int) (q : pR), r_ok q → (∀ x, x ∈ t → r_ok (f x)) → r_ok (t.foldl (fun q x => r_cv q (f x)) q) := by
    intro t
    induction t with
    | nil => intro q h _; exact h
    | cons a t ih => intro q h h2; exact ih _ (r_cv_ok h (h2 a List.mem_cons_self)) (fun x hx => h2 x (List.mem_cons_of_mem _ hx))
  intro A h1 h2
  cases A with
  | nil => exact absurd rfl h1
  | cons a t => exact key t _ (h2 a List.mem_cons_self) (fun x hx => h2 x (List.mem_cons_of_mem _ hx))
/-- the first of those with the greatest d -/
def sp_pk (d : Int → Int) : List Int → Nat → Nat → Int → Nat
  | [], _, b, _ => b
  | x :: t, i, b, v => if v < d x then sp_pk d t (i + 1) i (d x) else sp_pk d t (i + 1) b v
theorem sp_pk_lt (d : Int → Int) : ∀ (l : List Int) (i b : Nat) (v : Int), b < i → sp_pk d l i b v < i + l.length := by
  intro l
  induction l with
  | nil => intro i b v h; exact h
  | cons x t ih =>
    intro i b v h
    unfold sp_pk
    split
    · have := ih (i + 1) i (d x) (by omega); simp only [List.length_cons]; omega
    · have := ih (i + 1) b v (by omega); simp only [List.length_cons]; omega
theorem sp_pk_lt0 {d : Int → Int} (hd : ∀ x, 0 ≤ d x) (x : Int) (t : List Int) : sp_pk d (x :: t) 0 0 (-1) < t.length + 1 := by
  unfold sp_pk
  rw [if_pos (by have := hd x; omega)]
  have := sp_pk_lt d t (0 + 1) 0 (d x) (by omega)
  omega
def sp_d (f : Int → pR) (A B : List Int) (x : Int) : Int := ((r_gr (mbl f A) (f x) - r_gr (mbl f B) (f x)).natAbs : Int)
/-- x comes to the first part -/
def sp_toA (f : Int → pR) (A B : List Int) (x : Int) : Prop := r_gr (mbl f A) (f x) < r_gr (mbl f B) (f x) ∨ (r_gr (mbl f A) (f x) = r_gr (mbl f B) (f x) ∧ (r_ar (mbl f A) < r_ar (mbl f B) ∨ (r_ar (mbl f A) = r_ar (mbl f B) ∧ A.length ≤ B.length)))
noncomputable def sp (f : Int → pR) (N : Int) : Nat → List Int → List Int → List Int → List Int × List Int
  | 0, A, B, _ => (A, B)
  | _ + 1, A, B, [] => (A, B)
  | k + 1, A, B, y :: t => if ((A.length + (t.length + 1) : Nat) : Int) ≤ N then sp f N k (A ++ [y]) B t else if ((B.length + (t.length + 1) : Nat) : Int) ≤ N then sp f N k A (B ++ [y]) t else
      have : Decidable (sp_toA f A B ((y :: t).getD (sp_pk (sp_d f A B) (y :: t) 0 0 (-1)) 0)) := Classical.propDecidable _
      if sp_toA f A B ((y :: t).getD (sp_pk (sp_d f A B) (y :: t) 0 0 (-1)) 0) then sp f N k (A ++ [(y :: t).getD (sp_pk (sp_d f A B) (y :: t) 0 0 (-1)) 0]) B ((y :: t).eraseIdx (sp_pk (sp_d f A B) (y :: t) 0 0 (-1))) else sp f N k A (B ++ [(y :: t).getD (sp_pk (sp_d f A B) (y :: t) 0 0 (-1)) 0]) ((y :: t).eraseIdx (sp_pk (sp_d f A B) (y :: t) 0 0 (-1)))
/-- one is taken out of what is left -/
def c_tk (m : vl_M) (i : Int) : vl_M := fun h j => if h = 14 ∧ j = 2 then m 14 2 - 1 else if h = 15 ∧ i ≤ j ∧ j < m 14 2 - 1 then m 15 (j + 1) else m h j
theorem c_tk_h (m : vl_M) (i : Int) {h : Nat} (h1 : h ≠ 14) (h2 : h ≠ 15) : c_tk m i h = m h := by funext j; simp [c_tk, h1, h2]
theorem c_tkL {w N : Nat} {v5 : Int} {κ : Int → vl_M → Option (Int × vl_M)} (hw : w ≤ 11) {i : Int} (hi : 0 ≤ i) : ∀ (fu : Nat) (v : Int) (m : vl_M), i ≤ v → v ≤ m 14 2 → m 14 2 < (w : Int) → m 14 2 - v < (fu : Int) → fn_X3_takeLeft_L35 w N v5 κ fu v m = κ (m 14 2) (fun h j => if h = 15 ∧ v ≤ j ∧ j < m 14 2 then m 15 (j + 1) else m h j) := by
  intro fu
  induction fu with
  | zero => intro v m _ _ _ h; omega
  | succ fu ih =>
    intro v m h1 h2 h3 h4
    rw [fn_X3_takeLeft_L35, pu_gd ⟨by omega, by omega⟩, pu_gd ⟨by omega, by omega⟩]
    by_cases hlt : v < m 14 2
    · rw [if_pos hlt, pu_gd ⟨by omega, by omega⟩, pu_gd ⟨by omega, by omega⟩]
      simp only [pu_lt]
      have e : vl_up m 15 v (m 15 (v + 1)) 14 = m 14 := up_h _ _ _ (by decide)
      rw [ih _ _ (by omega) (by rw [e]; omega) (by rw [e]; omega) (by rw [e]; omega), e]
      congr 1
      funext h j
      unfold vl_up
      by_cases hh : h = 15
      · subst hh
        simp only [true_and]
        by_cases hj : j = v
        · subst hj
          rw [if_neg (by omega), if_pos rfl, if_pos (by omega)]
        · rw [if_neg hj]
          by_cases hr : v + 1 ≤ j ∧ j < m 14 2
          · rw [if_pos hr, if_neg (by omega), if_pos (by omega)]
          · rw [if_neg hr, if_neg (by omega)]
      · simp [hh]
    · rw [if_neg hlt]
      have e : v = m 14 2 := by omega
      rw [e]
      congr 1
      funext h j
      rw [if_neg (by omega)]
theorem c_takeLeft {w N : Nat} {m : vl_M} {i : Int} (hN : 100000 ≤ N) (hw : w ≤ 11) (hi : 0 ≤ i ∧ i < m 14 2) (hc : m 14 2 ≤ (w : Int)) : fn_X3_takeLeft w N m i = some (m 15 i, c_tk m i) := by
  unfold fn_X3_takeLeft
  simp only [pu_lt]
  rw [pu_gd ⟨by omega, by omega⟩, if_neg (by omega), pu_gd ⟨by omega, by omega⟩, if_pos (by omega), pu_gd ⟨by omega, by omega⟩]
  have e : vl_up m 14 2 (m 14 2 - 1) 14 2 = m 14 2 - 1 := up_s _ _ _ _
  rw [c_tkL hw hi.1 N i _ (by omega) (by rw [e]; omega) (by rw [e]; omega) (by rw [e]; omega), e]
  simp only [Option.some.injEq, Prod.mk.injEq, true_and]
  funext h j
  unfold c_tk vl_up
  by_cases hh : h = 15
  · subst hh
    simp
  · by_cases h14 : h = 14 ∧ j = 2
    · simp [h14]
    · simp [hh, h14]
theorem c_needsAll {m : vl_M} {s : Int} (hs : c_in s) (h1 : vl_r32 (m 9 s + m 14 2)) (h2 : vl_r32 (m 1 1)) : fn_X3_needsAll m s = some (if m 1 1 < m 9 s + m 14 2 then 0 else 1) := by
  unfold fn_X3_needsAll
  rw [pu_gd hs, pu_gd h1, pu_gd h2]
  split <;> rfl
theorem c_fitting {m : vl_M} {t a b : Int} {ra rb q : pR} (ht : c_in t) (ha : c_in a) (hb : c_in b) (eq : c_rt m t = q) (ea : c_rt m a = ra) (eb : c_rt m b = rb) (oq : r_ok q) (oa : r_ok ra) (ob : r_ok rb) (sa : vl_r32 (m 9 a)) (sb : vl_r32 (m 9 b)) :
    ((r_gr ra q < r_gr rb q ∨ (r_gr ra q = r_gr rb q ∧ (r_ar ra < r_ar rb ∨ (r_ar ra = r_ar rb ∧ m 9 a ≤ m 9 b)))) → fn_X3_fitting m t a b = some a) ∧ (¬ (r_gr ra q < r_gr rb q ∨ (r_gr ra q = r_gr rb q ∧ (r_ar ra < r_ar rb ∨ (r_ar ra = r_ar rb ∧ m 9 a ≤ m 9 b)))) → fn_X3_fitting m t a b = some b) := by
  have g1 := r_gr_le oa oq
  have g2 := r_gr_le ob oq
  have h1 := r_ar_le oa
  have h2 := r_ar_le ob
  have e1 : fn_X4_growth m a t = some (r_gr ra q) := by rw [c_growth ha ht (by rw [ea]; exact oa) (by rw [eq]; exact oq), ea, eq]
  have e2 : fn_X4_growth m b t = some (r_gr rb q) := by rw [c_growth hb ht (by rw [eb]; exact ob) (by rw [eq]; exact oq), eb, eq]
  have e3 : fn_X4_area m a = some (r_ar ra) := by rw [c_area ha, ea]
  have e4 : fn_X4_area m b = some (r_ar rb) := by rw [c_area hb, eb]
  unfold fn_X3_fitting
  rw [e1, e2, e3, e4]
  simp only [Option.bind_some, pu_jn]
  rw [j_cmp ⟨by omega, by omega⟩ ⟨by omega, by omega⟩, j_cmp ⟨by omega, by omega⟩ ⟨by omega, by omega⟩, j_cmp sa sb]
  simp only [Option.bind_some]
  rw [pu_gd ha, pu_gd hb]
  rcases Int.lt_trichotomy (r_gr ra q) (r_gr rb q) with c | c | c
  · rw [if_pos c, pu_gd (by decide), if_neg (by decide), pu_gd (by decide), if_neg (by decide), pu_gd (by decide), if_neg (by decide)]
    exact ⟨fun _ => rfl, fun z => absurd (Or.inl c) z⟩
  · rw [if_neg (by omega), if_pos c, pu_gd (by decide), if_pos rfl]
    rcases Int.lt_trichotomy (r_ar ra) (r_ar rb) with e | e | e
    · rw [if_pos e, pu_gd (by decide), if_neg (by decide), pu_gd (by decide), if_neg (by decide)]
      exact ⟨fun _ => rfl, fun z => absurd (Or.inr ⟨c, Or.inl e⟩) z⟩
    · rw [if_neg (by omega), if_pos e, pu_gd (by decide), if_pos rfl]
      rcases Int.lt_trichotomy (m 9 a) (m 9 b) with x | x | x
      · rw [if_pos x, pu_gd (by decide), if_neg (by decide)]
        exact ⟨fun _ => rfl, fun z => absurd (Or.inr ⟨c, Or.inr ⟨e, by omega⟩⟩) z⟩
      · rw [if_neg (by omega), if_pos x, pu_gd (by decide), if_neg (by decide)]
        exact ⟨fun _ => rfl, fun z => absurd (Or.inr ⟨c, Or.inr ⟨e, by omega⟩⟩) z⟩
      · rw [if_neg (by omega), if_neg (by omega), pu_gd (by decide), if_pos (by decide)]
        exact ⟨fun z => by omega, fun _ => rfl⟩
    · rw [if_neg (by omega), if_neg (by omega), pu_gd (by decide), if_neg (by decide), pu_gd (by decide), if_pos (by decide)]
      exact ⟨fun z => by omega, fun _ => rfl⟩
  · rw [if_neg (by omega), if_neg (by omega), pu_gd (by decide), if_neg (by decide), pu_gd (by decide), if_neg (by decide), pu_gd (by decide), if_pos (by decide)]
    exact ⟨fun z => by omega, fun _ => rfl⟩
theorem pu_nab {x B : Int} (h1 : -B ≤ x) (h2 : x ≤ B) : 0 ≤ ((x.natAbs : Nat) : Int) ∧ ((x.natAbs : Nat) : Int) ≤ B := by omega
theorem pu_nab32 {x : Int} (h1 : -1073741824 ≤ x) (h2 : x ≤ 1073741824) : vl_r32 ((x.natAbs : Nat) : Int) := by
  have h := pu_nab h1 h2
  generalize ((x.natAbs : Nat) : Int) = g at h
  exact ⟨by omega, by omega⟩
theorem pu_dif {x y : Int} (h1 : 0 ≤ x ∧ x ≤ 1073741824) (h2 : 0 ≤ y ∧ y ≤ 1073741824) : vl_r32 (x - y) ∧ vl_r32 (((x - y).natAbs : Nat) : Int) := ⟨⟨by omega, by omega⟩, pu_nab32 (by omega) (by omega)⟩
/-- which of what is left is decided most -/
theorem c_mostL {w N : Nat} {m : vl_M} {a b : Int} {ra rb : pR} {f : Int → pR} {ts : Int → Int} {rest : List Int} (hw : w ≤ 11) (ha : c_in a) (hb : c_in b) (ea : c_rt m a = ra) (eb : c_rt m b = rb) (oa : r_ok ra) (ob : r_ok rb) (hc : m 14 2 = (rest.length : Int)) (hcw : rest.length ≤ w) (hl : ∀ (i : Nat) x, rest[i]? = some x → m 15 (i : Int) = ts x ∧ c_in (ts x) ∧ c_rt m (ts x) = f x ∧ r_ok (f x)) : ∀ (l : List Int) (fu i best : Nat) (v : Int), i ≤ rest.length → rest.drop i = l → l.length < fu → (best : Int) < 100 → vl_r32 v → fn_X3_mostDecided_L8 w N m a b (fun v4 v5 v6 => some v4) fu (best : Int) v (i : Int) = some ((sp_pk (fun x => ((r_gr ra (f x) - r_gr rb (f x)).natAbs : Int)) l i best v : Nat) : Int) := by
  intro l
  induction l with
  | nil =>
    intro fu i best v hil hd hf hb1 hv
    obtain ⟨fu, rfl⟩ : ∃ x, fu = x + 1 := ⟨fu - 1, by simp only [List.length_nil] at hf; omega⟩
    have hi : rest.length ≤ i := by
      have := congrArg List.length hd
      rw [List.length_drop, List.length_nil] at this
      omega
    rw [fn_X3_mostDecided_L8, pu_gd ⟨by omega, by omega⟩, pu_gd ⟨by omega, by omega⟩, if_neg (by omega)]
    rfl
  | cons x t ih =>
    intro fu i best v hil hd hf hb1 hv
    obtain ⟨fu, rfl⟩ : ∃ y, fu = y + 1 := ⟨fu - 1, by omega⟩
    have hi : i < rest.length := by
      have := congrArg List.length hd
      rw [List.length_drop, List.length_cons] at this
      omega
    have hx : rest[i]? = some x := by
      have := congrArg (fun q => q[0]?) hd
      simpa using this
    have hd2 : rest.drop (i + 1) = t := by
      have := congrArg List.tail hd
      rw [List.tail_drop] at this
      simpa using this
    obtain ⟨q1, q2, q3, q4⟩ := hl i x hx
    have ec : ((i : Int) + 1) = ((i + 1 : Nat) : Int) := by omega
    have z1 : i + 1 ≤ rest.length := by omega
    have z2 : t.length < fu := by simp only [List.length_cons] at hf; omega
    have z3 : (i : Int) < 100 := by omega
    rw [fn_X3_mostDecided_L8, pu_gd ⟨by omega, by omega⟩, pu_gd ⟨by omega, by omega⟩, if_pos (by omega), pu_gd ⟨by omega, by omega⟩, q1, c_growth ha q2 (by rw [ea]; exact oa) (by rw [q3]; exact q4), c_growth hb q2 (by rw [eb]; exact ob) (by rw [q3]; exact q4), ea, eb, q3]
    rw [Option.bind_some, Option.bind_some]
    obtain ⟨z4, hq3⟩ := pu_dif (r_gr_le oa q4) (r_gr_le ob q4)
    rw [pu_gd z4, pu_lt, pu_gd hq3, pu_gd hv, pu_jn]
    unfold sp_pk
    by_cases c : v < ((r_gr ra (f x) - r_gr rb (f x)).natAbs : Int)
    · rw [if_pos c, if_pos c]
      dsimp only
      rw [pu_lt, ec]
      exact ih fu (i + 1) i _ z1 hd2 z2 z3 hq3
    · rw [if_neg c, if_neg c]
      dsimp only
      rw [pu_lt, ec]
      exact ih fu (i + 1) best v z1 hd2 z2 hb1 hv
