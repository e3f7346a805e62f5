/-! ===== PURE, 10: the reference's share: who comes to which part ===== -/
theorem mbl_is (f : Int → pR) : ∀ (A : List Int), A ≠ [] → r_is (mbl f A) (fun p => ∃ x, x ∈ A ∧ p = f x) := by
  have key : ∀ (t : List Int) (q : pR) (P : pR → Prop), r_is q P → r_is (t.foldl (fun q x => r_cv q (f x)) q) (fun p => P p ∨ ∃ x, x ∈ t ∧ p = f x) := by
    intro t
    induction t with
    | nil =>
      intro q P h
      exact r_is_congr (fun p => ⟨fun z => Or.inl z, fun z => z.elim id (fun ⟨x, hx, _⟩ => by simp at hx)⟩) h
    | cons a t ih =>
      intro q P h
      refine r_is_congr (fun p => ?_) (ih (r_cv q (f a)) _ (r_is_add (b := f a) h))
      constructor
      · rintro ((z | z) | ⟨x, hx, e⟩)
        · exact Or.inl z
        · exact Or.inr ⟨a, List.mem_cons_self, z⟩
        · exact Or.inr ⟨x, List.mem_cons_of_mem _ hx, e⟩
      · rintro (z | ⟨x, hx, e⟩)
        · exact Or.inl (Or.inl z)
        · rcases List.mem_cons.mp hx with rfl | hx
          · exact Or.inl (Or.inr e)
          · exact Or.inr ⟨x, hx, e⟩
  intro A hA
  cases A with
  | nil => exact absurd rfl hA
  | cons a t =>
    refine r_is_congr (fun p => ?_) (key t (f a) _ (r_is_one (f a)))
    constructor
    · rintro (z | ⟨x, hx, e⟩)
      · exact ⟨a, List.mem_cons_self, z⟩
      · exact ⟨x, List.mem_cons_of_mem _ hx, e⟩
    · rintro ⟨x, hx, e⟩
      rcases List.mem_cons.mp hx with rfl | hx
      · exact Or.inl e
      · exact Or.inr ⟨x, hx, e⟩
/-- a part's rectangle -/
def d_pt (r : vl_M) (p : Int) : pR := (r 40 (4 * (p - 1)), r 40 (4 * (p - 1) + 1), r 40 (4 * (p - 1) + 2), r 40 (4 * (p - 1) + 3))
theorem d_pt_c (r : vl_M) (p : Int) {k : Int} (hk : 0 ≤ k ∧ k < 4) : d_c (d_pt r p) k = r 40 (4 * (p - 1) + k) := by
  rcases (by omega : k = 0 ∨ k = 1 ∨ k = 2 ∨ k = 3) with rfl | rfl | rfl | rfl <;> simp [d_c, d_pt]
theorem d_rt_congr {r r' : vl_M} (h1 : r' 25 = r 25) (h2 : r' 29 = r 29) (l t : Int) : d_rt r' l t = d_rt r l t := by
  unfold d_rt
  rw [h1, h2]
theorem d_come1 {N : Nat} {r b : vl_M} {x p l c t : Int} {q o : pR} {κ : Int → vl_M → Option (Int × vl_M)} {fu : Nat} {k : Int} (hk : 0 ≤ k ∧ k < 4) (hp : p = 1 ∨ p = 2) (hb : ∀ h : Nat, h ≠ 40 → b h = r h) (ht : r 37 x = t) (hd : d_in l t) (hq : d_rt r l t = q) (oq : r_ok q) (hc : vl_r32 (r 41 (p - 1))) (ho : r 41 (p - 1) ≠ 0 → r_ok o) (hbo : b 40 (4 * (p - 1) + k) = d_c o k) :
    fn_X8_come_L18 N x p l c κ (fu + 1) k b = fn_X8_come_L18 N x p l c κ fu (k + 1) (vl_up b 40 (4 * (p - 1) + k) (d_c (if r 41 (p - 1) = 0 then q else r_cv o q) k)) := by
  have er : d_rt b l t = q := by rw [d_rt_congr (hb 25 (by decide)) (hb 29 (by decide)), hq]
  rw [fn_X8_come_L18, pu_gd ⟨by omega, by omega⟩, if_pos (by omega), hb 37 (by decide), ht, d_side hd hk, Option.bind_some, pu_lt, pu_gd ⟨by omega, by omega⟩, hb 41 (by decide), pu_gd hc, pu_jn, er]
  by_cases c0 : r 41 (p - 1) = 0
  · rw [if_pos c0, if_pos c0]
    dsimp only
    rw [pu_gd ⟨by omega, by omega⟩, pu_lt, pu_lt]
  · rw [if_neg c0, if_neg c0, d_c_cv _ _ hk]
    by_cases c2 : k < 2
    · rw [if_pos c2, if_pos c2, pu_gd ⟨by omega, by omega⟩, hbo, d_lesser (d_c_32 (ho c0) k) (d_c_32 oq k), Option.bind_some]
      dsimp only
      rw [pu_gd ⟨by omega, by omega⟩, pu_lt, pu_lt]
    · rw [if_neg c2, if_neg c2, pu_gd ⟨by omega, by omega⟩, hbo, d_greater (d_c_32 (ho c0) k) (d_c_32 oq k), Option.bind_some]
      dsimp only
      rw [pu_gd ⟨by omega, by omega⟩, pu_lt, pu_lt]
/-- x comes to the part p as the c-th -/
def d_cm (r : vl_M) (x p c : Int) (q : pR) : vl_M := fun h j => if h = 38 ∧ j = x then p else if h = 39 ∧ j = c then x else if h = 41 ∧ j = p - 1 then r 41 (p - 1) + 1 else if h = 40 ∧ 0 ≤ j - 4 * (p - 1) ∧ j - 4 * (p - 1) < 4 then d_c q (j - 4 * (p - 1)) else r h j
theorem d_come {N : Nat} {r : vl_M} {x p l c t : Int} {q : pR} (hN : 100000 ≤ N) (hx : 0 ≤ x ∧ x < 11) (hcc : 0 ≤ c ∧ c < 11) (hp : p = 1 ∨ p = 2) (ht : r 37 x = t) (hd : d_in l t) (hq : d_rt r l t = q) (oq : r_ok q) (hc : vl_r32 (r 41 (p - 1))) (ho : r 41 (p - 1) ≠ 0 → r_ok (d_pt r p)) :
    fn_X8_come N r x p l c = some (c + 1, d_cm r x p c (if r 41 (p - 1) = 0 then q else r_cv (d_pt r p) q)) := by
  generalize hqq : (if r 41 (p - 1) = 0 then q else r_cv (d_pt r p) q) = qq
  obtain ⟨M, rfl⟩ : ∃ M, N = M + 5 := ⟨N - 5, by omega⟩
  unfold fn_X8_come
  rw [pu_gd hx, pu_lt, pu_gd hcc, pu_lt]
  have hb0 : ∀ h : Nat, h ≠ 38 → h ≠ 39 → vl_up (vl_up r 38 x p) 39 c x h = r h := fun h a b => by rw [up_h _ _ _ b, up_h _ _ _ a]
  have e41 : vl_up (vl_up r 38 x p) 39 c x 41 = r 41 := hb0 41 (by decide) (by decide)
  generalize hR : vl_up (vl_up r 38 x p) 39 c x = R at e41
  have hR' : ∀ h : Nat, h ≠ 38 → h ≠ 39 → R h = r h := fun h a b => by rw [← hR]; exact hb0 h a b
  have ht' : R 37 x = t := by rw [hR' 37 (by decide) (by decide)]; exact ht
  have hq' : d_rt R l t = q := by rw [d_rt_congr (hR' 25 (by decide) (by decide)) (hR' 29 (by decide) (by decide))]; exact hq
  have hc' : vl_r32 (R 41 (p - 1)) := by rw [e41]; exact hc
  have ho' : R 41 (p - 1) ≠ 0 → r_ok (d_pt r p) := by rw [e41]; exact ho
  have ept : ∀ k : Int, 0 ≤ k → k < 4 → R 40 (4 * (p - 1) + k) = d_c (d_pt r p) k := fun k a b => by rw [d_pt_c _ _ ⟨a, b⟩, hR' 40 (by decide) (by decide)]
  have hqq' : (if R 41 (p - 1) = 0 then q else r_cv (d_pt r p) q) = qq := by rw [e41]; exact hqq
  rw [d_come1 (r := R) (k := 0) (o := d_pt r p) (by omega) hp (fun h _ => rfl) ht' hd hq' oq hc' ho' (ept 0 (by omega) (by omega)), hqq',
    d_come1 (r := R) (k := 0 + 1) (o := d_pt r p) (by omega) hp (fun h a => up_h _ _ _ a) ht' hd hq' oq hc' ho' (by rw [up_i _ _ (by omega)]; exact ept _ (by omega) (by omega)), hqq',
    d_come1 (r := R) (k := 0 + 1 + 1) (o := d_pt r p) (by omega) hp (fun h a => by rw [up_h _ _ _ a, up_h _ _ _ a]) ht' hd hq' oq hc' ho' (by rw [up_i _ _ (by omega), up_i _ _ (by omega)]; exact ept _ (by omega) (by omega)), hqq',
    d_come1 (r := R) (k := 0 + 1 + 1 + 1) (o := d_pt r p) (by omega) hp (fun h a => by rw [up_h _ _ _ a, up_h _ _ _ a, up_h _ _ _ a]) ht' hd hq' oq hc' ho' (by rw [up_i _ _ (by omega), up_i _ _ (by omega), up_i _ _ (by omega)]; exact ept _ (by omega) (by omega)), hqq']
  rw [fn_X8_come_L18, pu_gd ⟨by omega, by omega⟩, if_neg (by omega), pu_gd ⟨by omega, by omega⟩, pu_lt]
  simp only [Option.some.injEq, Prod.mk.injEq, true_and]
  funext h j
  subst hR
  unfold d_cm vl_up
  by_cases c1 : h = 38
  · subst c1; simp
  by_cases c2 : h = 39
  · subst c2; simp
  by_cases c3 : h = 41
  · subst c3; simp
  by_cases c4 : h = 40
  · subst c4
    simp only [true_and]
    by_cases k0 : j = 4 * (p - 1) + 0
    · subst k0
      rw [if_neg (by omega), if_neg (by omega), if_neg (by omega), if_neg (by omega), if_pos rfl, if_neg (by omega), if_neg (by omega), if_neg (by omega), if_pos (by omega)]
      congr 1; omega
    by_cases k1 : j = 4 * (p - 1) + (0 + 1)
    · subst k1
      rw [if_neg (by omega), if_neg (by omega), if_neg (by omega), if_pos rfl, if_neg (by omega), if_neg (by omega), if_neg (by omega), if_pos (by omega)]
      congr 1; omega
    by_cases k2 : j = 4 * (p - 1) + (0 + 1 + 1)
    · subst k2
      rw [if_neg (by omega), if_neg (by omega), if_pos rfl, if_neg (by omega), if_neg (by omega), if_neg (by omega), if_pos (by omega)]
      congr 1; omega
    by_cases k3 : j = 4 * (p - 1) + (0 + 1 + 1 + 1)
    · subst k3
      rw [if_neg (by omega), if_pos rfl, if_neg (by omega), if_neg (by omega), if_neg (by omega), if_pos (by omega)]
      congr 1; omega
    rw [if_neg (by omega), if_neg k3, if_neg k2, if_neg k1, if_neg k0, if_neg (by omega), if_neg (by omega), if_neg (by omega), if_neg (by omega), if_neg (by omega), if_neg (by omega)]
  · simp [c1, c2, c3, c4]
