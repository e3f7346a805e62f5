/-! ===== PURE, 11: the reference's share, where it stands ===== -/
def dh_I (r0 r : vl_M) (f : Int → pR) (n : Nat) (A B C : List Int) : Prop :=
  ((∀ h : Nat, (h < 38 ∨ 41 < h) → r h = r0 h) ∧ (r 41 0 = (A.length : Int) ∧ r 41 1 = (B.length : Int))) ∧
  ((A ≠ [] → d_pt r 1 = mbl f A) ∧ (B ≠ [] → d_pt r 2 = mbl f B)) ∧
  (∀ x : Int, 0 ≤ x → x < (n : Int) → (x ∈ A → r 38 x = 1) ∧ (x ∈ B → r 38 x = 2) ∧ (x ∉ A → x ∉ B → r 38 x = 0)) ∧
  (∀ (k : Nat) x, C[k]? = some x → r 39 (k : Int) = x) ∧
  (C.length = A.length + B.length ∧ (∀ x, x ∈ C ↔ (x ∈ A ∨ x ∈ B)) ∧ C.filter (fun x => decide (x ∈ A)) = A ∧ C.filter (fun x => decide (x ∉ A)) = B)
def dh_ok (r0 : vl_M) (l : Int) (ds : Int → Int) (f : Int → pR) (n : Nat) : Prop := n ≤ 11 ∧ ∀ x : Int, 0 ≤ x → x < (n : Int) → r0 37 x = ds x ∧ d_in l (ds x) ∧ d_rt r0 l (ds x) = f x ∧ r_ok (f x)
theorem d_cm_h (r : vl_M) (x p c : Int) (q : pR) {h : Nat} (h1 : h < 38 ∨ 41 < h) : d_cm r x p c q h = r h := by
  funext j
  unfold d_cm
  rw [if_neg (by omega), if_neg (by omega), if_neg (by omega), if_neg (by omega)]
theorem d_cm_38 (r : vl_M) (x p c : Int) (q : pR) (j : Int) : d_cm r x p c q 38 j = if j = x then p else r 38 j := by
  unfold d_cm
  by_cases h : j = x
  · rw [if_pos ⟨rfl, h⟩, if_pos h]
  · rw [if_neg (fun z => h z.2), if_neg h, if_neg (by simp), if_neg (by simp), if_neg (by simp)]
theorem d_cm_39 (r : vl_M) (x p c : Int) (q : pR) (j : Int) : d_cm r x p c q 39 j = if j = c then x else r 39 j := by
  unfold d_cm
  rw [if_neg (by simp)]
  by_cases h : j = c
  · rw [if_pos ⟨rfl, h⟩, if_pos h]
  · rw [if_neg (fun z => h z.2), if_neg h, if_neg (by simp), if_neg (by simp)]
theorem d_cm_41 (r : vl_M) (x p c : Int) (q : pR) (j : Int) : d_cm r x p c q 41 j = if j = p - 1 then r 41 (p - 1) + 1 else r 41 j := by
  unfold d_cm
  rw [if_neg (by simp), if_neg (by simp)]
  by_cases h : j = p - 1
  · rw [if_pos ⟨rfl, h⟩, if_pos h]
  · rw [if_neg (fun z => h z.2), if_neg h, if_neg (by simp)]
theorem d_cm_40 (r : vl_M) (x p c : Int) (q : pR) (j : Int) : d_cm r x p c q 40 j = if 0 ≤ j - 4 * (p - 1) ∧ j - 4 * (p - 1) < 4 then d_c q (j - 4 * (p - 1)) else r 40 j := by
  unfold d_cm
  rw [if_neg (by simp), if_neg (by simp), if_neg (by simp)]
  by_cases h : 0 ≤ j - 4 * (p - 1) ∧ j - 4 * (p - 1) < 4
  · rw [if_pos ⟨rfl, h⟩, if_pos h]
  · rw [if_neg (fun z => h z.2), if_neg h]
theorem d_cm_pt (r : vl_M) (x p c : Int) (q : pR) : d_pt (d_cm r x p c q) p = q := by
  obtain ⟨a, b, c', d⟩ := q
  unfold d_pt
  simp only [d_cm_40, Prod.mk.injEq]
  refine ⟨?_, ?_, ?_, ?_⟩
  · rw [if_pos (by omega), show 4 * (p - 1) - 4 * (p - 1) = 0 by omega]; rfl
  · rw [if_pos (by omega), show 4 * (p - 1) + 1 - 4 * (p - 1) = 1 by omega]; rfl
  · rw [if_pos (by omega), show 4 * (p - 1) + 2 - 4 * (p - 1) = 2 by omega]; rfl
  · rw [if_pos (by omega), show 4 * (p - 1) + 3 - 4 * (p - 1) = 3 by omega]; rfl
theorem d_cm_pn (r : vl_M) {x p p' c : Int} (q : pR) (h : p' ≠ p) : d_pt (d_cm r x p c q) p' = d_pt r p' := by
  unfold d_pt
  simp only [d_cm_40, Prod.mk.injEq]
  refine ⟨?_, ?_, ?_, ?_⟩ <;> rw [if_neg (by omega)]
theorem dh_A {N n : Nat} {r0 r : vl_M} {l x : Int} {ds : Int → Int} {f : Int → pR} {A B C : List Int} (hN : 100000 ≤ N) (hk : dh_ok r0 l ds f n) (hx : 0 ≤ x ∧ x < (n : Int)) (hxA : x ∉ A) (hxB : x ∉ B) (hC : C.length < 11) (hAn : ∀ y, y ∈ A → 0 ≤ y ∧ y < (n : Int)) (h : dh_I r0 r f n A B C) :
    ∃ r', fn_X8_come N r x 1 l (C.length : Int) = some (((C ++ [x]).length : Int), r') ∧ dh_I r0 r' f n (A ++ [x]) B (C ++ [x]) := by
  obtain ⟨k0, k1⟩ := hk
  obtain ⟨⟨h1, h2, h3⟩, ⟨p1, p2⟩, h4, h5, h6, h7, h8, h9⟩ := h
  obtain ⟨x1, x2, x3, x4⟩ := k1 x hx.1 hx.2
  have okA : r 41 (1 - 1) ≠ 0 → A ≠ [] := fun q z => by rw [show (1 : Int) - 1 = 0 by decide, h2, z] at q; exact q rfl
  have hcm := d_come (N := N) (r := r) (x := x) (p := 1) (l := l) (c := (C.length : Int)) (t := ds x) (q := f x) hN ⟨by omega, by omega⟩ ⟨by omega, by omega⟩ (Or.inl rfl) (by rw [h1 37 (by omega)]; exact x1) x2 (by rw [d_rt_congr (h1 25 (by omega)) (h1 29 (by omega))]; exact x3) x4 (by rw [show (1 : Int) - 1 = 0 by decide, h2]; exact ⟨by omega, by omega⟩) (fun q => by rw [p1 (okA q)]; exact mbl_ok A (okA q) (fun y hy => (k1 y (hAn y hy).1 (hAn y hy).2).2.2.2))
  have eq : (if r 41 (1 - 1) = 0 then f x else r_cv (d_pt r 1) (f x)) = mbl f (A ++ [x]) := by
    rw [mbl_app, show (1 : Int) - 1 = 0 by decide, h2]
    by_cases z : A = []
    · rw [if_pos z, if_pos (by rw [z]; rfl)]
    · rw [if_neg z, if_neg (fun y => z (List.length_eq_zero_iff.mp (by omega))), p1 z]
  rw [eq] at hcm
  have el : ((C ++ [x]).length : Int) = (C.length : Int) + 1 := by rw [List.length_append]; simp
  rw [← el] at hcm
  refine ⟨_, hcm, ?_⟩
  have hxC : x ∉ C := fun z => by rcases (h7 x).mp z with z | z; exact hxA z; exact hxB z
  refine ⟨⟨fun h hh => by rw [d_cm_h _ _ _ _ _ hh]; exact h1 h hh, ?_, ?_⟩, ⟨fun _ => d_cm_pt _ _ _ _ _, fun z => by rw [d_cm_pn _ _ (by decide)]; exact p2 z⟩, ?_, ?_, ?_, ?_, ?_, ?_⟩
  · rw [d_cm_41, if_pos (by decide), show (1 : Int) - 1 = 0 by decide, h2, List.length_append]; simp
  · rw [d_cm_41, if_neg (by decide)]; exact h3
  · intro y y1 y2
    obtain ⟨q1, q2, q3⟩ := h4 y y1 y2
    rw [d_cm_38]
    by_cases c : y = x
    · subst c
      rw [if_pos rfl]
      exact ⟨fun _ => rfl, fun z => absurd z hxB, fun z => absurd (by simp) z⟩
    · rw [if_neg c]
      exact ⟨fun z => q1 (by simpa [c] using z), q2, fun z1 z2 => q3 (by simpa [c] using z1) z2⟩
  · intro k y q
    have hk := (List.getElem?_eq_some_iff.mp q).1
    rw [List.length_append, List.length_singleton] at hk
    rw [d_cm_39]
    by_cases c : k < C.length
    · rw [if_neg (by omega)]
      rw [List.getElem?_append_left c] at q
      exact h5 k y q
    · have e : k = C.length := by omega
      subst e
      rw [if_pos rfl]
      rw [List.getElem?_append_right (Nat.le_refl _)] at q
      simpa using q
  · simp; omega
  · intro y
    rw [List.mem_append, List.mem_append, h7]
    constructor
    · rintro ((a | a) | a)
      · exact Or.inl (Or.inl a)
      · exact Or.inr a
      · exact Or.inl (Or.inr a)
    · rintro ((a | a) | a)
      · exact Or.inl (Or.inl a)
      · exact Or.inr a
      · exact Or.inl (Or.inr a)
  · rw [List.filter_append]
    have e1 : C.filter (fun y => decide (y ∈ A ++ [x])) = C.filter (fun y => decide (y ∈ A)) := List.filter_congr (fun y hy => by
      have : y ≠ x := fun z => hxC (by rw [← z]; exact hy)
      simp [this])
    rw [e1, h8]
    simp
  · rw [List.filter_append]
    have e1 : C.filter (fun y => decide (y ∉ A ++ [x])) = C.filter (fun y => decide (y ∉ A)) := List.filter_congr (fun y hy => by
      have : y ≠ x := fun z => hxC (by rw [← z]; exact hy)
      simp [this])
    rw [e1, h9]
    simp
theorem dh_B {N n : Nat} {r0 r : vl_M} {l x : Int} {ds : Int → Int} {f : Int → pR} {A B C : List Int} (hN : 100000 ≤ N) (hk : dh_ok r0 l ds f n) (hx : 0 ≤ x ∧ x < (n : Int)) (hxA : x ∉ A) (hxB : x ∉ B) (hC : C.length < 11) (hBn : ∀ y, y ∈ B → 0 ≤ y ∧ y < (n : Int)) (h : dh_I r0 r f n A B C) :
    ∃ r', fn_X8_come N r x 2 l (C.length : Int) = some (((C ++ [x]).length : Int), r') ∧ dh_I r0 r' f n A (B ++ [x]) (C ++ [x]) := by
  obtain ⟨k0, k1⟩ := hk
  obtain ⟨⟨h1, h2, h3⟩, ⟨p1, p2⟩, h4, h5, h6, h7, h8, h9⟩ := h
  obtain ⟨x1, x2, x3, x4⟩ := k1 x hx.1 hx.2
  have okB : r 41 (2 - 1) ≠ 0 → B ≠ [] := fun q z => by rw [show (2 : Int) - 1 = 1 by decide, h3, z] at q; exact q rfl
  have hcm := d_come (N := N) (r := r) (x := x) (p := 2) (l := l) (c := (C.length : Int)) (t := ds x) (q := f x) hN ⟨by omega, by omega⟩ ⟨by omega, by omega⟩ (Or.inr rfl) (by rw [h1 37 (by omega)]; exact x1) x2 (by rw [d_rt_congr (h1 25 (by omega)) (h1 29 (by omega))]; exact x3) x4 (by rw [show (2 : Int) - 1 = 1 by decide, h3]; exact ⟨by omega, by omega⟩) (fun q => by rw [p2 (okB q)]; exact mbl_ok B (okB q) (fun y hy => (k1 y (hBn y hy).1 (hBn y hy).2).2.2.2))
  have eq : (if r 41 (2 - 1) = 0 then f x else r_cv (d_pt r 2) (f x)) = mbl f (B ++ [x]) := by
    rw [mbl_app, show (2 : Int) - 1 = 1 by decide, h3]
    by_cases z : B = []
    · rw [if_pos z, if_pos (by rw [z]; rfl)]
    · rw [if_neg z, if_neg (fun y => z (List.length_eq_zero_iff.mp (by omega))), p2 z]
  rw [eq] at hcm
  have el : ((C ++ [x]).length : Int) = (C.length : Int) + 1 := by rw [List.length_append]; simp
  rw [← el] at hcm
  refine ⟨_, hcm, ?_⟩
  have hxC : x ∉ C := fun z => by rcases (h7 x).mp z with z | z; exact hxA z; exact hxB z
  refine ⟨⟨fun h hh => by rw [d_cm_h _ _ _ _ _ hh]; exact h1 h hh, ?_, ?_⟩, ⟨fun z => by rw [d_cm_pn _ _ (by decide)]; exact p1 z, fun _ => d_cm_pt _ _ _ _ _⟩, ?_, ?_, ?_, ?_, ?_, ?_⟩
  · rw [d_cm_41, if_neg (by decide)]; exact h2
  · rw [d_cm_41, if_pos (by decide), show (2 : Int) - 1 = 1 by decide, h3, List.length_append]; simp
  · intro y y1 y2
    obtain ⟨q1, q2, q3⟩ := h4 y y1 y2
    rw [d_cm_38]
    by_cases c : y = x
    · subst c
      rw [if_pos rfl]
      exact ⟨fun z => absurd z hxA, fun _ => rfl, fun _ z => absurd (by simp) z⟩
    · rw [if_neg c]
      exact ⟨q1, fun z => q2 (by simpa [c] using z), fun z1 z2 => q3 z1 (by simpa [c] using z2)⟩
  · intro k y q
    have hk := (List.getElem?_eq_some_iff.mp q).1
    rw [List.length_append, List.length_singleton] at hk
    rw [d_cm_39]
    by_cases c : k < C.length
    · rw [if_neg (by omega)]
      rw [List.getElem?_append_left c] at q
      exact h5 k y q
    · have e : k = C.length := by omega
      subst e
      rw [if_pos rfl]
      rw [List.getElem?_append_right (Nat.le_refl _)] at q
      simpa using q
  · simp; omega
  · intro y
    rw [List.mem_append, List.mem_append, h7, or_assoc]
  · rw [List.filter_append, h8]
    simp [hxA]
  · rw [List.filter_append, h9]
    simp [hxA]
theorem d_partArea {r : vl_M} {p : Int} (hp : p = 1 ∨ p = 2) (ho : r_ok (d_pt r p)) : fn_X8_partArea r p = some (r_ar (d_pt r p)) := by
  unfold fn_X8_partArea
  rw [pu_lt, pu_gd ⟨by omega, by omega⟩, pu_gd ⟨by omega, by omega⟩, pu_gd ⟨by omega, by omega⟩, pu_gd ⟨by omega, by omega⟩]
  have := d_area ho
  unfold d_pt at this ⊢
  rw [this]
  rfl
theorem d_growth {r : vl_M} {p l t : Int} {q : pR} (hp : p = 1 ∨ p = 2) (hd : d_in l t) (hq : d_rt r l t = q) (oq : r_ok q) (ho : r_ok (d_pt r p)) : fn_X8_growth r p l t = some (r_gr (d_pt r p) q) := by
  have ea := r_ok32 ho
  have eb := r_ok32 oq
  unfold fn_X8_growth
  have ea1 : vl_r32 (r 40 (4 * (p - 1))) := ea.1
  have ea2 : vl_r32 (r 40 (4 * (p - 1) + 1)) := ea.2.1
  have ea3 : vl_r32 (r 40 (4 * (p - 1) + 2)) := ea.2.2.1
  have ea4 : vl_r32 (r 40 (4 * (p - 1) + 3)) := ea.2.2.2
  rw [pu_lt, pu_gd ⟨by omega, by omega⟩, d_side0 hd, Option.bind_some, hq, d_lesser ea1 eb.1, Option.bind_some, pu_gd ⟨by omega, by omega⟩, d_side1 hd, Option.bind_some, hq, d_lesser ea2 eb.2.1, Option.bind_some, pu_gd ⟨by omega, by omega⟩, d_side2 hd, Option.bind_some, hq, d_greater ea3 eb.2.2.1, Option.bind_some, pu_gd ⟨by omega, by omega⟩, d_side3 hd, Option.bind_some, hq, d_greater ea4 eb.2.2.2, Option.bind_some]
  have := d_area (r_cv_ok ho oq)
  simp only [r_cv, d_pt] at this
  rw [this, Option.bind_some, d_partArea hp ho]
  rfl
