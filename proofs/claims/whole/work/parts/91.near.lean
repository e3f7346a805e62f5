/-! ===== PURE, 52: nearer and farther ===== -/
def lx : List Int → List Int → Bool
  | a :: l, b :: k => if a < b then true else if a = b then lx l k else false
  | _, _ => false
theorem lx_lt {a b : Int} (h : a < b) (l k : List Int) : lx (a :: l) (b :: k) = true := by
  show (if a < b then true else if a = b then lx l k else false) = true
  rw [if_pos h]
theorem lx_gt {a b : Int} (h : b < a) (l k : List Int) : lx (a :: l) (b :: k) = false := by
  show (if a < b then true else if a = b then lx l k else false) = false
  rw [if_neg (by omega), if_neg (by omega)]
theorem lx_eq (a : Int) (l k : List Int) : lx (a :: l) (a :: k) = lx l k := by
  show (if a < a then true else if a = a then lx l k else false) = lx l k
  rw [if_neg (by omega), if_pos rfl]
theorem lx_irr : ∀ l : List Int, lx l l = false := by
  intro l
  induction l with
  | nil => rfl
  | cons a l ih => rw [lx_eq]; exact ih
theorem lx_trans : ∀ a b c : List Int, lx a b = true → lx b c = true → lx a c = true := by
  intro a
  induction a with
  | nil => intro b c h; exact absurd h (by simp [lx])
  | cons x a ih =>
    intro b c h1 h2
    cases b with
    | nil => exact absurd h1 (by simp [lx])
    | cons y b =>
      cases c with
      | nil => exact absurd h2 (by simp [lx])
      | cons z c =>
        rcases Int.lt_trichotomy x y with c1 | c1 | c1
        · rcases Int.lt_trichotomy y z with c2 | c2 | c2
          · exact lx_lt (by omega) _ _
          · subst c2; exact lx_lt c1 _ _
          · rw [lx_gt c2] at h2; exact absurd h2 (by decide)
        · subst c1
          rcases Int.lt_trichotomy x z with c2 | c2 | c2
          · exact lx_lt c2 _ _
          · subst c2
            rw [lx_eq] at h1 h2 ⊢
            exact ih b c h1 h2
          · rw [lx_gt c2] at h2; exact absurd h2 (by decide)
        · rw [lx_gt c1] at h1; exact absurd h1 (by decide)
theorem lx_tot : ∀ a b : List Int, a.length = b.length → a ≠ b → lx a b = true ∨ lx b a = true := by
  intro a
  induction a with
  | nil =>
    intro b h1 h2
    cases b with
    | nil => exact absurd rfl h2
    | cons y b => simp at h1
  | cons x a ih =>
    intro b h1 h2
    cases b with
    | nil => simp at h1
    | cons y b =>
      rcases Int.lt_trichotomy x y with c1 | c1 | c1
      · exact Or.inl (lx_lt c1 _ _)
      · subst c1
        rw [lx_eq, lx_eq]
        exact ih b (by simpa using h1) (fun z => h2 (by rw [z]))
      · exact Or.inr (lx_lt c1 _ _)
theorem lx_asym {a b : List Int} (h : lx a b = true) : lx b a = false := by
  cases hc : lx b a with
  | false => rfl
  | true => have := lx_trans a b a h hc; rw [lx_irr] at this; exact absurd this (by decide)
/-- the square of the distance -/
def n_sq (q : pR) (x y : Int) : Int := (max 0 (max (q.1 - x) (x - q.2.2.1))) * (max 0 (max (q.1 - x) (x - q.2.2.1))) + (max 0 (max (q.2.1 - y) (y - q.2.2.2))) * (max 0 (max (q.2.1 - y) (y - q.2.2.2)))
def n_key (m : vl_M) (x y s : Int) : List Int := [n_sq (c_rt m s) x y, (if m 2 s = -1 then 0 else 1), m 7 s, m 3 s, m 4 s, m 5 s, m 6 s]
theorem n_sq_le {q : pR} {x y : Int} (hq : r_ok q) (hx : 0 ≤ x ∧ x ≤ 32767) (hy : 0 ≤ y ∧ y ≤ 32767) : 0 ≤ n_sq q x y ∧ n_sq q x y ≤ 2147352578 := by
  obtain ⟨⟨a1, a2, a3⟩, b1, b2, b3⟩ := hq
  unfold n_sq
  have h1 : 0 ≤ max 0 (max (q.1 - x) (x - q.2.2.1)) ∧ max 0 (max (q.1 - x) (x - q.2.2.1)) ≤ 32767 := by omega
  have h2 : 0 ≤ max 0 (max (q.2.1 - y) (y - q.2.2.2)) ∧ max 0 (max (q.2.1 - y) (y - q.2.2.2)) ≤ 32767 := by omega
  have g1 := Int.mul_le_mul h1.2 h1.2 h1.1 (by decide)
  have g2 := Int.mul_le_mul h2.2 h2.2 h2.1 (by decide)
  have g3 := Int.mul_nonneg h1.1 h1.1
  have g4 := Int.mul_nonneg h2.1 h2.1
  omega
theorem c_square {m : vl_M} {s x y : Int} (hs : c_in s) (hq : r_ok (c_rt m s)) (hx : 0 ≤ x ∧ x ≤ 32767) (hy : 0 ≤ y ∧ y ≤ 32767) : fn_X4_squareTo m s x y = some (n_sq (c_rt m s) x y) := by
  obtain ⟨⟨a1, a2, a3⟩, b1, b2, b3⟩ : (0 ≤ m 3 s ∧ m 3 s ≤ m 5 s ∧ m 5 s ≤ 32767) ∧ (0 ≤ m 4 s ∧ m 4 s ≤ m 6 s ∧ m 6 s ≤ 32767) := hq
  unfold fn_X4_squareTo
  rw [pu_gd hs, pu_gd ⟨by omega, by omega⟩, pu_gd ⟨by omega, by omega⟩, pu_gd ⟨by omega, by omega⟩, pu_lt, pu_gd ⟨by omega, by omega⟩, pu_gd ⟨by omega, by omega⟩, pu_gd ⟨by omega, by omega⟩, pu_lt]
  rfl
theorem d_far {r : vl_M} {l t x y : Int} {q : pR} (hd : d_in l t) (hq : d_rt r l t = q) (oq : r_ok q) (hx : 0 ≤ x ∧ x ≤ 32767) (hy : 0 ≤ y ∧ y ≤ 32767) : fn_X8_far r l t x y = some (n_sq q x y) := by
  obtain ⟨⟨a1, a2, a3⟩, b1, b2, b3⟩ := id oq
  unfold fn_X8_far
  rw [d_side0 hd, Option.bind_some, hq, pu_gd ⟨by omega, by omega⟩, pu_gd ⟨by omega, by omega⟩, pu_jn]
  have hY : ∀ v4 : Int, ((fn_X8_side r l t 1).bind fun b6 => vl_gd (vl_r32 y) <| vl_gd (vl_r32 b6) <| vl_jn (fun (v9 : Int) => some ((v4 * v4) + (v9 * v9))) fun κ10 => if y < b6 then ((fn_X8_side r l t 1).bind fun b16 => vl_gd (vl_r32 (b16 - y)) <| κ10 (b16 - y)) else (fn_X8_side r l t 3).bind fun b11 => vl_gd (vl_r32 b11) <| if b11 < y then ((fn_X8_side r l t 3).bind fun b13 => vl_gd (vl_r32 (y - b13)) <| κ10 (y - b13)) else κ10 0) = some (v4 * v4 + (max 0 (max (q.2.1 - y) (y - q.2.2.2))) * (max 0 (max (q.2.1 - y) (y - q.2.2.2)))) := fun v4 => by
    rw [d_side1 hd, Option.bind_some, hq, pu_gd ⟨by omega, by omega⟩, pu_gd ⟨by omega, by omega⟩, pu_jn]
    by_cases c : y < q.2.1
    · rw [if_pos c, Option.bind_some, pu_gd ⟨by omega, by omega⟩, show max 0 (max (q.2.1 - y) (y - q.2.2.2)) = q.2.1 - y by omega]
    · rw [if_neg c, d_side3 hd, Option.bind_some, hq, pu_gd ⟨by omega, by omega⟩]
      by_cases c2 : q.2.2.2 < y
      · rw [if_pos c2, Option.bind_some, pu_gd ⟨by omega, by omega⟩, show max 0 (max (q.2.1 - y) (y - q.2.2.2)) = y - q.2.2.2 by omega]
      · rw [if_neg c2, show max 0 (max (q.2.1 - y) (y - q.2.2.2)) = 0 by omega]
  unfold n_sq
  by_cases c : x < q.1
  · rw [if_pos c, Option.bind_some, pu_gd ⟨by omega, by omega⟩, show max 0 (max (q.1 - x) (x - q.2.2.1)) = q.1 - x by omega]
    exact hY _
  · rw [if_neg c, d_side2 hd, Option.bind_some, hq, pu_gd ⟨by omega, by omega⟩]
    by_cases c2 : q.2.2.1 < x
    · rw [if_pos c2, Option.bind_some, pu_gd ⟨by omega, by omega⟩, show max 0 (max (q.1 - x) (x - q.2.2.1)) = x - q.2.2.1 by omega]
      exact hY _
    · rw [if_neg c2, show max 0 (max (q.1 - x) (x - q.2.2.1)) = 0 by omega]
      exact hY _
/-- names compared -/
theorem c_names {m : vl_M} {a b : Int} (ha : c_in a) (hb : c_in b) (na : vl_r32 (m 7 a)) (nb : vl_r32 (m 7 b)) (oa : r_ok (c_rt m a)) (ob : r_ok (c_rt m b)) : ∃ v, fn_X4_compareNames m a b = some v ∧ vl_r32 v ∧ (v < 0 ↔ lx [m 7 a, m 3 a, m 4 a, m 5 a, m 6 a] [m 7 b, m 3 b, m 4 b, m 5 b, m 6 b] = true) := by
  obtain ⟨a1, a2, a3, a4⟩ : vl_r32 (m 3 a) ∧ vl_r32 (m 4 a) ∧ vl_r32 (m 5 a) ∧ vl_r32 (m 6 a) := r_ok32 oa
  obtain ⟨b1, b2, b3, b4⟩ : vl_r32 (m 3 b) ∧ vl_r32 (m 4 b) ∧ vl_r32 (m 5 b) ∧ vl_r32 (m 6 b) := r_ok32 ob
  have fin : ∀ (x y : Int) (l k : List Int), vl_r32 x → vl_r32 y → x ≠ y → ∃ v, (fn_J6_compare_7cf53 x y).bind (fun b => some b) = some v ∧ vl_r32 v ∧ (v < 0 ↔ lx (x :: l) (y :: k) = true) := fun x y l k hx hy hne => by
    rw [j_cmp hx hy, Option.bind_some]
    refine ⟨_, rfl, ?_, ?_⟩
    · by_cases c : x < y
      · rw [if_pos c]; decide
      · rw [if_neg c, if_neg hne]; decide
    · by_cases c : x < y
      · rw [if_pos c]; exact ⟨fun _ => lx_lt c _ _, fun _ => by decide⟩
      · rw [if_neg c, if_neg hne, lx_gt (by omega)]; exact ⟨fun z => absurd z (by decide), fun z => absurd z (by decide)⟩
  unfold fn_X4_compareNames
  rw [pu_gd ha, pu_gd hb, pu_gd na, pu_gd nb]
  by_cases c0 : m 7 a = m 7 b
  · rw [if_pos c0, pu_gd a1, pu_gd b1, c0, lx_eq]
    by_cases c1 : m 3 a = m 3 b
    · rw [if_pos c1, pu_gd a2, pu_gd b2, c1, lx_eq]
      by_cases c2 : m 4 a = m 4 b
      · rw [if_pos c2, pu_gd a3, pu_gd b3, c2, lx_eq]
        by_cases c3 : m 5 a = m 5 b
        · rw [if_pos c3, c3, lx_eq]
          by_cases c4 : m 6 a = m 6 b
          · rw [j_cmp a4 b4, Option.bind_some, if_neg (by omega), if_pos c4, c4, lx_irr]
            exact ⟨0, rfl, by decide, ⟨fun z => absurd z (by decide), fun z => absurd z (by decide)⟩⟩
          · exact fin _ _ [] [] a4 b4 c4
        · rw [if_neg c3]; exact fin _ _ _ _ a3 b3 c3
      · rw [if_neg c2]; exact fin _ _ _ _ a2 b2 c2
    · rw [if_neg c1]; exact fin _ _ _ _ a1 b1 c1
  · rw [if_neg c0]; exact fin _ _ _ _ na nb c0
/-- a thing that may stand in the row -/
def n_ok (m : vl_M) (x y s : Int) : Prop := (c_in s ∧ vl_r32 (m 2 s) ∧ vl_r32 (m 7 s) ∧ r_ok (c_rt m s)) ∧ m 21 s = n_sq (c_rt m s) x y
theorem c_before {m : vl_M} {x y a b : Int} (hx : 0 ≤ x ∧ x ≤ 32767) (hy : 0 ≤ y ∧ y ≤ 32767) (ha : n_ok m x y a) (hb : n_ok m x y b) : fn_X2_isBefore m a b = some (if lx (n_key m x y a) (n_key m x y b) = true then 1 else 0) := by
  obtain ⟨⟨a1, a2, a3, a4⟩, a5⟩ := ha
  obtain ⟨⟨b1, b2, b3, b4⟩, b5⟩ := hb
  have sa := n_sq_le a4 hx hy
  have sb := n_sq_le b4 hx hy
  unfold fn_X2_isBefore n_key
  rw [pu_gd a1, pu_gd b1, a5, b5, pu_gd ⟨by omega, by omega⟩, pu_gd ⟨by omega, by omega⟩]
  by_cases c0 : n_sq (c_rt m a) x y = n_sq (c_rt m b) x y
  · rw [if_pos c0, c0, lx_eq, c_isE a1 a2, Option.bind_some, c_isE b1 b2, Option.bind_some]
    obtain ⟨v, v1, v2, v3⟩ := c_names a1 b1 a3 b3 a4 b4
    by_cases ea : m 2 a = -1
    · by_cases eb : m 2 b = -1
      · rw [if_pos ea, if_pos eb, if_pos ea, if_pos eb, pu_gd (by decide), pu_gd (by decide), if_pos rfl, lx_eq, v1, Option.bind_some, pu_gd v2]
        by_cases cv : v < 0
        · rw [if_pos (v3.mp cv)]
          first | rw [if_pos cv] | rw [if_neg (by omega)]
        · rw [if_neg (fun z => cv (v3.mpr z))]
          first | rw [if_neg cv] | rw [if_pos (by omega)]
      · rw [if_pos ea, if_neg eb, if_pos ea, if_neg eb, pu_gd (by decide), pu_gd (by decide), if_neg (by decide), lx_lt (by decide)]
        rfl
    · by_cases eb : m 2 b = -1
      · rw [if_neg ea, if_pos eb, if_neg ea, if_pos eb, pu_gd (by decide), pu_gd (by decide), if_neg (by decide), lx_gt (by decide)]
        rfl
      · rw [if_neg ea, if_neg eb, if_neg ea, if_neg eb, pu_gd (by decide), pu_gd (by decide), if_pos rfl, lx_eq, v1, Option.bind_some, pu_gd v2]
        by_cases cv : v < 0
        · rw [if_pos (v3.mp cv)]
          first | rw [if_pos cv] | rw [if_neg (by omega)]
        · rw [if_neg (fun z => cv (v3.mpr z))]
          first | rw [if_neg cv] | rw [if_pos (by omega)]
  · rw [if_neg c0]
    by_cases c1 : n_sq (c_rt m a) x y < n_sq (c_rt m b) x y
    · rw [lx_lt c1]
      first | rw [if_pos c1] | rw [if_neg (by omega)]
      rfl
    · rw [lx_gt (by omega)]
      first | rw [if_neg c1] | rw [if_pos (by omega)]
      rfl
