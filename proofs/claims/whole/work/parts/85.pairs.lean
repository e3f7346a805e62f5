/-! ===== PURE, 46: entries that meet ===== -/
theorem pu_perm_out {a : Int} : ∀ (B : List Int), B.Nodup → a ∈ B → B.Perm (a :: B.filter (fun x => decide (x ≠ a))) := by
  intro B
  induction B with
  | nil => intro _ h; exact (List.not_mem_nil h).elim
  | cons b B ih =>
    intro hn ha
    obtain ⟨n1, n2⟩ := List.nodup_cons.mp hn
    by_cases e : b = a
    · subst e
      rw [List.filter_cons_of_neg (by simp)]
      have : B.filter (fun x => decide (x ≠ b)) = B := List.filter_eq_self.mpr (fun x hx => decide_eq_true (fun z => n1 (by rw [← z]; exact hx)))
      rw [this]
    · rw [List.filter_cons_of_pos (by simpa using e)]
      have ha' : a ∈ B := (List.mem_cons.mp ha).resolve_left (fun z => e z.symm)
      exact (List.Perm.cons b (ih n2 ha')).trans (List.Perm.swap a b _)
theorem pu_perm_ext : ∀ (A B : List Int), A.Nodup → B.Nodup → (∀ x, x ∈ A ↔ x ∈ B) → A.Perm B := by
  intro A
  induction A with
  | nil =>
    intro B _ _ h
    cases B with
    | nil => exact List.Perm.refl _
    | cons b B => exact ((List.not_mem_nil ((h b).mpr List.mem_cons_self))).elim
  | cons a A ih =>
    intro B hA hB h
    obtain ⟨n1, n2⟩ := List.nodup_cons.mp hA
    have ha : a ∈ B := (h a).mp List.mem_cons_self
    refine (List.Perm.cons a (ih (B.filter (fun x => decide (x ≠ a))) n2 (List.Nodup.sublist List.filter_sublist hB) (fun x => ?_))).trans (pu_perm_out B hB ha).symm
    rw [List.mem_filter]
    constructor
    · intro hx
      exact ⟨(h x).mp (List.mem_cons_of_mem _ hx), decide_eq_true (fun z => n1 (by rw [← z]; exact hx))⟩
    · rintro ⟨h1, h2⟩
      exact (List.mem_cons.mp ((h x).mpr h1)).resolve_left (of_decide_eq_true h2)
/-- the entries that there are -/
def q_E (m : vl_M) : List Int := (pu_seq (m 1 13).toNat 0).filter (fun e => decide (m 2 e = -1))
def q_Ir (r : vl_M) : List Int := (pu_seq 400 0).filter (fun i => decide (0 ≤ r 24 i))
theorem q_E_mem {w : Nat} {m : vl_M} (hP : s_P w m) {e : Int} : e ∈ q_E m ↔ c_LE m e := by
  unfold q_E c_LE
  have := hP.2.2.2.2
  rw [List.mem_filter, pu_seq_mem]
  constructor
  · rintro ⟨h1, h2⟩; exact ⟨by omega, of_decide_eq_true h2⟩
  · rintro ⟨h1, h2⟩; exact ⟨by omega, decide_eq_true h2⟩
theorem q_EI {w : Nat} {m r : vl_M} {φ : Int → Int} {X : Int → Prop} {a : Int} (h : q_I w m r φ X a) : ((q_E m).map φ).Perm (q_Ir r) := by
  obtain ⟨⟨hP, hK, hA, hR⟩, ⟨hE, -⟩, hT, ⟨hsn, hsi, hso, hse⟩, -⟩ := h
  have hn : (q_E m).Nodup := List.Nodup.sublist List.filter_sublist (pu_seq_nodup _ _)
  refine pu_perm_ext _ _ (pu_map_nodup _ (fun a b ha hb e => hsi.2 a b ((q_E_mem hP).mp ha) ((q_E_mem hP).mp hb) e) hn) (List.Nodup.sublist List.filter_sublist (pu_seq_nodup _ _)) (fun x => ?_)
  unfold q_Ir
  rw [List.mem_map, List.mem_filter, pu_seq_mem]
  constructor
  · rintro ⟨e, he, rfl⟩
    have he' := (q_E_mem hP).mp he
    obtain ⟨b1, b2, b3⟩ := hse e he'
    have := (hE e he').1
    exact ⟨by omega, decide_eq_true (by omega)⟩
  · rintro ⟨h1, h2⟩
    have h2' := of_decide_eq_true h2
    rcases hso.2 x (by omega) (by omega) with ⟨z, e, he, q⟩ | z
    · exact ⟨e, (q_E_mem hP).mpr he, q⟩
    · omega
theorem c_emL {N : Nat} {m : vl_M} {k : Int} {κ : Int → Int → Option Int} (hk : c_in k) (ok : r_ok (c_rt m k)) (ht : 0 ≤ m 1 13 ∧ m 1 13 ≤ 400) (hV : q_V m) (hE : s_E m) : ∀ (n fu : Nat) (v c : Int), 0 ≤ v → v + (n : Int) = m 1 13 → n < fu → fn_X4_entriesMeeting_L5 N m k κ fu c v = κ (c + ((((pu_seq n v).filter (fun e => decide (m 2 e = -1))).filter (fun e => r_mtb (c_rt m e) (c_rt m k))).length : Int)) (m 1 13) := by
  intro n
  induction n with
  | zero =>
    intro fu v c h1 h2 h3
    obtain ⟨fu, rfl⟩ : ∃ x, fu = x + 1 := ⟨fu - 1, by omega⟩
    rw [fn_X4_entriesMeeting_L5, pu_gd ⟨by omega, by omega⟩, pu_gd ⟨by omega, by omega⟩, if_neg (by omega), show v = m 1 13 by omega]
    show κ c _ = κ (c + 0) _
    rw [Int.add_zero]
  | succ n ih =>
    intro fu v c h1 h2 h3
    obtain ⟨fu, rfl⟩ : ∃ x, fu = x + 1 := ⟨fu - 1, by omega⟩
    rw [fn_X4_entriesMeeting_L5, pu_gd ⟨by omega, by omega⟩, pu_gd ⟨by omega, by omega⟩, if_pos (by omega), c_isE ⟨by omega, by omega⟩ (hV v h1 (by omega)), Option.bind_some, pu_seq_cons]
    by_cases cE : m 2 v = -1
    · have hv : c_LE m v := ⟨⟨h1, by omega⟩, cE⟩
      obtain ⟨l1, l2⟩ := c_meet (m := m) (a := v) (b := k) ⟨by omega, by omega⟩ hk (hE v hv).2 ok
      rw [if_pos cE, pu_gd (by decide), pu_jn, if_neg (by decide), List.filter_cons_of_pos (by simpa using cE)]
      by_cases cm : r_mt (c_rt m v) (c_rt m k)
      · rw [l1 cm, Option.bind_some, pu_gd (by decide), if_neg (by decide), pu_lt]
        dsimp only
        rw [pu_lt, ih fu (v + 1) (c + 1) (by omega) (by omega) (by omega), List.filter_cons_of_pos (p := fun e => r_mtb (c_rt m e) (c_rt m k)) (r_mtb_t.mpr cm), List.length_cons]
        congr 1; omega
      · rw [l2 cm, Option.bind_some, pu_gd (by decide), if_pos rfl]
        dsimp only
        rw [pu_lt, ih fu (v + 1) c (by omega) (by omega) (by omega), List.filter_cons_of_neg (p := fun e => r_mtb (c_rt m e) (c_rt m k)) (fun z => cm (r_mtb_t.mp z))]
    · rw [if_neg cE, pu_gd (by decide), pu_jn, if_pos rfl, List.filter_cons_of_neg (by simpa using cE)]
      dsimp only
      rw [pu_lt, ih fu (v + 1) c (by omega) (by omega) (by omega)]
theorem d_ciL {N : Nat} {r : vl_M} {q : pR} {κ : Int → Int → Option Int} (oq : r_ok q) (h24 : ∀ i, 0 ≤ i → i < 400 → vl_r32 (r 24 i) ∧ (0 ≤ r 24 i → r_ok (d_rt r (-1) i))) : ∀ (n fu : Nat) (v c : Int), 0 ≤ v → v + (n : Int) = 400 → n < fu → fn_X8_countIn_L19 N r q.1 q.2.1 q.2.2.1 q.2.2.2 κ fu c v = κ (c + ((((pu_seq n v).filter (fun i => decide (0 ≤ r 24 i))).filter (fun i => r_mtb (d_rt r (-1) i) q)).length : Int)) 400 := by
  intro n
  induction n with
  | zero =>
    intro fu v c h1 h2 h3
    obtain ⟨fu, rfl⟩ : ∃ x, fu = x + 1 := ⟨fu - 1, by omega⟩
    rw [fn_X8_countIn_L19, pu_gd ⟨by omega, by omega⟩, if_neg (by omega), show v = 400 by omega]
    show κ c _ = κ (c + 0) _
    rw [Int.add_zero]
  | succ n ih =>
    intro fu v c h1 h2 h3
    obtain ⟨fu, rfl⟩ : ∃ x, fu = x + 1 := ⟨fu - 1, by omega⟩
    obtain ⟨w1, w2⟩ := h24 v h1 (by omega)
    rw [fn_X8_countIn_L19, pu_gd ⟨by omega, by omega⟩, if_pos (by omega), pu_gd ⟨by omega, by omega⟩, pu_gd w1, pu_jn, pu_seq_cons]
    by_cases cE : r 24 v < 0
    · rw [if_pos cE, List.filter_cons_of_neg (by simpa using cE)]
      dsimp only
      rw [pu_lt, pu_lt, ih fu (v + 1) (c + 0) (by omega) (by omega) (by omega), Int.add_zero]
    · obtain ⟨l1, l2⟩ := d_meets (r := r) (l := -1) (t := v) (q := q) ⟨by decide, h1, fun _ => by omega, fun z => absurd (by decide) z⟩ (w2 (by omega)) oq
      rw [if_neg cE, List.filter_cons_of_pos (by simpa using cE)]
      by_cases cm : r_mt (d_rt r (-1) v) q
      · rw [l1 cm, Option.bind_some, pu_gd (by decide), if_neg (by decide)]
        dsimp only
        rw [pu_lt, pu_lt, ih fu (v + 1) (c + 1) (by omega) (by omega) (by omega), List.filter_cons_of_pos (p := fun i => r_mtb (d_rt r (-1) i) q) (r_mtb_t.mpr cm), List.length_cons]
        congr 1; omega
      · rw [l2 cm, Option.bind_some, pu_gd (by decide), if_pos rfl]
        dsimp only
        rw [pu_lt, pu_lt, ih fu (v + 1) (c + 0) (by omega) (by omega) (by omega), Int.add_zero, List.filter_cons_of_neg (p := fun i => r_mtb (d_rt r (-1) i) q) (fun z => cm (r_mtb_t.mp z))]
/-- what the reference's entries are -/
theorem q_24 {w : Nat} {m r : vl_M} {φ : Int → Int} {X : Int → Prop} {a : Int} (h : q_I w m r φ X a) : ∀ i, 0 ≤ i → i < 400 → vl_r32 (r 24 i) ∧ (0 ≤ r 24 i → r_ok (d_rt r (-1) i)) := by
  obtain ⟨⟨hP, hK, hA, hR⟩, ⟨hE, -⟩, hT, ⟨hsn, hsi, hso, hse⟩, -⟩ := h
  intro i i1 i2
  rcases hso.2 i i1 (by omega) with ⟨z, e, he, q⟩ | z
  · obtain ⟨b1, b2, b3⟩ := hse e he
    obtain ⟨c1, c2⟩ := hE e he
    rw [← q, b2, b3]
    exact ⟨⟨by omega, by omega⟩, fun _ => c2⟩
  · rw [z]; exact ⟨by decide, fun y => absurd y (by decide)⟩
theorem pu_filter_map (f : Int → Int) (p : Int → Bool) : ∀ l : List Int, ((l.map f).filter p).length = (l.filter (fun x => p (f x))).length := by
  intro l
  induction l with
  | nil => rfl
  | cons a t ih =>
    rw [List.map_cons]
    by_cases c : p (f a) = true
    · rw [List.filter_cons_of_pos c, List.filter_cons_of_pos (p := fun x => p (f x)) c, List.length_cons, List.length_cons, ih]
    · rw [List.filter_cons_of_neg c, List.filter_cons_of_neg (p := fun x => p (f x)) c, ih]
theorem t_countIn {n w N : Nat} {m r : vl_M} {φ : Int → Int} {a1 a2 a3 a4 : Int} (hN : 100000 ≤ N) (h : q_top n w m r φ) (h1 : vl_r32 a1) (h2 : vl_r32 a2) (h3 : vl_r32 a3) (h4 : vl_r32 a4) :
    ∃ v m', fn_X7_countIn N m a1 a2 a3 a4 = some (v, m') ∧ fn_X8_countIn N r a1 a2 a3 a4 = some v ∧ vl_r32 v ∧ q_top n w m' r φ := by
  obtain ⟨c1, c2⟩ := a_rect h1 h2 h3 h4
  by_cases hq : r_ok (a1, a2, a3, a4)
  · obtain ⟨d1, d2, d3, d4⟩ := t_desc h (-1) (a1, a2, a3, a4)
    generalize hm4 : c_set (vl_up m 7 805 (-1)) 805 (a1, a2, a3, a4) = m4 at *
    obtain ⟨⟨hB, hO⟩, -, -⟩ := id d1
    obtain ⟨⟨hP, hK, hA, hR⟩, ⟨hE, -⟩, hT, ⟨hsn, hsi, hso, hse⟩, -⟩ := id hB.1
    have hp := hP.2.2.2.2
    have e1 := c_emL (N := N) (m := m4) (k := 805) (κ := fun (v3 : Int) (v4 : Int) => some (v3)) (by decide) (by rw [d3]; exact hq) hp hB.2.2.2.2 hE (m4 1 13).toNat N 0 0 (by omega) (by omega) (by omega)
    have e2 := d_ciL (N := N) (r := r) (q := (a1, a2, a3, a4)) (κ := fun (v5 : Int) (v6 : Int) => some (v5)) hq (q_24 hB.1) 400 N 0 0 (by omega) (by omega) (by omega)
    rw [d3] at e1
    dsimp only at e2
    have hlen : ((((pu_seq 400 0).filter (fun i => decide (0 ≤ r 24 i))).filter (fun i => r_mtb (d_rt r (-1) i) (a1, a2, a3, a4))).length) = ((((pu_seq (m4 1 13).toNat 0).filter (fun e => decide (m4 2 e = -1))).filter (fun e => r_mtb (c_rt m4 e) (a1, a2, a3, a4))).length) := by
      have hp1 := (List.Perm.filter (fun i => r_mtb (d_rt r (-1) i) (a1, a2, a3, a4)) (q_EI hB.1)).length_eq
      rw [pu_filter_map] at hp1
      have e3 : (q_E m4).filter (fun x => r_mtb (d_rt r (-1) (φ x)) (a1, a2, a3, a4)) = (q_E m4).filter (fun e => r_mtb (c_rt m4 e) (a1, a2, a3, a4)) := List.filter_congr (fun x hx => by rw [(hse x ((q_E_mem hP).mp hx)).2.2])
      rw [e3] at hp1
      exact hp1.symm
    have hb := (List.length_filter_le (fun e => r_mtb (c_rt m4 e) (a1, a2, a3, a4)) ((pu_seq (m4 1 13).toNat 0).filter (fun e => decide (m4 2 e = -1))))
    have hb2 := List.length_filter_le (fun e => decide (m4 2 e = -1)) (pu_seq (m4 1 13).toNat 0)
    rw [pu_seq_len] at hb2
    refine ⟨0 + (((((pu_seq (m4 1 13).toNat 0).filter (fun e => decide (m4 2 e = -1))).filter (fun e => r_mtb (c_rt m4 e) (a1, a2, a3, a4))).length : Nat) : Int), m4, ?_, ?_, ⟨by omega, by omega⟩, d1⟩
    · unfold fn_X7_countIn fn_X4_entriesMeeting
      rw [c1 hq, Option.bind_some, pu_gd (by decide), if_neg (by decide), c_desc (by decide), Option.bind_some, hm4, e1, Option.bind_some]
    · unfold fn_X8_countIn
      rw [b_rect, c1 hq, Option.bind_some, pu_gd (by decide), if_neg (by decide), e2, hlen]
  · refine ⟨-1, m, ?_, ?_, by decide, h⟩
    · unfold fn_X7_countIn
      rw [c2 hq, Option.bind_some, pu_gd (by decide), if_pos rfl]
    · unfold fn_X8_countIn
      rw [b_rect, c2 hq, Option.bind_some, pu_gd (by decide), if_pos rfl]
/-- pairs in a list -/
def pu_pc (p : Int → Int → Bool) : List Int → Nat
  | [] => 0
  | a :: l => (l.filter (fun x => p x a)).length + pu_pc p l
theorem pu_pc_perm {p : Int → Int → Bool} (hs : ∀ a b, p a b = p b a) : ∀ {A B : List Int}, A.Perm B → pu_pc p A = pu_pc p B := by
  intro A B h
  induction h with
  | nil => rfl
  | cons a h ih =>
    unfold pu_pc
    rw [ih, (List.Perm.filter _ h).length_eq]
  | swap a b l =>
    show ((a :: l).filter (fun x => p x b)).length + ((l.filter (fun x => p x a)).length + pu_pc p l) = ((b :: l).filter (fun x => p x a)).length + ((l.filter (fun x => p x b)).length + pu_pc p l)
    by_cases c : p a b = true
    · rw [List.filter_cons_of_pos (p := fun x => p x b) c, List.filter_cons_of_pos (p := fun x => p x a) (by rw [← hs]; exact c), List.length_cons, List.length_cons]; omega
    · rw [List.filter_cons_of_neg (p := fun x => p x b) c, List.filter_cons_of_neg (p := fun x => p x a) (by rw [← hs]; exact c)]; omega
  | trans _ _ i1 i2 => rw [i1, i2]
theorem pu_pc_map {p q : Int → Int → Bool} {f : Int → Int} : ∀ l : List Int, (∀ a b, a ∈ l → b ∈ l → p (f a) (f b) = q a b) → pu_pc p (l.map f) = pu_pc q l := by
  intro l
  induction l with
  | nil => intro _; rfl
  | cons a t ih =>
    intro h
    show ((t.map f).filter (fun x => p x (f a))).length + pu_pc p (t.map f) = (t.filter (fun x => q x a)).length + pu_pc q t
    rw [pu_filter_map, ih (fun a b ha hb => h a b (List.mem_cons_of_mem _ ha) (List.mem_cons_of_mem _ hb)), List.filter_congr (q := fun x => q x a) (fun x hx => h x a (List.mem_cons_of_mem _ hx) List.mem_cons_self)]
theorem pu_pc_le (p : Int → Int → Bool) : ∀ l : List Int, pu_pc p l ≤ l.length * l.length := by
  intro l
  induction l with
  | nil => exact Nat.zero_le _
  | cons a t ih =>
    show (t.filter (fun x => p x a)).length + pu_pc p t ≤ (t.length + 1) * (t.length + 1)
    have := List.length_filter_le (fun x => p x a) t
    have e : (t.length + 1) * (t.length + 1) = t.length * t.length + 2 * t.length + 1 := by rw [Nat.add_mul, Nat.mul_add]; omega
    omega
theorem c_paL {N : Nat} {m : vl_M} {κ : Int → Int → Option Int} (hN : 100000 ≤ N) (ht : 0 ≤ m 1 13 ∧ m 1 13 ≤ 400) (hV : q_V m) (hE : s_E m) : ∀ (n fu : Nat) (v c : Int), 0 ≤ v → v + (n : Int) = m 1 13 → n < fu → fn_X7_pairs_L4 N m κ fu c v = κ (c + ((pu_pc (fun a b => r_mtb (c_rt m a) (c_rt m b)) ((pu_seq n v).filter (fun e => decide (m 2 e = -1))) : Nat) : Int)) (m 1 13) := by
  intro n
  induction n with
  | zero =>
    intro fu v c h1 h2 h3
    obtain ⟨fu, rfl⟩ : ∃ x, fu = x + 1 := ⟨fu - 1, by omega⟩
    rw [fn_X7_pairs_L4, pu_gd ⟨by omega, by omega⟩, pu_gd ⟨by omega, by omega⟩, if_neg (by omega), show v = m 1 13 by omega]
    show κ c _ = κ (c + 0) _
    rw [Int.add_zero]
  | succ n ih =>
    intro fu v c h1 h2 h3
    obtain ⟨fu, rfl⟩ : ∃ x, fu = x + 1 := ⟨fu - 1, by omega⟩
    rw [fn_X7_pairs_L4, pu_gd ⟨by omega, by omega⟩, pu_gd ⟨by omega, by omega⟩, if_pos (by omega), c_isE ⟨by omega, by omega⟩ (hV v h1 (by omega)), Option.bind_some, pu_seq_cons]
    by_cases cE : m 2 v = -1
    · have hv : c_LE m v := ⟨⟨h1, by omega⟩, cE⟩
      have e1 := c_emL (N := N) (m := m) (k := v) (κ := fun (v3 : Int) (v4 : Int) => some (v3)) ⟨by omega, by omega⟩ (hE v hv).2 ht hV hE n N (v + 1) 0 (by omega) (by omega) (by omega)
      rw [if_pos cE, pu_gd (by decide), pu_jn, if_neg (by decide), List.filter_cons_of_pos (by simpa using cE)]
      unfold fn_X4_entriesMeeting
      rw [e1, Option.bind_some, pu_lt]
      dsimp only
      rw [pu_lt, ih fu (v + 1) _ (by omega) (by omega) (by omega)]
      show κ _ _ = κ (c + (((((pu_seq n (v + 1)).filter (fun e => decide (m 2 e = -1))).filter (fun x => r_mtb (c_rt m x) (c_rt m v))).length + pu_pc (fun a b => r_mtb (c_rt m a) (c_rt m b)) ((pu_seq n (v + 1)).filter (fun e => decide (m 2 e = -1))) : Nat) : Int)) _
      congr 1; omega
    · rw [if_neg cE, pu_gd (by decide), pu_jn, if_pos rfl, List.filter_cons_of_neg (by simpa using cE)]
      dsimp only
      rw [pu_lt, ih fu (v + 1) c (by omega) (by omega) (by omega)]
theorem d_paI {N : Nat} {r : vl_M} {a : Int} {κ : Int → Int → Option Int} (ha : 0 ≤ a ∧ a < 400) (h24 : ∀ i, 0 ≤ i → i < 400 → vl_r32 (r 24 i) ∧ (0 ≤ r 24 i → r_ok (d_rt r (-1) i))) : ∀ (n fu : Nat) (v c : Int), 0 ≤ v → v + (n : Int) = a → n < fu → fn_X8_pairs_L13 N r a κ fu c v = κ (c + (if 0 ≤ r 24 a then ((((pu_seq n v).filter (fun i => decide (0 ≤ r 24 i))).filter (fun i => r_mtb (d_rt r (-1) a) (d_rt r (-1) i))).length : Int) else 0)) a := by
  intro n
  induction n with
  | zero =>
    intro fu v c h1 h2 h3
    obtain ⟨fu, rfl⟩ : ∃ x, fu = x + 1 := ⟨fu - 1, by omega⟩
    rw [fn_X8_pairs_L13, pu_gd ⟨by omega, by omega⟩, if_neg (by omega), show v = a by omega]
    have : (if 0 ≤ r 24 a then ((((pu_seq 0 a).filter (fun i => decide (0 ≤ r 24 i))).filter (fun i => r_mtb (d_rt r (-1) a) (d_rt r (-1) i))).length : Int) else 0) = 0 := by
      by_cases z : 0 ≤ r 24 a
      · rw [if_pos z]; rfl
      · rw [if_neg z]
    rw [this, Int.add_zero]
  | succ n ih =>
    intro fu v c h1 h2 h3
    obtain ⟨fu, rfl⟩ : ∃ x, fu = x + 1 := ⟨fu - 1, by omega⟩
    obtain ⟨w1, w2⟩ := h24 a ha.1 ha.2
    obtain ⟨y1, y2⟩ := h24 v h1 (by omega)
    rw [fn_X8_pairs_L13, pu_gd ⟨by omega, by omega⟩, if_pos (by omega), pu_gd ⟨by omega, by omega⟩, pu_gd w1, pu_jn, pu_seq_cons]
    by_cases cA : r 24 a < 0
    · rw [if_pos cA]
      dsimp only
      rw [pu_lt, pu_lt, ih fu (v + 1) (c + 0) (by omega) (by omega) (by omega), if_neg (by omega), if_neg (by omega), Int.add_zero]
    · rw [if_neg cA, pu_gd ⟨by omega, by omega⟩, pu_gd y1, if_pos (show 0 ≤ r 24 a by omega)]
      by_cases cV : r 24 v < 0
      · rw [if_pos cV, List.filter_cons_of_neg (by simpa using cV)]
        dsimp only
        rw [pu_lt, pu_lt, ih fu (v + 1) (c + 0) (by omega) (by omega) (by omega), if_pos (show 0 ≤ r 24 a by omega), Int.add_zero]
      · obtain ⟨l1, l2⟩ := d_meet (r := r) (l := -1) (t := a) (l2 := -1) (t2 := v) ⟨by decide, ha.1, fun _ => by omega, fun z => absurd (by decide) z⟩ ⟨by decide, h1, fun _ => by omega, fun z => absurd (by decide) z⟩ (w2 (by omega)) (y2 (by omega))
        rw [if_neg cV, List.filter_cons_of_pos (by simpa using cV)]
        by_cases cm : r_mt (d_rt r (-1) a) (d_rt r (-1) v)
        · rw [l1 cm, Option.bind_some, pu_gd (by decide), if_neg (by decide)]
          dsimp only
          rw [pu_lt, pu_lt, ih fu (v + 1) (c + 1) (by omega) (by omega) (by omega), if_pos (show 0 ≤ r 24 a by omega), List.filter_cons_of_pos (p := fun i => r_mtb (d_rt r (-1) a) (d_rt r (-1) i)) (r_mtb_t.mpr cm), List.length_cons]
          congr 1; omega
        · rw [l2 cm, Option.bind_some, pu_gd (by decide), if_pos rfl]
          dsimp only
          rw [pu_lt, pu_lt, ih fu (v + 1) (c + 0) (by omega) (by omega) (by omega), if_pos (show 0 ≤ r 24 a by omega), Int.add_zero, List.filter_cons_of_neg (p := fun i => r_mtb (d_rt r (-1) a) (d_rt r (-1) i)) (fun z => cm (r_mtb_t.mp z))]
theorem pu_seq_snoc : ∀ (n : Nat) (i : Int), pu_seq (n + 1) i = pu_seq n i ++ [i + (n : Int)] := by
  intro n
  induction n with
  | zero => intro i; show [i] = [i + 0]; rw [Int.add_zero]
  | succ n ih =>
    intro i
    rw [pu_seq_cons, ih (i + 1), pu_seq_cons, List.cons_append]
    congr 2
    congr 1
    omega
theorem d_paL {N : Nat} {r : vl_M} {κ : Int → Int → Option Int} (hN : 100000 ≤ N) (h24 : ∀ i, 0 ≤ i → i < 400 → vl_r32 (r 24 i) ∧ (0 ≤ r 24 i → r_ok (d_rt r (-1) i))) : ∀ (n fu v : Nat) (c : Int), v + n = 400 → n < fu → c = ((pu_pc (fun x a => r_mtb (d_rt r (-1) a) (d_rt r (-1) x)) ((pu_seq v 0).filter (fun i => decide (0 ≤ r 24 i))).reverse : Nat) : Int) → fn_X8_pairs_L4 N r κ fu c (v : Int) = κ ((pu_pc (fun x a => r_mtb (d_rt r (-1) a) (d_rt r (-1) x)) (q_Ir r).reverse : Nat) : Int) 400 := by
  intro n
  induction n with
  | zero =>
    intro fu v c h1 h2 h3
    obtain ⟨fu, rfl⟩ : ∃ x, fu = x + 1 := ⟨fu - 1, by omega⟩
    have e : v = 400 := by omega
    subst e
    rw [fn_X8_pairs_L4, pu_gd ⟨by omega, by omega⟩, if_neg (by omega), h3]
    rfl
  | succ n ih =>
    intro fu v c h1 h2 h3
    obtain ⟨fu, rfl⟩ : ∃ x, fu = x + 1 := ⟨fu - 1, by omega⟩
    rw [fn_X8_pairs_L4, pu_gd ⟨by omega, by omega⟩, if_pos (by omega), d_paI ⟨by omega, by omega⟩ h24 v N 0 c (by omega) (by omega) (by omega), pu_lt]
    have e1 : (v : Int) + 1 = ((v + 1 : Nat) : Int) := by omega
    rw [e1]
    refine ih fu (v + 1) _ (by omega) (by omega) ?_
    rw [pu_seq_snoc, List.filter_append, show (0 : Int) + (v : Int) = (v : Int) by omega]
    by_cases z : 0 ≤ r 24 (v : Int)
    · rw [if_pos z, List.filter_cons_of_pos (by simpa using z), List.filter_nil, List.reverse_append, List.reverse_singleton, List.singleton_append, h3]
      show _ = (((((pu_seq v 0).filter (fun i => decide (0 ≤ r 24 i))).reverse.filter (fun x => r_mtb (d_rt r (-1) (v : Int)) (d_rt r (-1) x))).length + pu_pc (fun x a => r_mtb (d_rt r (-1) a) (d_rt r (-1) x)) ((pu_seq v 0).filter (fun i => decide (0 ≤ r 24 i))).reverse : Nat) : Int)
      rw [List.filter_reverse, List.length_reverse]
      omega
    · rw [if_neg z, List.filter_cons_of_neg (by simpa using z), List.filter_nil, List.append_nil, h3]
      omega
theorem r_mtb_comm (a b : pR) : r_mtb a b = r_mtb b a := by
  unfold r_mtb
  refine decide_eq_decide.mpr ?_
  omega
theorem t_pairs {n w N : Nat} {m r : vl_M} {φ : Int → Int} (hN : 100000 ≤ N) (h : q_top n w m r φ) : ∃ v, fn_X7_pairs N m = some v ∧ fn_X8_pairs N r = some v ∧ vl_r32 v := by
  obtain ⟨⟨hB, hO⟩, -, -⟩ := h
  obtain ⟨⟨hP, hK, hA, hR⟩, ⟨hE, -⟩, hT, ⟨hsn, hsi, hso, hse⟩, -⟩ := id hB.1
  have hp := hP.2.2.2.2
  have e1 := c_paL (N := N) (m := m) (κ := fun (v3 : Int) (v4 : Int) => some (v3)) hN hp hB.2.2.2.2 hE (m 1 13).toNat N 0 0 (by omega) (by omega) (by omega)
  have e2 := d_paL (N := N) (r := r) (κ := fun (v3 : Int) (v4 : Int) => some (v3)) hN (q_24 hB.1) 400 N 0 0 (by omega) (by omega) rfl
  have e3 : pu_pc (fun x a => r_mtb (d_rt r (-1) a) (d_rt r (-1) x)) (q_Ir r).reverse = pu_pc (fun a b => r_mtb (c_rt m a) (c_rt m b)) (q_E m) := by
    have hs : ∀ a b, (fun x a => r_mtb (d_rt r (-1) a) (d_rt r (-1) x)) a b = (fun x a => r_mtb (d_rt r (-1) a) (d_rt r (-1) x)) b a := fun a b => r_mtb_comm _ _
    rw [pu_pc_perm hs (List.reverse_perm (q_Ir r)), ← pu_pc_perm hs (q_EI hB.1)]
    refine pu_pc_map (q_E m) (fun a b ha hb => ?_)
    show r_mtb (d_rt r (-1) (φ b)) (d_rt r (-1) (φ a)) = r_mtb (c_rt m a) (c_rt m b)
    rw [(hse a ((q_E_mem hP).mp ha)).2.2, (hse b ((q_E_mem hP).mp hb)).2.2, r_mtb_comm]
  have hb := pu_pc_le (fun a b => r_mtb (c_rt m a) (c_rt m b)) (q_E m)
  have hl : (q_E m).length ≤ 400 := by
    have := List.length_filter_le (fun e => decide (m 2 e = -1)) (pu_seq (m 1 13).toNat 0)
    rw [pu_seq_len] at this
    unfold q_E
    omega
  have hb2 : (q_E m).length * (q_E m).length ≤ 400 * 400 := Nat.mul_le_mul hl hl
  refine ⟨((pu_pc (fun a b => r_mtb (c_rt m a) (c_rt m b)) (q_E m) : Nat) : Int), ?_, ?_, ⟨by omega, by omega⟩⟩
  · unfold fn_X7_pairs
    rw [e1, Int.zero_add]; rfl
  · unfold fn_X8_pairs
    have e2' := e2
    rw [show ((0 : Nat) : Int) = 0 from rfl] at e2'
    rw [e2', e3]
