/-! ===== PURE, 29: a new entry, in both ===== -/
def c_fe (m : vl_M) : Int := if m 1 14 = -1 then m 1 13 else m 1 14
def c_newe (m : vl_M) (k : Int) : vl_M := c_set (vl_up (vl_up (vl_up (if m 1 14 = -1 then vl_up m 1 13 (m 1 13 + 1) else vl_up m 1 14 (m 8 (m 1 14))) 1 12 (m 1 12 + 1)) 2 (c_fe m) (-1)) 7 (c_fe m) (m 7 k)) (c_fe m) (c_rt m k)
theorem c_newEntry {m : vl_M} {k : Int} (hk : c_in k) (h : m 1 14 = -1 → 0 ≤ m 1 13 ∧ m 1 13 < 400) (h2 : m 1 14 ≠ -1 → 0 ≤ m 1 14 ∧ m 1 14 < 400) : fn_X4_newEntry m k = some (c_fe m, c_newe m k) := by
  unfold fn_X4_newEntry
  rw [pu_lt]
  by_cases c : m 1 14 = -1
  · have h' := h c
    have ef : c_fe m = m 1 13 := by unfold c_fe; rw [if_pos c]
    rw [pu_gd (by rw [c]; decide), if_pos c, pu_gd ⟨by omega, by omega⟩, if_pos h'.2, pu_lt, pu_lt, pu_lt, pu_gd ⟨by omega, by omega⟩, pu_lt, pu_gd hk, pu_lt, c_copy hk ⟨by omega, by omega⟩, Option.bind_some]
    unfold c_newe
    rw [if_pos c, ef]
    have e1 : vl_up (vl_up (vl_up m 1 13 (m 1 13 + 1)) 1 12 (vl_up m 1 13 (m 1 13 + 1) 1 12 + 1)) 2 (m 1 13) (-1) 7 k = m 7 k := by
      rw [up_h _ _ _ (by decide), up_h _ _ _ (by decide), up_h _ _ _ (by decide)]
    have e2 : vl_up m 1 13 (m 1 13 + 1) 1 12 = m 1 12 := up_i _ _ (by decide)
    have e3 : ∀ v, c_rt (vl_up (vl_up (vl_up (vl_up m 1 13 (m 1 13 + 1)) 1 12 (m 1 12 + 1)) 2 (m 1 13) (-1)) 7 (m 1 13) v) k = c_rt m k := fun v => c_rt_congr (by rw [up_h _ _ _ (by decide), up_h _ _ _ (by decide), up_h _ _ _ (by decide), up_h _ _ _ (by decide)]) (by rw [up_h _ _ _ (by decide), up_h _ _ _ (by decide), up_h _ _ _ (by decide), up_h _ _ _ (by decide)]) (by rw [up_h _ _ _ (by decide), up_h _ _ _ (by decide), up_h _ _ _ (by decide), up_h _ _ _ (by decide)]) (by rw [up_h _ _ _ (by decide), up_h _ _ _ (by decide), up_h _ _ _ (by decide), up_h _ _ _ (by decide)])
    rw [e1, e2, e3]
  · have h' := h2 c
    have ef : c_fe m = m 1 14 := by unfold c_fe; rw [if_neg c]
    rw [pu_gd ⟨by omega, by omega⟩, if_neg c, pu_gd ⟨by omega, by omega⟩, pu_lt, pu_lt, pu_lt, pu_gd hk, pu_lt, c_copy hk ⟨by omega, by omega⟩, Option.bind_some]
    unfold c_newe
    rw [if_neg c, ef]
    have e1 : vl_up (vl_up (vl_up m 1 14 (m 8 (m 1 14))) 1 12 (vl_up m 1 14 (m 8 (m 1 14)) 1 12 + 1)) 2 (m 1 14) (-1) 7 k = m 7 k := by
      rw [up_h _ _ _ (by decide), up_h _ _ _ (by decide), up_h _ _ _ (by decide)]
    have e2 : vl_up m 1 14 (m 8 (m 1 14)) 1 12 = m 1 12 := up_i _ _ (by decide)
    have e3 : ∀ v, c_rt (vl_up (vl_up (vl_up (vl_up m 1 14 (m 8 (m 1 14))) 1 12 (m 1 12 + 1)) 2 (m 1 14) (-1)) 7 (m 1 14) v) k = c_rt m k := fun v => c_rt_congr (by rw [up_h _ _ _ (by decide), up_h _ _ _ (by decide), up_h _ _ _ (by decide), up_h _ _ _ (by decide)]) (by rw [up_h _ _ _ (by decide), up_h _ _ _ (by decide), up_h _ _ _ (by decide), up_h _ _ _ (by decide)]) (by rw [up_h _ _ _ (by decide), up_h _ _ _ (by decide), up_h _ _ _ (by decide), up_h _ _ _ (by decide)]) (by rw [up_h _ _ _ (by decide), up_h _ _ _ (by decide), up_h _ _ _ (by decide), up_h _ _ _ (by decide)])
    rw [e1, e2, e3]
theorem c_newe_h (m : vl_M) (k : Int) {h : Nat} (hh : h = 0 ∨ 7 < h) : c_newe m k h = m h := by
  unfold c_newe
  rw [c_set_h _ _ _ (by omega) (by omega) (by omega) (by omega), up_h _ _ _ (by omega), up_h _ _ _ (by omega), up_h _ _ _ (by omega)]
  split
  · rw [up_h _ _ _ (by omega)]
  · rw [up_h _ _ _ (by omega)]
theorem c_newe_1 (m : vl_M) (k : Int) {j : Int} (h1 : j ≠ 12) (h2 : j ≠ 13) (h3 : j ≠ 14) : c_newe m k 1 j = m 1 j := by
  unfold c_newe
  rw [c_set_h _ _ _ (by omega) (by omega) (by omega) (by omega), up_h _ _ _ (by omega), up_h _ _ _ (by omega), up_i _ _ h1]
  split
  · rw [up_i _ _ h2]
  · rw [up_i _ _ h3]
theorem c_newe_12 (m : vl_M) (k : Int) : c_newe m k 1 12 = m 1 12 + 1 := by
  unfold c_newe
  rw [c_set_h _ _ _ (by omega) (by omega) (by omega) (by omega), up_h _ _ _ (by omega), up_h _ _ _ (by omega), up_s]
theorem c_newe_13 (m : vl_M) (k : Int) : c_newe m k 1 13 = if m 1 14 = -1 then m 1 13 + 1 else m 1 13 := by
  unfold c_newe
  rw [c_set_h _ _ _ (by omega) (by omega) (by omega) (by omega), up_h _ _ _ (by omega), up_h _ _ _ (by omega), up_i _ _ (by decide)]
  split
  · rw [up_s]
  · rw [up_i _ _ (by decide)]
theorem c_newe_14 (m : vl_M) (k : Int) : c_newe m k 1 14 = if m 1 14 = -1 then -1 else m 8 (m 1 14) := by
  unfold c_newe
  rw [c_set_h _ _ _ (by omega) (by omega) (by omega) (by omega), up_h _ _ _ (by omega), up_h _ _ _ (by omega), up_i _ _ (by decide)]
  split
  · rw [up_i _ _ (by decide)]; assumption
  · rw [up_s]
theorem c_newe_2 (m : vl_M) (k u : Int) : c_newe m k 2 u = if u = c_fe m then -1 else m 2 u := by
  unfold c_newe
  rw [c_set_h _ _ _ (by omega) (by omega) (by omega) (by omega), up_h _ _ _ (by omega)]
  by_cases c : u = c_fe m
  · rw [c, up_s, if_pos rfl]
  · rw [up_i _ _ c, if_neg c, up_h _ _ _ (by decide)]
    split
    · rw [up_h _ _ _ (by decide)]
    · rw [up_h _ _ _ (by decide)]
theorem c_newe_7 (m : vl_M) (k u : Int) : c_newe m k 7 u = if u = c_fe m then m 7 k else m 7 u := by
  unfold c_newe
  rw [c_set_h _ _ _ (by omega) (by omega) (by omega) (by omega)]
  by_cases c : u = c_fe m
  · rw [c, up_s, if_pos rfl]
  · rw [up_i _ _ c, if_neg c, up_h _ _ _ (by decide), up_h _ _ _ (by decide)]
    split
    · rw [up_h _ _ _ (by decide)]
    · rw [up_h _ _ _ (by decide)]
theorem c_newe_rt (m : vl_M) (k u : Int) : c_rt (c_newe m k) u = if u = c_fe m then c_rt m k else c_rt m u := by
  unfold c_newe
  by_cases c : u = c_fe m
  · rw [c, c_set_s, if_pos rfl]
  · rw [c_set_ne _ _ c, if_neg c]
    have : ∀ h : Nat, h ≠ 1 → h ≠ 2 → h ≠ 7 → (vl_up (vl_up (vl_up (if m 1 14 = -1 then vl_up m 1 13 (m 1 13 + 1) else vl_up m 1 14 (m 8 (m 1 14))) 1 12 (m 1 12 + 1)) 2 (c_fe m) (-1)) 7 (c_fe m) (m 7 k)) h = m h := fun h x y z => by
      rw [up_h _ _ _ z, up_h _ _ _ y, up_h _ _ _ x]
      split
      · rw [up_h _ _ _ x]
      · rw [up_h _ _ _ x]
    exact c_rt_congr (this 3 (by decide) (by decide) (by decide)) (this 4 (by decide) (by decide) (by decide)) (this 5 (by decide) (by decide) (by decide)) (this 6 (by decide) (by decide) (by decide))
theorem c_fe_ok {w : Nat} {m : vl_M} (hP : s_P w m) (hS : s_S m) (hroom : m 1 14 = -1 → m 1 13 < 400) : (0 ≤ c_fe m ∧ c_fe m < 400) ∧ ¬ c_LE m (c_fe m) ∧ (m 1 14 ≠ -1 → (0 ≤ m 1 14 ∧ m 1 14 < 400) ∧ m 1 14 < m 1 13) := by
  obtain ⟨-, -, -, -, p2⟩ := hP
  obtain ⟨-, ⟨L, l1, l2, l3⟩⟩ := hS
  unfold c_fe
  by_cases h : m 1 14 = -1
  · rw [if_pos h]
    exact ⟨⟨by omega, hroom h⟩, fun z => by have := z.1; omega, fun z => absurd h z⟩
  · rw [if_neg h]
    cases L with
    | nil => exact absurd l1 h
    | cons a t =>
      have e : m 1 14 = a := l1.1
      have := (l3 a).mp List.mem_cons_self
      rw [e]
      exact ⟨⟨by omega, by omega⟩, fun z => this.2 z.2, fun _ => ⟨⟨by omega, by omega⟩, by omega⟩⟩
theorem c_newe_LE {w : Nat} {m : vl_M} {k : Int} (hP : s_P w m) (hS : s_S m) (hroom : m 1 14 = -1 → m 1 13 < 400) (u : Int) : c_LE (c_newe m k) u ↔ (c_LE m u ∨ u = c_fe m) := by
  obtain ⟨f1, f2, f3⟩ := c_fe_ok hP hS hroom
  unfold c_LE
  rw [c_newe_13, c_newe_2]
  by_cases h : u = c_fe m
  · rw [if_pos h]
    refine ⟨fun _ => Or.inr h, fun _ => ⟨⟨by omega, ?_⟩, rfl⟩⟩
    by_cases h16 : m 1 14 = -1
    · rw [if_pos h16, h]
      unfold c_fe
      rw [if_pos h16]; omega
    · rw [if_neg h16, h]
      unfold c_fe
      rw [if_neg h16]; exact (f3 h16).2
  · rw [if_neg h]
    constructor
    · rintro ⟨⟨a, b⟩, c⟩
      left
      refine ⟨⟨a, ?_⟩, c⟩
      by_cases h16 : m 1 14 = -1
      · rw [if_pos h16] at b
        have : u ≠ m 1 13 := fun z => h (by unfold c_fe; rw [if_pos h16]; exact z)
        omega
      · rw [if_neg h16] at b; exact b
    · rintro (⟨⟨a, b⟩, c⟩ | z)
      · refine ⟨⟨a, ?_⟩, c⟩
        split <;> omega
      · exact absurd z h
theorem c_newe_LN {w : Nat} {m : vl_M} {k : Int} (hP : s_P w m) (hS : s_S m) (hroom : m 1 14 = -1 → m 1 13 < 400) (u : Int) : c_LN (c_newe m k) u ↔ c_LN m u := by
  obtain ⟨f1, -, -⟩ := c_fe_ok hP hS hroom
  unfold c_LN
  rw [c_newe_1 _ _ (by decide) (by decide) (by decide), c_newe_2]
  constructor
  · rintro ⟨a, b⟩
    rw [if_neg (by omega)] at b
    exact ⟨a, b⟩
  · rintro ⟨a, b⟩
    rw [if_neg (by omega)]
    exact ⟨a, b⟩
/-- the reference's new entry -/
def d_newe (r : vl_M) (o n : Int) (q : pR) : vl_M := vl_up (vl_up (vl_up (vl_up (vl_up (vl_up r 24 o n) 25 (4 * o) q.1) 25 (4 * o + 1) q.2.1) 25 (4 * o + 2) q.2.2.1) 25 (4 * o + 3) q.2.2.2) 23 5 (r 23 5 + 1)
theorem d_newe_h (r : vl_M) (o n : Int) (q : pR) {h : Nat} (h1 : h ≠ 23) (h2 : h ≠ 24) (h3 : h ≠ 25) : d_newe r o n q h = r h := by
  unfold d_newe
  rw [up_h _ _ _ h1, up_h _ _ _ h3, up_h _ _ _ h3, up_h _ _ _ h3, up_h _ _ _ h3, up_h _ _ _ h2]
theorem d_newe_23 (r : vl_M) (o n : Int) (q : pR) {j : Int} (hj : j ≠ 5) : d_newe r o n q 23 j = r 23 j := by
  unfold d_newe
  rw [up_i _ _ hj, up_h _ _ _ (by decide), up_h _ _ _ (by decide), up_h _ _ _ (by decide), up_h _ _ _ (by decide), up_h _ _ _ (by decide)]
theorem d_newe_5 (r : vl_M) (o n : Int) (q : pR) : d_newe r o n q 23 5 = r 23 5 + 1 := up_s _ _ _ _
theorem d_newe_24 (r : vl_M) (o n : Int) (q : pR) (u : Int) : d_newe r o n q 24 u = if u = o then n else r 24 u := by
  unfold d_newe
  rw [up_h _ _ _ (by decide), up_h _ _ _ (by decide), up_h _ _ _ (by decide), up_h _ _ _ (by decide), up_h _ _ _ (by decide)]
  by_cases c : u = o
  · rw [c, up_s, if_pos rfl]
  · rw [up_i _ _ c, if_neg c]
theorem d_newe_rs (r : vl_M) (o n : Int) (q : pR) : d_rt (d_newe r o n q) (-1) o = q := by
  unfold d_rt d_newe
  rw [if_pos (by decide), up_h _ _ _ (by decide)]
  rw [up_i _ _ (show 4 * o ≠ 4 * o + 3 by omega), up_i _ _ (show 4 * o ≠ 4 * o + 2 by omega), up_i _ _ (show 4 * o ≠ 4 * o + 1 by omega), up_s,
    up_i _ _ (show 4 * o + 1 ≠ 4 * o + 3 by omega), up_i _ _ (show 4 * o + 1 ≠ 4 * o + 2 by omega), up_s,
    up_i _ _ (show 4 * o + 2 ≠ 4 * o + 3 by omega), up_s, up_s]
theorem d_newe_rn (r : vl_M) (o n : Int) (q : pR) {l t : Int} (h : 0 ≤ l ∨ t ≠ o) : d_rt (d_newe r o n q) l t = d_rt r l t := by
  unfold d_rt
  by_cases c : l < 0
  · rw [if_pos c, if_pos c]
    have ht : t ≠ o := h.resolve_left (by omega)
    have key : ∀ j, (∀ k, 0 ≤ k → k < 4 → j ≠ 4 * o + k) → d_newe r o n q 25 j = r 25 j := fun j hj => by
      unfold d_newe
      rw [up_h _ _ _ (by decide), up_i _ _ (hj 3 (by decide) (by decide)), up_i _ _ (hj 2 (by decide) (by decide)), up_i _ _ (hj 1 (by decide) (by decide)), up_i _ _ (by have := hj 0 (by decide) (by decide); omega), up_h _ _ _ (by decide)]
    rw [key _ (fun k k1 k2 => by omega), key _ (fun k k1 k2 => by omega), key _ (fun k k1 k2 => by omega), key _ (fun k k1 k2 => by omega)]
  · rw [if_neg c, if_neg c, d_newe_h _ _ _ _ (by decide) (by decide) (by decide)]
/-- both have the new entry, outside the tree -/
theorem q_newE {w : Nat} {m r : vl_M} {φ : Int → Int} {X : Int → Prop} {ψ : Int → Int} {a k o : Int} (hψ1 : ψ (c_fe m) = o) (hψ2 : ∀ u, u ≠ c_fe m → ψ u = φ u) (h : q_I w m r φ X a) (hn : 0 ≤ m 7 k ∧ m 7 k ≤ 999) (hq : r_ok (c_rt m k)) (hroom : m 1 14 = -1 → m 1 13 < 400) (ho : 0 ≤ o ∧ o < 400) (hof : r 24 o = -2) :
    q_I w (c_newe m k) (d_newe r o (m 7 k) (c_rt m k)) ψ (fun x => X x ∨ x = c_fe m) a := by
  obtain ⟨⟨hP, hK, hA, hR⟩, ⟨hE, hS⟩, hT, ⟨hsn, hsi, hso, hse⟩, hrr⟩ := h
  obtain ⟨f1, f2, f3⟩ := c_fe_ok hP hS hroom
  have LN := fun u => c_newe_LN (k := k) hP hS hroom u
  have LE := fun u => c_newe_LE (k := k) hP hS hroom u
  have hfN : ¬ c_LN m (c_fe m) := fun z => by have := z.1; omega
  have LT : ∀ u, c_LT (c_newe m k) u ↔ (c_LT m u ∨ u = c_fe m) := fun u => by
    unfold c_LT
    rw [LE, LN]
    constructor
    · rintro ((x | x) | x)
      · exact Or.inl (Or.inl x)
      · exact Or.inr x
      · exact Or.inl (Or.inr x)
    · rintro ((x | x) | x)
      · exact Or.inl (Or.inl x)
      · exact Or.inr x
      · exact Or.inl (Or.inr x)
  have ne : ∀ u, c_LT m u → u ≠ c_fe m := fun u hu z => by
    rw [z] at hu
    rcases hu with hu | hu
    · exact f2 hu
    · exact hfN hu
  have neN : ∀ u, c_LN m u → u ≠ c_fe m := fun u hu => ne u (Or.inr hu)
  have hroot : m 11 6 ≠ c_fe m := neN _ hR.1.1
  have e8 : c_newe m k 8 = m 8 := c_newe_h _ _ (by decide)
  have e9 : c_newe m k 9 = m 9 := c_newe_h _ _ (by decide)
  have e11 : c_newe m k 11 = m 11 := c_newe_h _ _ (by decide)
  have ek : ∀ u i, c_k w (c_newe m k) u i = c_k w m u i := fun u i => by unfold c_k; rw [c_newe_h _ _ (by decide)]
  have e2 : ∀ u, u ≠ c_fe m → c_newe m k 2 u = m 2 u := fun u hu => by rw [c_newe_2, if_neg hu]
  have ert : ∀ u, u ≠ c_fe m → c_rt (c_newe m k) u = c_rt m u := fun u hu => by rw [c_newe_rt, if_neg hu]
  have oNo : ∀ e, c_LE m e → φ e ≠ o := fun e he z => by
    have := (hse e he).2.1
    rw [z, hof] at this
    have := (hE e he).1
    omega
  refine ⟨⟨?_, ?_, ?_, ?_⟩, ⟨?_, ?_⟩, ?_, ⟨?_, ?_, ?_, ?_⟩, ?_⟩
  · obtain ⟨p0, p1, p2, p3, p4⟩ := hP
    unfold s_P
    rw [c_newe_1 _ _ (by decide) (by decide) (by decide), c_newe_1 _ _ (by decide) (by decide) (by decide), c_newe_1 _ _ (by decide) (by decide) (by decide), c_newe_1 _ _ (by decide) (by decide) (by decide), c_newe_13]
    refine ⟨p0, p1, p2, p3, ?_⟩
    by_cases c : m 1 14 = -1
    · rw [if_pos c]; have := hroom c; omega
    · rw [if_neg c]; exact p4
  · intro s hs
    have hs' := (LN s).mp hs
    rw [e2 s (neN s hs'), e9, e8, e11]
    obtain ⟨k1, k2⟩ := hK s hs'
    refine ⟨k1, fun i i1 i2 => ?_⟩
    obtain ⟨⟨a1, a2⟩, ⟨a3, a4, a5⟩, a6⟩ := k2 i i1 i2
    have := ne _ a1
    rw [ek, e2 _ this]
    refine ⟨⟨(LT _).mpr (Or.inl a1), a2⟩, ⟨a3, fun z => z.elim a4 this, a5⟩, fun j j1 j2 e => ?_⟩
    rw [ek] at e
    exact a6 j j1 j2 e
  · intro c hc h1 h2
    rw [e11] at h1
    have hcf : c ≠ c_fe m := fun z => h2 (Or.inr z)
    have hc' : c_LT m c := ((LT c).mp hc).resolve_right hcf
    obtain ⟨a1, i, a2, a3, a4⟩ := hA c hc' h1 (fun z => h2 (Or.inl z))
    rw [e8, e9]
    exact ⟨(LN _).mpr a1, i, a2, a3, by rw [ek]; exact a4⟩
  · obtain ⟨⟨a1, a2⟩, a3, a4⟩ := hR
    unfold s_R
    rw [e11, e8]
    refine ⟨⟨(LN _).mpr a1, a2⟩, fun z => z.elim a3 hroot, fun c hc => ?_⟩
    rw [LT]
    exact hc.imp (a4 c) id
  · intro e he
    rw [c_newe_7, c_newe_rt]
    by_cases c : e = c_fe m
    · rw [if_pos c, if_pos c]; exact ⟨hn, hq⟩
    · rw [if_neg c, if_neg c]
      exact hE e (((LE e).mp he).resolve_right c)
  · obtain ⟨⟨L, l1, l2, l3⟩, L', l4, l5, l6⟩ := hS
    have hp := hP.2.2.2.2
    refine ⟨⟨L, ?_, l2, ?_⟩, ?_⟩
    · rw [c_newe_1 _ _ (by decide) (by decide) (by decide)]
      exact c_ch_congr L _ (fun b hb => by rw [e8]) l1
    · intro s
      rw [l3 s, c_newe_1 _ _ (by decide) (by decide) (by decide)]
      constructor
      · intro z; rw [e2 s (by omega)]; exact z
      · intro z; rw [e2 s (by omega)] at z; exact z
    · rw [c_newe_13, c_newe_14]
      by_cases h16 : m 1 14 = -1
      · rw [if_pos h16, if_pos h16]
        have hfn : c_fe m = m 1 13 := by unfold c_fe; rw [if_pos h16]
        have hL : L' = [] := by
          cases L' with
          | nil => rfl
          | cons x t =>
            have e : m 1 14 = x := l4.1
            have := (l6 x).mp List.mem_cons_self
            omega
        subst hL
        refine ⟨[], rfl, List.nodup_nil, fun s => ⟨fun z => (by cases z), fun z => ?_⟩⟩
        by_cases c : s = m 1 13
        · rw [c_newe_2, hfn, if_pos c] at z; exact absurd rfl z.2
        · rw [e2 s (by rw [hfn]; exact c)] at z
          exact (l6 s).mpr ⟨by omega, z.2⟩
      · rw [if_neg h16, if_neg h16]
        have hfn : c_fe m = m 1 14 := by unfold c_fe; rw [if_neg h16]
        cases L' with
        | nil => exact absurd l4 h16
        | cons x t =>
          have e : m 1 14 = x := l4.1
          obtain ⟨n1, n2⟩ := List.nodup_cons.mp l5
          refine ⟨t, ?_, n2, fun s => ?_⟩
          · refine c_ch_congr t _ (fun b hb => by rw [e8]) (by rw [e]; exact l4.2)
          · by_cases c : s = m 1 14
            · rw [c_newe_2, hfn, if_pos c]
              refine ⟨fun z => absurd (by rw [← e, ← c]; exact z) n1, fun z => absurd rfl z.2⟩
            · rw [e2 s (by rw [hfn]; exact c)]
              constructor
              · intro z; exact (l6 s).mp (List.mem_cons_of_mem _ z)
              · intro z
                rcases List.mem_cons.mp ((l6 s).mpr z) with y | y
                · exact absurd (by rw [y, e]) c
                · exact y
  · intro s hs hsa h0
    have hs' := (LN s).mp hs
    rw [e9] at h0 ⊢
    obtain ⟨⟨t1, t2⟩, t3⟩ := hT s hs' hsa h0
    rw [ert s (neN s hs'), hψ2 s (neN s hs'), d_newe_rn _ _ _ _ (Or.inl (by decide))]
    refine ⟨⟨t1, t2⟩, r_is_congr (fun p => ?_) t3⟩
    constructor
    · rintro ⟨i, i1, i2, e⟩
      exact ⟨i, i1, i2, by rw [ek, ert _ (ne _ ((hK s hs').2 i i1 i2).1.1)]; exact e⟩
    · rintro ⟨i, i1, i2, e⟩
      rw [ek, ert _ (ne _ ((hK s hs').2 i i1 i2).1.1)] at e
      exact ⟨i, i1, i2, e⟩
  · intro s hs
    have hs' := (LN s).mp hs
    obtain ⟨⟨b1, b2, b3⟩, b4, b5, b6⟩ := hsn s hs'
    rw [hψ2 s (neN s hs'), d_newe_h _ _ _ _ (by decide) (by decide) (by decide), d_newe_h _ _ _ _ (by decide) (by decide) (by decide), d_newe_h _ _ _ _ (by decide) (by decide) (by decide), e2 s (neN s hs'), e9, e8, e11]
    refine ⟨⟨b1, b2, b3⟩, fun i i1 i2 => ?_, fun x y => ?_, b6⟩
    · rw [d_k_congr (d_newe_h _ _ _ _ (by decide) (by decide) (by decide)), ek, hψ2 _ (ne _ ((hK s hs').2 i i1 i2).1.1)]
      exact b4 i i1 i2
    · have hx : ¬ X s := fun z => y (Or.inl z)
      rw [b5 x hx, hψ2 _ (neN _ (hA s (Or.inr hs') x hx).1)]
  · refine ⟨fun s t hs ht e => ?_, fun e e' he he' q => ?_⟩
    · have hs' := (LN s).mp hs
      have ht' := (LN t).mp ht
      rw [hψ2 s (neN s hs'), hψ2 t (neN t ht')] at e
      exact hsi.1 s t hs' ht' e
    · rcases (LE e).mp he with x | x
      · rcases (LE e').mp he' with y | y
        · rw [hψ2 e (ne e (Or.inl x)), hψ2 e' (ne e' (Or.inl y))] at q
          exact hsi.2 e e' x y q
        · rw [hψ2 e (ne e (Or.inl x)), y, hψ1] at q
          exact absurd q (oNo e x)
      · rcases (LE e').mp he' with y | y
        · rw [hψ2 e' (ne e' (Or.inl y)), x, hψ1] at q
          exact absurd q.symm (oNo e' y)
        · rw [x, y]
  · constructor
    · intro n hn
      rw [d_newe_h _ _ _ _ (by decide) (by decide) (by decide)]
      rcases hso.1 n hn with ⟨z, s, hs, e⟩ | z
      · exact Or.inl ⟨z, s, (LN s).mpr hs, by rw [hψ2 s (neN s hs)]; exact e⟩
      · exact Or.inr z
    · intro n n1 n2
      rw [d_newe_24]
      by_cases c : n = o
      · rw [if_pos c]
        exact Or.inl ⟨hn.1, c_fe m, (LE _).mpr (Or.inr rfl), by rw [hψ1, c]⟩
      · rw [if_neg c]
        rcases hso.2 n n1 n2 with ⟨z, e, he, q⟩ | z
        · exact Or.inl ⟨z, e, (LE e).mpr (Or.inl he), by rw [hψ2 e (ne e (Or.inl he))]; exact q⟩
        · exact Or.inr z
  · intro e he
    by_cases c : e = c_fe m
    · rw [c, hψ1, c_newe_7, if_pos rfl, c_newe_rt, if_pos rfl, d_newe_24, if_pos rfl, d_newe_rs]
      exact ⟨ho, rfl, rfl⟩
    · have he' := ((LE e).mp he).resolve_right c
      obtain ⟨b1, b2, b3⟩ := hse e he'
      have hne : φ e ≠ o := oNo e he'
      rw [hψ2 e c, c_newe_7, if_neg c, c_newe_rt, if_neg c, d_newe_24, if_neg hne, d_newe_rn _ _ _ _ (Or.inr hne)]
      exact ⟨b1, b2, b3⟩
  · obtain ⟨g1, ⟨g2, g3⟩, g4, g5, g6⟩ := hrr
    unfold q_rr
    rw [d_newe_5, d_newe_23 _ _ _ _ (by decide), d_newe_23 _ _ _ _ (by decide), d_newe_23 _ _ _ _ (by decide), d_newe_23 _ _ _ _ (by decide), d_newe_23 _ _ _ _ (by decide), e11, hψ2 _ hroot, c_newe_1 _ _ (by decide) (by decide) (by decide), c_newe_1 _ _ (by decide) (by decide) (by decide), c_newe_12, g4]
    exact ⟨g1, ⟨g2, g3⟩, rfl, g5, g6⟩
