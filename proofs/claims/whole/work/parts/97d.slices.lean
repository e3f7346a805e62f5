/-! ===== PURE, 61: the slices ===== -/
theorem s_B_of {L : Int → Int} {n lo hi : Int} {P : Int → Prop} (hlo : 0 ≤ lo) (hhi : hi ≤ n) (h : s_B L 0 n P) : s_B L lo hi (fun z => ∃ i, lo ≤ i ∧ i < hi ∧ L i = z) := ⟨fun _ => Iff.rfl, fun i j i1 i2 j1 j2 e => h.2 i j (by omega) (by omega) (by omega) (by omega) e⟩
theorem s_B_in {L L' : Int → Int} {n lo hi : Int} {P : Int → Prop} (hlo : 0 ≤ lo) (hhi : hi ≤ n) (h : s_B L 0 n P) (ho : ∀ k, (k < lo ∨ hi ≤ k) → L' k = L k) (h' : s_B L' lo hi (fun z => ∃ i, lo ≤ i ∧ i < hi ∧ L i = z)) : s_B L' 0 n P := by
  refine ⟨fun z => ?_, fun i j i1 i2 j1 j2 e => ?_⟩
  · rw [h.1]
    constructor
    · rintro ⟨i, i1, i2, e⟩
      by_cases c : lo ≤ i ∧ i < hi
      · obtain ⟨k, k1, k2, k3⟩ := (h'.1 z).mp ⟨i, c.1, c.2, e⟩
        exact ⟨k, by omega, by omega, k3⟩
      · exact ⟨i, i1, i2, by rw [ho i (by omega)]; exact e⟩
    · rintro ⟨i, i1, i2, e⟩
      by_cases c : lo ≤ i ∧ i < hi
      · obtain ⟨k, k1, k2, k3⟩ := (h'.1 z).mpr ⟨i, c.1, c.2, e⟩
        exact ⟨k, by omega, by omega, k3⟩
      · exact ⟨i, i1, i2, by rw [← ho i (by omega)]; exact e⟩
  · by_cases c : lo ≤ i ∧ i < hi
    · by_cases d : lo ≤ j ∧ j < hi
      · exact h'.2 i j c.1 c.2 d.1 d.2 e
      · obtain ⟨k, k1, k2, k3⟩ := (h'.1 (L' i)).mpr ⟨i, c.1, c.2, rfl⟩
        rw [e, ho j (by omega)] at k3
        have := h.2 k j (by omega) (by omega) j1 j2 k3
        omega
    · by_cases d : lo ≤ j ∧ j < hi
      · obtain ⟨k, k1, k2, k3⟩ := (h'.1 (L' j)).mpr ⟨j, d.1, d.2, rfl⟩
        rw [← e, ho i (by omega)] at k3
        have := h.2 k i (by omega) (by omega) i1 i2 k3
        omega
      · rw [ho i (by omega), ho j (by omega)] at e
        exact h.2 i j i1 i2 j1 j2 e
/-- nothing to sort -/
theorem c_sort0 {w N : Nat} {m : vl_M} {f lo hi : Int} (hN : 100000 ≤ N) (hP : s_P w m) (hE : s_E m) (hf : vl_r32 f) (hlo : 0 ≤ lo ∧ lo ≤ 100000) (hhi : 0 ≤ hi ∧ hi ≤ 400) (h : hi ≤ lo) : fn_X1_sort N m lo hi f = some m := by
  obtain ⟨mm', a1, a2, ⟨a3, a4⟩, a5⟩ := c_s13 (P := fun _ => False) (m := m) hN hP hE (fun z y => y.elim) hf hlo hhi 5 N 0 m (by omega) (by omega) (by omega) (fun _ _ => rfl) ⟨fun z => ⟨fun y => y.elim, fun ⟨i, i1, i2, _⟩ => by omega⟩, fun i j i1 i2 => by omega⟩ (fun e => by omega)
  have e : mm' = m := by
    funext k
    by_cases c : k = 17
    · subst c
      funext j
      exact a3 j (by omega)
    · exact a2 k c
  unfold fn_X1_sort
  rw [a1, e]
theorem c_idle {w N : Nat} {m : vl_M} {s E : Int} {κ : Int → vl_M → Option vl_M} (hN : 100000 ≤ N) (hP : s_P w m) (hE : s_E m) (h3 : 0 ≤ m 16 3 ∧ m 16 3 ≤ 400) (hs : 1 ≤ s ∧ s ≤ 21) (hE1 : 1 ≤ E ∧ E ≤ 300) : ∀ (n fu : Nat) (i F : Int), 0 ≤ i → i + (n : Int) = s → F = i * E → n < fu → m 16 3 ≤ F → F ≤ 300 * i → fn_X1_sortSlices_L47 N s E κ fu i m = κ s m := by
  intro n
  induction n with
  | zero =>
    intro fu i F h0 h1 h2 h4 h5 h6
    obtain ⟨fu, rfl⟩ : ∃ x, fu = x + 1 := ⟨fu - 1, by omega⟩
    rw [fn_X1_sortSlices_L47, pu_gd ⟨by omega, by omega⟩, pu_gd ⟨by omega, by omega⟩, if_neg (by omega), show i = s by omega]
  | succ n ih =>
    intro fu i F h0 h1 h2 h4 h5 h6
    obtain ⟨fu, rfl⟩ : ∃ x, fu = x + 1 := ⟨fu - 1, by omega⟩
    have e1 : (i + 1) * E = F + E := by rw [Int.add_mul, Int.one_mul, h2]
    have e2 := ih fu (i + 1) (F + E) (by omega) (by omega) e1.symm (by omega) (by omega) (by omega)
    have hmin : min (m 16 3) (F + E) = m 16 3 := by omega
    rw [fn_X1_sortSlices_L47, pu_gd ⟨by omega, by omega⟩, pu_gd ⟨by omega, by omega⟩, if_pos (by omega), pu_gd ⟨by omega, by omega⟩, e1, pu_gd ⟨by omega, by omega⟩, ← h2, hmin, c_sort0 hN hP hE (by decide) ⟨by omega, by omega⟩ h3 h5, Option.bind_some, pu_lt, e2]
theorem q_cut {w N : Nat} {m r : vl_M} {φ : Int → Int} {s E len : Int} (hN : 100000 ≤ N) (hP : s_P w m) (hE : s_E m) (hse : q_se m r φ) (hD : q_D m) (h3 : m 16 3 = len) (hlen : 0 ≤ len ∧ len ≤ 400) (hs : 1 ≤ s ∧ s ≤ 21) (hE1 : 1 ≤ E ∧ E ≤ 300) (hEr : s * r 23 1 = E) (hend : len ≤ s * E) : ∀ (n fu fu' : Nat) (i F : Int) (mm rr : vl_M), 0 ≤ i → i + (n : Int) = s → F = i * E → n < fu → n < fu' → 0 ≤ F → F ≤ 300 * i → (∀ h : Nat, h ≠ 17 → mm h = m h) → (∀ h : Nat, h ≠ 45 → rr h = r h) → s_B (mm 17) 0 len (c_LE m) → (∀ k, 0 ≤ k → k < len → rr 45 k = φ (mm 17 k)) →
    ∃ z mm' rr', (∀ κ : Int → vl_M → Option vl_M, fn_X1_sortSlices_L47 N s E κ fu i mm = κ s mm') ∧ (∀ κ' : Int → vl_M → Option (Int × vl_M), fn_X8_pack_L118 N len s κ' fu' F rr = κ' z rr') ∧ (∀ h : Nat, h ≠ 17 → mm' h = m h) ∧ (∀ h : Nat, h ≠ 45 → rr' h = r h) ∧ s_B (mm' 17) 0 len (c_LE m) ∧ ∀ k, 0 ≤ k → k < len → rr' 45 k = φ (mm' 17 k) := by
  intro n
  induction n with
  | zero =>
    intro fu fu' i F mm rr h0 h1 h2 h4 h4' hF0 hF1 hm hr hB hG
    obtain ⟨fu, rfl⟩ : ∃ x, fu = x + 1 := ⟨fu - 1, by omega⟩
    obtain ⟨fu', rfl⟩ : ∃ x, fu' = x + 1 := ⟨fu' - 1, by omega⟩
    have ei : i = s := by omega
    refine ⟨F, mm, rr, fun κ => ?_, fun κ' => ?_, hm, hr, hB, hG⟩
    · rw [fn_X1_sortSlices_L47, pu_gd ⟨by omega, by omega⟩, pu_gd ⟨by omega, by omega⟩, if_neg (by omega), ei]
    · rw [ei] at h2
      rw [fn_X8_pack_L118, pu_gd ⟨by omega, by omega⟩, if_neg (by omega)]
  | succ n ih =>
    intro fu fu' i F mm rr h0 h1 h2 h4 h4' hF0 hF1 hm hr hB hG
    by_cases c : F < len
    · obtain ⟨fu, rfl⟩ : ∃ x, fu = x + 1 := ⟨fu - 1, by omega⟩
      obtain ⟨fu', rfl⟩ : ∃ x, fu' = x + 1 := ⟨fu' - 1, by omega⟩
      have e1 : (i + 1) * E = F + E := by rw [Int.add_mul, Int.one_mul, h2]
      generalize hhi : min len (F + E) = hi
      have b1 : F ≤ hi := by omega
      have b2 : hi ≤ len := by omega
      obtain ⟨m1, r1, g1, g2, g3, g4, g5, g6, g7⟩ := q_sort (f := 1) (lo := F) (hi := hi) (mm := mm) (rr := rr) (G := mm 17) (P := fun z => ∃ i, F ≤ i ∧ i < hi ∧ mm 17 i = z) hN hP hE hse hD (by decide) ⟨hF0, b1⟩ (by omega) hm hr (fun z ⟨k, k1, k2, k3⟩ => (hB.1 z).mpr ⟨k, by omega, by omega, k3⟩) (s_B_of hF0 b2 hB) (s_B_of hF0 b2 hB) (fun k k1 k2 => hG k (by omega) (by omega))
      obtain ⟨z, m2, r2, s1, s2, s3⟩ := ih fu fu' (i + 1) (F + E) m1 r1 (by omega) (by omega) e1.symm (by omega) (by omega) (by omega) (by omega) g3 g4 (s_B_in hF0 b2 hB (fun k hk => (g5 k hk).1) g7) (fun k k1 k2 => by
        by_cases d : F ≤ k ∧ k < hi
        · exact g6 k d.1 d.2
        · obtain ⟨y1, y2⟩ := g5 k (by omega)
          rw [y1, y2]; exact hG k k1 k2)
      have em : mm 16 = m 16 := hm 16 (by decide)
      have er : rr 23 = r 23 := hr 23 (by decide)
      have er1 : r1 23 = r 23 := g4 23 (by decide)
      refine ⟨z, m2, r2, fun κ => ?_, fun κ' => ?_, s3⟩
      · rw [fn_X1_sortSlices_L47, pu_gd ⟨by omega, by omega⟩, pu_gd ⟨by omega, by omega⟩, if_pos (by omega), em, h3, pu_gd ⟨by omega, by omega⟩, e1, pu_gd ⟨by omega, by omega⟩, ← h2, hhi, g1, Option.bind_some, pu_lt, s1]
      · rw [fn_X8_pack_L118, pu_gd ⟨by omega, by omega⟩, if_pos c, er, hEr, d_lesser ⟨by omega, by omega⟩ ⟨by omega, by omega⟩, Option.bind_some, hhi, g2, Option.bind_some, er1, hEr, pu_lt, s2]
    · obtain ⟨fu', rfl⟩ : ∃ x, fu' = x + 1 := ⟨fu' - 1, by omega⟩
      have em : mm 16 = m 16 := hm 16 (by decide)
      have e1 : mm 1 = m 1 := hm 1 (by decide)
      refine ⟨F, mm, rr, fun κ => ?_, fun κ' => ?_, hm, hr, hB, hG⟩
      · refine c_idle (w := w) hN ?_ ?_ (by rw [em, h3]; exact hlen) hs hE1 (n + 1) fu i F h0 h1 h2 h4 (by rw [em, h3]; omega) hF1
        · unfold s_P; rw [e1]; exact hP
        · intro e he
          have he' : c_LE m e := by unfold c_LE at he ⊢; rw [e1, hm 2 (by decide)] at he; exact he
          obtain ⟨y1, y2⟩ := hE e he'
          rw [hm 7 (by decide)]
          refine ⟨y1, ?_⟩
          rw [c_rt_congr (hm 3 (by decide)) (hm 4 (by decide)) (hm 5 (by decide)) (hm 6 (by decide))]
          exact y2
      · rw [fn_X8_pack_L118, pu_gd ⟨by omega, by omega⟩, if_neg c]
/-! ===== PURE, 62: where the groups begin ===== -/
def p_st (M L len G k : Int) : Int := if k = G then len else if 0 < k ∧ k = G - 1 then min (k * M) (len - L) else k * M
theorem p_G {M len G : Int} (hM : 4 ≤ M ∧ M ≤ 10) (hl : 1 ≤ len ∧ len ≤ 400) (hG : (len + M - 1) / M = G) : (1 ≤ G ∧ G ≤ 100) ∧ (G = 1 ↔ len ≤ M) ∧ len ≤ G * M ∧ (∀ K, 1 ≤ K → len ≤ 2 * K → G ≤ K) := by
  obtain ⟨h1, h2⟩ := hM
  have : M = 4 ∨ M = 5 ∨ M = 6 ∨ M = 7 ∨ M = 8 ∨ M = 9 ∨ M = 10 := by omega
  rcases this with e | e | e | e | e | e | e <;> subst e <;> refine ⟨⟨by omega, by omega⟩, by omega, by omega, fun K k1 k2 => by omega⟩
theorem p_step {M L len G g : Int} (hM : 4 ≤ M ∧ M ≤ 10) (hL : 2 ≤ L ∧ 2 * L ≤ M) (hl : 1 ≤ len ∧ len ≤ 400) (hG : (len + M - 1) / M = G) (hg : 0 ≤ g ∧ g < G) : (g ≤ p_st M L len G g ∧ p_st M L len G g < len) ∧ (g + 1 ≤ p_st M L len G (g + 1) ∧ p_st M L len G (g + 1) ≤ len) ∧ (1 ≤ p_st M L len G (g + 1) - p_st M L len G g ∧ p_st M L len G (g + 1) - p_st M L len G g ≤ M) ∧ (1 < G → L ≤ p_st M L len G (g + 1) - p_st M L len G g) ∧
    (if M < len - p_st M L len G g then (if len - p_st M L len G g - M < L then (if 0 < len - p_st M L len G g - M then len - p_st M L len G g - L else M) else M) else len - p_st M L len G g) = p_st M L len G (g + 1) - p_st M L len G g := by
  obtain ⟨h1, h2⟩ := hM
  have hs : ∀ k, p_st M L len G k = if k = G then len else if 0 < k ∧ k = G - 1 then min (k * M) (len - L) else k * M := fun _ => rfl
  have e0 := hs g
  have e1 := hs (g + 1)
  generalize p_st M L len G g = a at e0 ⊢
  generalize p_st M L len G (g + 1) = b at e1 ⊢
  have hM : M = 4 ∨ M = 5 ∨ M = 6 ∨ M = 7 ∨ M = 8 ∨ M = 9 ∨ M = 10 := by omega
  rw [if_neg (show ¬ g = G by omega)] at e0
  by_cases c : g + 1 = G
  · rw [if_pos c] at e1
    by_cases d : 0 < g
    · rw [if_pos ⟨d, by omega⟩] at e0
      rcases hM with e | e | e | e | e | e | e <;> subst e <;> (refine ⟨⟨by omega, by omega⟩, ⟨by omega, by omega⟩, ⟨by omega, by omega⟩, fun z => by omega, ?_⟩; rw [if_neg (by omega)]; omega)
    · rw [if_neg (fun z => d z.1)] at e0
      have g0 : g = 0 := by omega
      subst g0
      rw [Int.zero_mul] at e0
      rcases hM with e | e | e | e | e | e | e <;> subst e <;> (refine ⟨⟨by omega, by omega⟩, ⟨by omega, by omega⟩, ⟨by omega, by omega⟩, fun z => by omega, ?_⟩; rw [if_neg (by omega)]; omega)
  · rw [if_neg c] at e1
    rw [if_neg (show ¬ (0 < g ∧ g = G - 1) by omega)] at e0
    by_cases d : g + 1 = G - 1
    · rw [if_pos ⟨by omega, d⟩] at e1
      rcases hM with e | e | e | e | e | e | e <;> subst e <;> (refine ⟨⟨by omega, by omega⟩, ⟨by omega, by omega⟩, ⟨by omega, by omega⟩, fun z => by omega, ?_⟩; rw [if_pos (by omega)]; (repeat' split) <;> omega)
    · rw [if_neg (fun z => d z.2)] at e1
      rcases hM with e | e | e | e | e | e | e <;> subst e <;> (refine ⟨⟨by omega, by omega⟩, ⟨by omega, by omega⟩, ⟨by omega, by omega⟩, fun z => by omega, ?_⟩; rw [if_pos (by omega)]; (repeat' split) <;> omega)
theorem p_start {m : vl_M} {g G len : Int} (hG : 0 ≤ G ∧ G ≤ 100) (hg : 0 ≤ g ∧ g ≤ G) (hM : 4 ≤ m 1 0 ∧ m 1 0 ≤ 10) (hL : 2 ≤ m 1 1 ∧ 2 * m 1 1 ≤ m 1 0) (hl : 0 ≤ len ∧ len ≤ 400) (h3 : m 16 3 = len) : fn_X1_startOf m g G = some (p_st (m 1 0) (m 1 1) len G g) := by
  have hb : 0 ≤ g * m 1 0 ∧ g * m 1 0 ≤ 1000 := ⟨Int.mul_nonneg (by omega) (by omega), by have := Int.mul_le_mul (show g ≤ 100 by omega) (show m 1 0 ≤ 10 by omega) (by omega) (by omega); omega⟩
  unfold fn_X1_startOf p_st
  rw [pu_gd ⟨by omega, by omega⟩, pu_gd ⟨by omega, by omega⟩, h3]
  by_cases c : g = G
  · rw [if_pos c, if_pos c]
  · rw [if_neg c, if_neg c, pu_lt, pu_jn]
    by_cases d : 0 < g
    · rw [if_pos d, pu_gd ⟨by omega, by omega⟩]
      by_cases e : g = G - 1
      · rw [if_pos e, if_pos ⟨d, e⟩]
        dsimp only
        rw [pu_gd (by decide), if_neg (by decide), pu_gd ⟨by omega, by omega⟩, pu_gd ⟨by omega, by omega⟩]
      · rw [if_neg e, if_neg (fun z => e z.2)]
        dsimp only
        rw [pu_gd (by decide), if_pos rfl]
    · rw [if_neg d, if_neg (fun z => d z.1)]
      dsimp only
      rw [pu_gd (by decide), if_pos rfl]
