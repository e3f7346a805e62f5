/-! ===== PURE, 9: the seeds; the share as a whole ===== -/
/-- the numbers below n -/
def pu_rng (n : Nat) : List Int := (List.range n).map (fun (i : Nat) => (i : Int))
theorem pu_rng_len (n : Nat) : (pu_rng n).length = n := by simp [pu_rng]
theorem pu_rng_get {n i : Nat} {x : Int} (h : (pu_rng n)[i]? = some x) : x = (i : Int) ∧ i < n := by
  unfold pu_rng at h
  rw [List.getElem?_map] at h
  by_cases c : i < n
  · rw [List.getElem?_range c] at h
    simp at h
    exact ⟨h.symm, c⟩
  · have : (List.range n)[i]? = none := List.getElem?_eq_none (by simp; omega)
    rw [this] at h
    simp at h
theorem pu_rng_get' {n i : Nat} (h : i < n) : (pu_rng n)[i]? = some (i : Int) := by
  unfold pu_rng
  rw [List.getElem?_map, List.getElem?_range h]
  rfl
theorem pu_rng_mem {n : Nat} {x : Int} : x ∈ pu_rng n ↔ 0 ≤ x ∧ x < (n : Int) := by
  unfold pu_rng
  rw [List.mem_map]
  constructor
  · rintro ⟨i, h1, rfl⟩
    rw [List.mem_range] at h1
    omega
  · intro h
    exact ⟨x.toNat, by rw [List.mem_range]; omega, by omega⟩
theorem pu_nodup_map {f : Nat → Int} (hf : ∀ a b, f a = f b → a = b) : ∀ (l : List Nat), l.Nodup → (l.map f).Nodup := by
  intro l
  induction l with
  | nil => intro _; exact List.nodup_nil
  | cons a t ih =>
    intro h
    obtain ⟨h1, h2⟩ := List.nodup_cons.mp h
    rw [List.map_cons, List.nodup_cons]
    refine ⟨fun q => ?_, ih h2⟩
    obtain ⟨b, q1, q2⟩ := List.mem_map.mp q
    exact h1 (by rw [← hf _ _ q2]; exact q1)
theorem pu_rng_nodup (n : Nat) : (pu_rng n).Nodup := pu_nodup_map (fun a b h => by omega) _ List.nodup_range
def c_po (w : Nat) (m : vl_M) (s n v : Int) : vl_M := fun h j => if h = 15 ∧ 0 ≤ j ∧ j < v then c_k w m s j else if h = 14 ∧ j = 2 then n else m h j
theorem c_po_h (w : Nat) (m : vl_M) (s n v : Int) {h : Nat} (h1 : h ≠ 14) (h2 : h ≠ 15) : c_po w m s n v h = m h := by funext j; simp [c_po, h1, h2]
theorem c_poL {w N : Nat} {m : vl_M} {s n : Int} {κ : Int → vl_M → Option vl_M} (hw : c_w w N m) (hs : c_nd s) (hn : 0 ≤ n ∧ n ≤ (w : Int)) : ∀ (fu : Nat) (v : Int), 0 ≤ v → v ≤ n → n - v < (fu : Int) → fn_X3_pourOut_L23 w N s κ fu v (c_po w m s n v) = κ n (c_po w m s n n) := by
  have h11 := hw.2.1
  intro fu
  induction fu with
  | zero => intro v _ _ h; omega
  | succ fu ih =>
    intro v h1 h2 h3
    have e2 : c_po w m s n v 14 2 = n := by simp [c_po]
    rw [fn_X3_pourOut_L23, pu_gd ⟨by omega, by omega⟩, e2, pu_gd ⟨by omega, by omega⟩]
    by_cases c : v < n
    · have hw' : c_w w N (c_po w m s n v) := c_w_of hw (c_po_h _ _ _ _ _ (by decide) (by decide))
      have ek : c_k w (c_po w m s n v) s v = c_k w m s v := by unfold c_k; rw [c_po_h _ _ _ _ _ (by decide) (by decide)]
      rw [if_pos c, c_thing hw' hs ⟨by omega, by omega⟩, Option.bind_some, pu_gd ⟨by omega, by omega⟩, pu_lt, pu_lt, ek]
      have e : vl_up (c_po w m s n v) 15 v (c_k w m s v) = c_po w m s n (v + 1) := by
        funext h j
        unfold vl_up c_po
        by_cases q : h = 15
        · subst q
          simp only [true_and]
          by_cases c1 : j = v
          · subst c1
            rw [if_pos rfl, if_pos (by omega)]
          · rw [if_neg c1]
            by_cases c2 : 0 ≤ j ∧ j < v
            · rw [if_pos c2, if_pos (by omega)]
            · rw [if_neg c2]
              have c3 : ¬ (0 ≤ j ∧ j < v + 1) := by omega
              simp [c3]
        · simp [q]
      rw [e]
      exact ih (v + 1) (by omega) (by omega) (by omega)
    · have e : v = n := by omega
      rw [if_neg c, e]
theorem c_pourOut {w N : Nat} {m : vl_M} {s fr : Int} {n : Nat} {f : Int → pR} (hw : c_w w N m) (hs : c_nd s) (hn : m 9 s = (n : Int)) (hnw : n ≤ w) (hne : s ≠ fr) (hfr : m 9 fr = 0) : ∃ m', fn_X3_pourOut w N m s = some m' ∧ sh_I w m m' s fr (c_k w m s) f [] [] (pu_rng n) := by
  have h11 := hw.2.1
  have hN := hw.2.2.1
  refine ⟨vl_up (c_po w m s (n : Int) (n : Int)) 9 s 0, ?_, ?_⟩
  · unfold fn_X3_pourOut
    rw [pu_gd ⟨by omega, by omega⟩, hn, pu_gd ⟨by omega, by omega⟩, pu_gd ⟨by omega, by omega⟩, pu_lt]
    have e : vl_up m 14 2 (min (n : Int) (w : Int)) = c_po w m s (n : Int) 0 := by
      funext h j
      unfold vl_up c_po
      have c3 : ¬ (h = 15 ∧ 0 ≤ j ∧ j < 0) := by omega
      by_cases q : h = 14 ∧ j = 2
      · rw [if_pos q, if_neg c3, if_pos q]; omega
      · rw [if_neg q, if_neg c3, if_neg q]
    rw [e, c_poL hw hs ⟨by omega, by omega⟩ N 0 (by omega) (by omega) (by omega)]
    rfl
  · have e : ∀ h : Nat, h ≠ 9 → h ≠ 14 → h ≠ 15 → vl_up (c_po w m s (n : Int) (n : Int)) 9 s 0 h = m h := fun h a b c => by rw [up_h _ _ _ a, c_po_h _ _ _ _ _ b c]
    refine ⟨⟨fun h q1 q2 q3 => e h (by omega) q2 q3, ?_, ?_⟩, ⟨⟨up_s _ _ _ _, ?_⟩, fun u u1 u2 => ?_⟩, ⟨⟨fun i x q => by simp at q, fun i x q => by simp at q⟩, fun u i _ _ _ _ => ?_⟩, ⟨⟨fun q => absurd rfl q, fun q => absurd rfl q⟩, fun u _ _ => c_rt_congr (e 3 (by decide) (by decide) (by decide)) (e 4 (by decide) (by decide) (by decide)) (e 5 (by decide) (by decide) (by decide)) (e 6 (by decide) (by decide) (by decide))⟩, ⟨fun x q => by simp at q, fun x q => by simp at q⟩, fun u _ _ => by rw [e 8 (by decide) (by decide) (by decide)]⟩
    · rw [up_h _ _ _ (show (14 : Nat) ≠ 9 by decide), pu_rng_len]
      simp [c_po]
    · intro i x q
      obtain ⟨rfl, h2⟩ := pu_rng_get q
      rw [up_h _ _ _ (show (15 : Nat) ≠ 9 by decide)]
      unfold c_po
      rw [if_pos ⟨rfl, by omega, by omega⟩]
    · rw [up_i _ _ (Ne.symm hne), c_po_h _ _ _ _ _ (by decide) (by decide)]; exact hfr
    · rw [up_i _ _ u1, c_po_h _ _ _ _ _ (by decide) (by decide)]
    · unfold c_k; rw [e 10 (by decide) (by decide) (by decide)]
/-- one pair is looked at -/
def sd_s (f : Int → pR) (i j : Int) (q : Int × Int × Int) : Int × Int × Int := if q.1 < r_gr (f i) (f j) - r_ar (f j) then (r_gr (f i) (f j) - r_ar (f j), i, j) else q
def sd_j (f : Int → pR) (i : Int) : Nat → Int → Int × Int × Int → Int × Int × Int
  | 0, _, q => q
  | k + 1, j, q => sd_j f i k (j + 1) (sd_s f i j q)
def sd_i (f : Int → pR) (n : Int) : Nat → Int → Int × Int × Int → Int × Int × Int
  | 0, _, q => q
  | k + 1, i, q => sd_i f n k (i + 1) (sd_j f i (n - (i + 1)).toNat (i + 1) q)
theorem sd_s_P {f : Int → pR} {P : Int × Int × Int → Prop} {i j : Int} {q : Int × Int × Int} (h : P (r_gr (f i) (f j) - r_ar (f j), i, j)) (hq : P q) : P (sd_s f i j q) := by
  unfold sd_s
  split
  · exact h
  · exact hq
theorem sd_j_P {f : Int → pR} {P : Int × Int × Int → Prop} {i n : Int} (h : ∀ j, i < j → j < n → P (r_gr (f i) (f j) - r_ar (f j), i, j)) : ∀ (k : Nat) (j : Int) (q : Int × Int × Int), i < j → j + (k : Int) ≤ n → P q → P (sd_j f i k j q) := by
  intro k
  induction k with
  | zero => intro j q _ _ hq; exact hq
  | succ k ih => intro j q h1 h2 hq; exact ih (j + 1) _ (by omega) (by omega) (sd_s_P (h j h1 (by omega)) hq)
theorem sd_i_P {f : Int → pR} {P : Int × Int × Int → Prop} {n : Int} (h : ∀ i j, 0 ≤ i → i < j → j < n → P (r_gr (f i) (f j) - r_ar (f j), i, j)) : ∀ (k : Nat) (i : Int) (q : Int × Int × Int), 0 ≤ i → i + (k : Int) ≤ n → P q → P (sd_i f n k i q) := by
  intro k
  induction k with
  | zero => intro i q _ _ hq; exact hq
  | succ k ih => intro i q h1 h2 hq; exact ih (i + 1) _ (by omega) (by omega) (sd_j_P (fun j a b => h i j h1 a b) _ _ _ (by omega) (by omega) hq)
/-- the first pair is always taken -/
theorem sd_i_first {f : Int → pR} {n : Nat} (h2 : 2 ≤ n) {q q' : Int × Int × Int} (h : q.1 < r_gr (f 0) (f 1) - r_ar (f 1)) (h' : q'.1 < r_gr (f 0) (f 1) - r_ar (f 1)) : sd_i f (n : Int) n 0 q = sd_i f (n : Int) n 0 q' := by
  obtain ⟨k, rfl⟩ : ∃ k, n = k + 2 := ⟨n - 2, by omega⟩
  show sd_i f _ (k + 1) (0 + 1) (sd_j f 0 ((((k + 2 : Nat) : Int) - (0 + 1)).toNat) (0 + 1) q) = sd_i f _ (k + 1) (0 + 1) (sd_j f 0 ((((k + 2 : Nat) : Int) - (0 + 1)).toNat) (0 + 1) q')
  have e : ((((k + 2 : Nat) : Int) - (0 + 1)).toNat) = k + 1 := by omega
  rw [e]
  show sd_i f _ (k + 1) (0 + 1) (sd_j f 0 k (0 + 1 + 1) (sd_s f 0 (0 + 1) q)) = sd_i f _ (k + 1) (0 + 1) (sd_j f 0 k (0 + 1 + 1) (sd_s f 0 (0 + 1) q'))
  have e1 : (0 : Int) + 1 = 1 := rfl
  rw [e1]
  unfold sd_s
  rw [if_pos h, if_pos h']
def sd (f : Int → pR) (n : Nat) : Int × Int × Int := sd_i f (n : Int) n 0 (-2147483648, 0, 1)
theorem sd_rg (f : Int → pR) {n : Nat} (h : 2 ≤ n) : 0 ≤ (sd f n).2.1 ∧ (sd f n).2.1 < (sd f n).2.2 ∧ (sd f n).2.2 < (n : Int) :=
  sd_i_P (P := fun q => 0 ≤ q.2.1 ∧ q.2.1 < q.2.2 ∧ q.2.2 < (n : Int)) (fun i j a b c => ⟨a, b, c⟩) n 0 _ (by omega) (by omega) ⟨by decide, by decide, by show (1 : Int) < n; omega⟩
def c_sd (m : vl_M) (q : Int × Int × Int) : vl_M := vl_up (vl_up m 14 3 q.2.1) 14 4 q.2.2
theorem c_sd_h (m : vl_M) (q : Int × Int × Int) {h : Nat} (h1 : h ≠ 14) : c_sd m q h = m h := by unfold c_sd; rw [up_h _ _ _ h1, up_h _ _ _ h1]
theorem c_sd_2 (m : vl_M) (q : Int × Int × Int) : c_sd m q 14 2 = m 14 2 := by unfold c_sd; rw [up_i _ _ (by decide), up_i _ _ (by decide)]
theorem c_sd_3 (m : vl_M) (q : Int × Int × Int) : c_sd m q 14 3 = q.2.1 := by unfold c_sd; rw [up_i _ _ (by decide), up_s]
theorem c_sd_4 (m : vl_M) (q : Int × Int × Int) : c_sd m q 14 4 = q.2.2 := by unfold c_sd; rw [up_s]
theorem c_sd_sd (m : vl_M) (q : Int × Int × Int) (a b : Int) : vl_up (vl_up (c_sd m q) 14 3 a) 14 4 b = c_sd m (q.1, a, b) := by
  funext h j
  unfold c_sd vl_up
  by_cases c1 : h = 14 ∧ j = 4
  · simp [c1]
  · by_cases c2 : h = 14 ∧ j = 3
    · simp [c2]
    · simp [c1, c2]
theorem c_sd_1 (m : vl_M) (q : Int × Int × Int) (g : Int) : c_sd m (g, q.2.1, q.2.2) = c_sd m q := rfl
theorem r_wst {a b : pR} (ha : r_ok a) (hb : r_ok b) : -1073741824 ≤ r_gr a b - r_ar b ∧ r_gr a b - r_ar b ≤ 1073741824 := by
  have := r_gr_le ha hb
  have := r_ar_le hb
  omega
theorem c_sdL17 {w N : Nat} {m : vl_M} {n i : Int} {ts : Int → Int} {f : Int → pR} {κ : Int → Int → vl_M → Option vl_M} (hw : w ≤ 11) (hn : m 14 2 = n) (hnw : n ≤ (w : Int)) (hi : 0 ≤ i ∧ i < n) (ht : ∀ x, 0 ≤ x → x < n → m 15 x = ts x ∧ c_in (ts x) ∧ c_rt m (ts x) = f x ∧ r_ok (f x)) : ∀ (k fu : Nat) (j : Int) (q : Int × Int × Int), i < j → j + (k : Int) = n → k < fu → vl_r32 q.1 → fn_X3_findSeeds_L17 w N i κ fu q.1 j (c_sd m q) = κ (sd_j f i k j q).1 n (c_sd m (sd_j f i k j q)) := by
  intro k
  induction k with
  | zero =>
    intro fu j q h1 h2 h3 h4
    obtain ⟨fu, rfl⟩ : ∃ x, fu = x + 1 := ⟨fu - 1, by omega⟩
    have e : j = n := by omega
    rw [fn_X3_findSeeds_L17, pu_gd ⟨by omega, by omega⟩, c_sd_2, hn, pu_gd ⟨by omega, by omega⟩, if_neg (by omega), e]
    rfl
  | succ k ih =>
    intro fu j q h1 h2 h3 h4
    obtain ⟨fu, rfl⟩ : ∃ x, fu = x + 1 := ⟨fu - 1, by omega⟩
    obtain ⟨a1, a2, a3, a4⟩ := ht i hi.1 hi.2
    obtain ⟨b1, b2, b3, b4⟩ := ht j (by omega) (by omega)
    have er : ∀ u, c_rt (c_sd m q) u = c_rt m u := fun u => c_rt_congr (c_sd_h _ _ (by decide)) (c_sd_h _ _ (by decide)) (c_sd_h _ _ (by decide)) (c_sd_h _ _ (by decide))
    have ws := r_wst a4 b4
    have z : vl_r32 (r_gr (f i) (f j) - r_ar (f j)) := ⟨by omega, by omega⟩
    rw [fn_X3_findSeeds_L17, pu_gd ⟨by omega, by omega⟩, c_sd_2, hn, pu_gd ⟨by omega, by omega⟩, if_pos (by omega), pu_gd ⟨by omega, by omega⟩, pu_gd ⟨by omega, by omega⟩, c_sd_h _ _ (show (15 : Nat) ≠ 14 by decide), a1, b1, c_growth a2 b2 (by rw [er, a3]; exact a4) (by rw [er, b3]; exact b4), Option.bind_some, c_area b2, Option.bind_some, pu_lt, er, er, a3, b3, pu_gd z, pu_gd h4, pu_jn]
    have hnext : vl_r32 (sd_s f i j q).1 := sd_s_P (P := fun q => vl_r32 q.1) z h4
    have := ih fu (j + 1) (sd_s f i j q) (by omega) (by omega) (by omega) hnext
    show _ = κ (sd_j f i k (j + 1) (sd_s f i j q)).1 n (c_sd m (sd_j f i k (j + 1) (sd_s f i j q)))
    rw [← this]
    unfold sd_s
    by_cases c : q.1 < r_gr (f i) (f j) - r_ar (f j)
    · rw [if_pos c, if_pos c, pu_lt, pu_lt, c_sd_sd]
      rfl
    · rw [if_neg c, if_neg c]
      rfl
theorem c_sdL5 {w N : Nat} {m : vl_M} {n : Int} {ts : Int → Int} {f : Int → pR} {κ : Int → Int → vl_M → Option vl_M} (hw : w ≤ 11) (hN : 100000 ≤ N) (hn : m 14 2 = n) (hnw : n ≤ (w : Int)) (ht : ∀ x, 0 ≤ x → x < n → m 15 x = ts x ∧ c_in (ts x) ∧ c_rt m (ts x) = f x ∧ r_ok (f x)) : ∀ (k fu : Nat) (i : Int) (q : Int × Int × Int), 0 ≤ i → i + (k : Int) = n → k < fu → vl_r32 q.1 → fn_X3_findSeeds_L5 w N κ fu q.1 i (c_sd m q) = κ (sd_i f n k i q).1 n (c_sd m (sd_i f n k i q)) := by
  intro k
  induction k with
  | zero =>
    intro fu i q h1 h2 h3 h4
    obtain ⟨fu, rfl⟩ : ∃ x, fu = x + 1 := ⟨fu - 1, by omega⟩
    have e : i = n := by omega
    rw [fn_X3_findSeeds_L5, pu_gd ⟨by omega, by omega⟩, c_sd_2, hn, pu_gd ⟨by omega, by omega⟩, if_neg (by omega), e]
    rfl
  | succ k ih =>
    intro fu i q h1 h2 h3 h4
    obtain ⟨fu, rfl⟩ : ∃ x, fu = x + 1 := ⟨fu - 1, by omega⟩
    rw [fn_X3_findSeeds_L5, pu_gd ⟨by omega, by omega⟩, c_sd_2, hn, pu_gd ⟨by omega, by omega⟩, if_pos (by omega), pu_lt]
    have z : vl_r32 (sd_j f i (n - (i + 1)).toNat (i + 1) q).1 := sd_j_P (P := fun q => vl_r32 q.1) (n := n) (fun j a b => by
      have := r_wst (ht i h1 (by omega)).2.2.2 (ht j (by omega) b).2.2.2
      exact ⟨by show -2147483648 ≤ r_gr (f i) (f j) - r_ar (f j); omega, by show r_gr (f i) (f j) - r_ar (f j) < 2147483648; omega⟩) _ _ _ (by omega) (by omega) h4
    rw [c_sdL17 hw hn hnw ⟨h1, by omega⟩ ht (n - (i + 1)).toNat N (i + 1) q (by omega) (by omega) (by omega) h4, pu_lt]
    exact ih fu (i + 1) _ (by omega) (by omega) (by omega) z
theorem c_findSeeds {w N : Nat} {m : vl_M} {n : Nat} {ts : Int → Int} {f : Int → pR} (hw : w ≤ 11) (hN : 100000 ≤ N) (hn : m 14 2 = (n : Int)) (h2 : 2 ≤ n) (hnw : n ≤ w) (ht : ∀ x : Int, 0 ≤ x → x < (n : Int) → m 15 x = ts x ∧ c_in (ts x) ∧ c_rt m (ts x) = f x ∧ r_ok (f x)) : fn_X3_findSeeds w N m = some (c_sd m (sd f n)) := by
  unfold fn_X3_findSeeds
  have e0 : m = c_sd m (-2147483648, m 14 3, m 14 4) := by
    funext h j
    unfold c_sd vl_up
    by_cases c1 : h = 14 ∧ j = 4
    · simp [c1]
    · by_cases c2 : h = 14 ∧ j = 3
      · simp [c2]
      · simp [c1, c2]
  have ws := r_wst (ht 0 (by omega) (by omega)).2.2.2 (ht 1 (by omega) (by omega)).2.2.2
  have key := c_sdL5 (κ := fun _ _ m6 => some m6) hw hN hn (by omega) ht n N 0 (-2147483648, m 14 3, m 14 4) (by omega) (by omega) (by omega) (show vl_r32 (-2147483648) from ⟨by decide, by decide⟩)
  rw [← e0] at key
  rw [key, sd_i_first h2 (q' := (-2147483648, 0, 1)) (by show (-2147483648 : Int) < _; omega) (by show (-2147483648 : Int) < _; omega)]
  rfl
theorem sp_perm (f : Int → pR) (N : Int) : ∀ (k : Nat) (A B rest : List Int), rest.length ≤ k → ((sp f N k A B rest).1 ++ (sp f N k A B rest).2).Perm (A ++ (B ++ rest)) := by
  intro k
  induction k with
  | zero =>
    intro A B rest h
    have e : rest = [] := List.length_eq_zero_iff.mp (by omega)
    subst e
    rw [List.append_nil]
    exact List.Perm.refl _
  | succ k ih =>
    intro A B rest h
    cases rest with
    | nil => rw [List.append_nil]; exact List.Perm.refl _
    | cons y t =>
      simp only [List.length_cons] at h
      have hpk := sp_pk_lt0 (d := sp_d f A B) (fun x => Int.natCast_nonneg _) y t
      have goA : ∀ p : Nat, p < (y :: t).length → ((sp f N k (A ++ [(y :: t).getD p 0]) B ((y :: t).eraseIdx p)).1 ++ (sp f N k (A ++ [(y :: t).getD p 0]) B ((y :: t).eraseIdx p)).2).Perm (A ++ (B ++ (y :: t))) := fun p hp =>
        (ih _ _ _ (by rw [List.length_eraseIdx_of_lt hp]; simp; omega)).trans (pu_perm_A hp)
      have goB : ∀ p : Nat, p < (y :: t).length → ((sp f N k A (B ++ [(y :: t).getD p 0]) ((y :: t).eraseIdx p)).1 ++ (sp f N k A (B ++ [(y :: t).getD p 0]) ((y :: t).eraseIdx p)).2).Perm (A ++ (B ++ (y :: t))) := fun p hp =>
        (ih _ _ _ (by rw [List.length_eraseIdx_of_lt hp]; simp; omega)).trans (pu_perm_B hp)
      unfold sp
      split
      · exact goA 0 (by simp)
      · split
        · exact goB 0 (by simp)
        · dsimp only
          split
          · exact goA _ (by simpa using hpk)
          · exact goB _ (by simpa using hpk)
theorem sp_least (f : Int → pR) (N : Int) : ∀ (k : Nat) (A B rest : List Int), rest.length ≤ k → N ≤ ((A.length + rest.length : Nat) : Int) → N ≤ ((B.length + rest.length : Nat) : Int) → 2 * N ≤ ((A.length + B.length + rest.length : Nat) : Int) → N ≤ (((sp f N k A B rest).1.length : Nat) : Int) ∧ N ≤ (((sp f N k A B rest).2.length : Nat) : Int) := by
  intro k
  induction k with
  | zero =>
    intro A B rest h h1 h2 h3
    exact ⟨by show N ≤ ((A.length : Nat) : Int); omega, by show N ≤ ((B.length : Nat) : Int); omega⟩
  | succ k ih =>
    intro A B rest h h1 h2 h3
    cases rest with
    | nil => exact ⟨h1, h2⟩
    | cons y t =>
      simp only [List.length_cons] at h h1 h2 h3
      have hpk := sp_pk_lt0 (d := sp_d f A B) (fun x => Int.natCast_nonneg _) y t
      have el : ∀ p : Nat, p < t.length + 1 → ((y :: t).eraseIdx p).length = t.length := fun p hp => by rw [List.length_eraseIdx_of_lt (by simpa using hp)]; simp
      have goA : ∀ p : Nat, p < t.length + 1 → N ≤ ((B.length + t.length : Nat) : Int) → N ≤ (((sp f N k (A ++ [(y :: t).getD p 0]) B ((y :: t).eraseIdx p)).1.length : Nat) : Int) ∧ N ≤ (((sp f N k (A ++ [(y :: t).getD p 0]) B ((y :: t).eraseIdx p)).2.length : Nat) : Int) := fun p hp hq =>
        ih _ _ _ (by rw [el p hp]; omega) (by rw [el p hp, List.length_append]; simp; omega) (by rw [el p hp]; exact hq) (by rw [el p hp, List.length_append]; simp; omega)
      have goB : ∀ p : Nat, p < t.length + 1 → N ≤ ((A.length + t.length : Nat) : Int) → N ≤ (((sp f N k A (B ++ [(y :: t).getD p 0]) ((y :: t).eraseIdx p)).1.length : Nat) : Int) ∧ N ≤ (((sp f N k A (B ++ [(y :: t).getD p 0]) ((y :: t).eraseIdx p)).2.length : Nat) : Int) := fun p hp hq =>
        ih _ _ _ (by rw [el p hp]; omega) (by rw [el p hp]; exact hq) (by rw [el p hp, List.length_append]; simp; omega) (by rw [el p hp, List.length_append]; simp; omega)
      unfold sp
      split
      · exact goA 0 (by omega) (by omega)
      · split
        · exact goB 0 (by omega) (by omega)
        · dsimp only
          split
          · exact goA _ (by simpa using hpk) (by omega)
          · exact goB _ (by simpa using hpk) (by omega)
theorem sh_sd {w : Nat} {m0 m : vl_M} {s fr : Int} {ts : Int → Int} {f : Int → pR} {A B rest : List Int} {q : Int × Int × Int} (h : sh_I w m0 m s fr ts f A B rest) : sh_I w m0 (c_sd m q) s fr ts f A B rest := by
  obtain ⟨⟨h1, h2, h3⟩, ⟨⟨a1, a2⟩, a3⟩, ⟨⟨b1, b2⟩, b3⟩, ⟨⟨c1, c2⟩, c3⟩, ⟨d1, d2⟩, d3⟩ := h
  have e : ∀ h : Nat, h ≠ 14 → c_sd m q h = m h := fun h q1 => c_sd_h m q q1
  have ek : ∀ u i, c_k w (c_sd m q) u i = c_k w m u i := fun u i => by unfold c_k; rw [e 10 (by decide)]
  have er : ∀ u, c_rt (c_sd m q) u = c_rt m u := fun u => c_rt_congr (e 3 (by decide)) (e 4 (by decide)) (e 5 (by decide)) (e 6 (by decide))
  refine ⟨⟨fun h q1 q2 q3 => by rw [e h q2]; exact h1 h q1 q2 q3, by rw [c_sd_2]; exact h2, by rw [e 15 (by decide)]; exact h3⟩, ⟨⟨?_, ?_⟩, ?_⟩, ⟨⟨?_, ?_⟩, ?_⟩, ⟨⟨?_, ?_⟩, ?_⟩, ⟨?_, ?_⟩, ?_⟩
  all_goals (first | rw [e 9 (by decide)] | rw [e 8 (by decide)] | skip)
  · exact a1
  · exact a2
  · exact a3
  · intro i x z; rw [ek]; exact b1 i x z
  · intro i x z; rw [ek]; exact b2 i x z
  · intro u i x y z t; rw [ek]; exact b3 u i x y z t
  · intro z; rw [er]; exact c1 z
  · intro z; rw [er]; exact c2 z
  · intro u x y; rw [er]; exact c3 u x y
  · exact d1
  · exact d2
  · exact d3
/-- the two parts of n things -/
noncomputable def spl (f : Int → pR) (n : Nat) (N : Int) : List Int × List Int := sp f N n [(sd f n).2.1] [(sd f n).2.2] (((pu_rng n).eraseIdx (sd f n).2.2.toNat).eraseIdx (sd f n).2.1.toNat)
theorem pu_rng_er {n a b : Nat} (hab : a < b) (hb : b < n) : (pu_rng n).getD b 0 = (b : Int) ∧ ((pu_rng n).eraseIdx b).getD a 0 = (a : Int) ∧ (((pu_rng n).eraseIdx b).eraseIdx a).length = n - 2 ∧ ([(a : Int)] ++ ([(b : Int)] ++ ((pu_rng n).eraseIdx b).eraseIdx a)).Perm (pu_rng n) := by
  have hlb : b < (pu_rng n).length := by rw [pu_rng_len]; exact hb
  have hla : a < ((pu_rng n).eraseIdx b).length := by rw [List.length_eraseIdx_of_lt hlb, pu_rng_len]; omega
  have e1 : (pu_rng n).getD b 0 = (b : Int) := by simp [List.getD, pu_rng_get' hb]
  have e2 : ((pu_rng n).eraseIdx b).getD a 0 = (a : Int) := by
    rw [List.getD, List.getElem?_eraseIdx, if_pos hab, pu_rng_get' (by omega)]
    rfl
  refine ⟨e1, e2, ?_, ?_⟩
  · rw [List.length_eraseIdx_of_lt hla, List.length_eraseIdx_of_lt hlb, pu_rng_len]; omega
  · have p1 := pu_perm_get hlb
    have p2 := pu_perm_get hla
    rw [e1] at p1
    rw [e2] at p2
    have p3 : ((b : Int) :: (a : Int) :: ((pu_rng n).eraseIdx b).eraseIdx a).Perm (pu_rng n) := (List.Perm.cons _ p2).trans p1
    exact (List.Perm.swap _ _ _).trans p3
theorem spl_perm (f : Int → pR) {n : Nat} (N : Int) (h : 2 ≤ n) : ((spl f n N).1 ++ (spl f n N).2).Perm (pu_rng n) := by
  obtain ⟨h1, h2, h3⟩ := sd_rg f h
  obtain ⟨-, -, e3, e4⟩ := pu_rng_er (n := n) (a := (sd f n).2.1.toNat) (b := (sd f n).2.2.toNat) (by omega) (by omega)
  have ea : (((sd f n).2.1.toNat : Nat) : Int) = (sd f n).2.1 := by omega
  have eb : (((sd f n).2.2.toNat : Nat) : Int) = (sd f n).2.2 := by omega
  rw [ea, eb] at e4
  exact (sp_perm f N n _ _ _ (by omega)).trans e4
theorem spl_least (f : Int → pR) {n : Nat} {N : Int} (h : 2 ≤ n) (hN : 1 ≤ N) (h2 : 2 * N + 1 ≤ (n : Int)) : N ≤ (((spl f n N).1.length : Nat) : Int) ∧ N ≤ (((spl f n N).2.length : Nat) : Int) := by
  obtain ⟨h1, h2', h3⟩ := sd_rg f h
  obtain ⟨-, -, e3, e4⟩ := pu_rng_er (n := n) (a := (sd f n).2.1.toNat) (b := (sd f n).2.2.toNat) (by omega) (by omega)
  exact sp_least f N n _ _ _ (by omega) (by rw [e3]; simp; omega) (by rw [e3]; simp; omega) (by rw [e3]; simp; omega)
theorem c_share {w N n : Nat} {m : vl_M} {s fr : Int} {f : Int → pR} (hw : c_w w N m) (hk : sh_ok w m s fr (c_k w m s) f (pu_rng n)) (hn : m 9 s = (n : Int)) (h2 : 2 ≤ n) (hfr : m 9 fr = 0) (h32 : vl_r32 (m 1 1)) :
    ∃ m', fn_X3_share w N m s fr = some m' ∧ sh_I w m m' s fr (c_k w m s) f (spl f n (m 1 1)).1 (spl f n (m 1 1)).2 [] := by
  have hnw : n ≤ w := by have := hk.1.1; rw [pu_rng_len] at this; exact this
  have hw5 := hw.1
  have hw11 := hw.2.1
  have hN := hw.2.2.1
  obtain ⟨m1, p1, p2⟩ := c_pourOut (f := f) hw hk.1.2.1 hn hnw hk.1.2.2.2 hfr
  have hsd := c_findSeeds (m := m1) (f := f) (ts := c_k w m s) hw11 hN (by rw [p2.1.2.1, pu_rng_len]) h2 hnw (fun x x1 x2 => by
    obtain ⟨k1, k2, k3, k4, k5⟩ := hk.2.1 x (pu_rng_mem.mpr ⟨x1, x2⟩)
    have := p2.1.2.2 x.toNat x (by rw [pu_rng_get' (by omega)]; congr 1; omega)
    rw [show ((x.toNat : Nat) : Int) = x by omega] at this
    exact ⟨this, k1, by rw [p2.2.2.2.1.2 _ k2 k3, k4], k5⟩)
  obtain ⟨g1, g2, g3⟩ := sd_rg f h2
  have p3 := sh_sd (q := sd f n) p2
  obtain ⟨e1, e2, e3, e4⟩ := pu_rng_er (n := n) (a := (sd f n).2.1.toNat) (b := (sd f n).2.2.toNat) (by omega) (by omega)
  have ea : (((sd f n).2.1.toNat : Nat) : Int) = (sd f n).2.1 := by omega
  have eb : (((sd f n).2.2.toNat : Nat) : Int) = (sd f n).2.2 := by omega
  obtain ⟨t1, t2⟩ := sh_tk (p := (sd f n).2.2.toNat) hN hw11 (by rw [pu_rng_len]; exact hnw) (by rw [pu_rng_len]; omega) p3
  obtain ⟨t3, t4⟩ := sh_tk (p := (sd f n).2.1.toNat) hN hw11 (by rw [List.length_eraseIdx_of_lt (by rw [pu_rng_len]; omega), pu_rng_len]; omega) (by rw [List.length_eraseIdx_of_lt (by rw [pu_rng_len]; omega), pu_rng_len]; omega) t2
  rw [e1, eb] at t1
  rw [eb] at t2 t3 t4
  rw [e2, ea] at t3
  rw [ea] at t4
  have hKa : (sd f n).2.1 ∈ pu_rng n := pu_rng_mem.mpr ⟨by omega, by omega⟩
  have hKb : (sd f n).2.2 ∈ pu_rng n := pu_rng_mem.mpr ⟨by omega, by omega⟩
  obtain ⟨m2, t5, t6⟩ := sh_toA (x := (sd f n).2.1) hw hk (fun y hy => by simp at hy) (fun y hy => by simp at hy) hKa (by simp) (by simp) (by simp; omega) (by simp) t4
  obtain ⟨m3, t7, t8⟩ := sh_toA (x := (sd f n).2.2) hw (sh_ok_sym hk) (fun y hy => by simp at hy) (fun y hy => by simp at hy; rw [hy]; exact hKa) hKb (by simp) (by simp; omega) (by simp; omega) (by simp; omega) (sh_sym t6)
  rw [ea, eb] at e4
  obtain ⟨m', t9, t10⟩ := sh_L hw hk (pu_rng_nodup n) h32 n N [(sd f n).2.1] [(sd f n).2.2] (((pu_rng n).eraseIdx (sd f n).2.2.toNat).eraseIdx (sd f n).2.1.toNat) 0 m3 e4 (by omega) (by omega) (by omega) (by omega) (by simp) (by simp) (sh_sym t8)
  refine ⟨m', ?_, t10⟩
  have c3 : c_tk (c_sd m1 (sd f n)) (sd f n).2.2 14 3 = (sd f n).2.1 := by
    unfold c_tk
    rw [if_neg (by simp), if_neg (by simp)]
    exact c_sd_3 _ _
  unfold fn_X3_share
  rw [p1, Option.bind_some, hsd, Option.bind_some, c_sd_4, t1, Option.bind_some, pu_un, c3, t3, Option.bind_some, pu_un, t5, Option.bind_some, t7, Option.bind_some]
  exact t9
