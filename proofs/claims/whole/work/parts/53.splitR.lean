/-! ===== PURE, 14: the reference's split as far as its two parts ===== -/
/-- what a split does when n and the other are made -/
def d_tail2 (N : Nat) (a1 b32 : Int) (m42 : vl_M) : Option vl_M :=
    vl_gd (vl_r32 (m42 23 11)) <| if a1 = (m42 23 11) then ((fn_X8_node N m42 ((m42 26 a1) + 1)).bind <| vl_un fun b72 m73 => vl_lt (vl_up m73 23 11 b72) fun m74 => (fn_X8_hold m74 (m74 23 11) a1).bind fun m76 => (fn_X8_hold m76 (m76 23 11) b32).bind fun m78 => (fn_X8_measure N m78 (m78 23 11)).bind fun m80 => some m80) else vl_lt ((m42 30 a1)) fun v44 => (fn_X8_placeIn N m42 v44 a1).bind fun b45 => vl_lt ((b45 + 1)) fun v46 => vl_gd (0 ≤ v44 ∧ v44 < 500) <| vl_lt ((m42 27 v44)) fun v49 => fn_X8_split_L505 N b32 v44 v46 (fun (v52 : Int) (m53 : vl_M) => 
    vl_gd (0 ≤ ((11 * v44) + v46) ∧ ((11 * v44) + v46) < 5500) <| vl_lt (vl_up m53 28 ((11 * v44) + v46) b32) fun m54 => vl_lt (vl_up m54 27 v44 ((m54 27 v44) + 1)) fun m57 => vl_gd (0 ≤ b32 ∧ b32 < 500) <| vl_lt (vl_up m57 30 b32 v44) fun m58 => (fn_X8_measureUp N m58 v44).bind fun m62 => some m62) N v49 m42
/-- what it does when the parts are known -/
def d_tail (N : Nat) (a1 v5 : Int) (m31 : vl_M) : Option vl_M :=
    (fn_X8_node N m31 (m31 26 a1)).bind <| vl_un fun b32 m33 => vl_lt (vl_up m33 27 a1 0) fun m34 => fn_X8_split_L364 N a1 v5 b32 (fun (v37 : Int) (m38 : vl_M) => 
    (fn_X8_measure N m38 a1).bind fun m40 => (fn_X8_measure N m40 b32).bind fun m42 => d_tail2 N a1 b32 m42) N 0 m34
def d_th (r : vl_M) (a v : Int) : vl_M := fun h j => if h = 37 ∧ 0 ≤ j ∧ j < v then d_k r a j else if h = 38 ∧ 0 ≤ j ∧ j < v then 0 else r h j
theorem d_th_h (r : vl_M) (a v : Int) {h : Nat} (h1 : h ≠ 37) (h2 : h ≠ 38) : d_th r a v h = r h := by funext j; simp [d_th, h1, h2]
theorem d_thL {N : Nat} {r : vl_M} {a l n : Int} {κ : Int → vl_M → Option vl_M} (ha : d_nd a) (hn : 0 ≤ n ∧ n ≤ 11) : ∀ (fu : Nat) (v : Int), 0 ≤ v → v ≤ n → n - v < (fu : Int) → fn_X8_split_L29 N a l n κ fu v (d_th r a v) = κ n (d_th r a n) := by
  intro fu
  induction fu with
  | zero => intro v _ _ h; omega
  | succ fu ih =>
    intro v h1 h2 h3
    rw [fn_X8_split_L29, pu_gd ⟨by omega, by omega⟩, pu_gd ⟨by omega, by omega⟩]
    by_cases c : v < n
    · have ek : d_k (d_th r a v) a v = d_k r a v := by unfold d_k; rw [d_th_h _ _ _ (by decide) (by decide)]
      rw [if_pos c, d_held ha ⟨by omega, by omega⟩, Option.bind_some, pu_gd ⟨by omega, by omega⟩, pu_lt, pu_lt, pu_lt, ek]
      have e : vl_up (vl_up (d_th r a v) 37 v (d_k r a v)) 38 v 0 = d_th r a (v + 1) := by
        funext h j
        unfold vl_up d_th
        by_cases q : h = 38
        · subst q
          by_cases c1 : j = v
          · subst c1; simp [h1]; omega
          · have : (0 ≤ j ∧ j < v + 1) ↔ (0 ≤ j ∧ j < v) := by omega
            simp [c1, this]
        · by_cases q2 : h = 37
          · subst q2
            by_cases c1 : j = v
            · subst c1; simp [h1]; omega
            · have : (0 ≤ j ∧ j < v + 1) ↔ (0 ≤ j ∧ j < v) := by omega
              simp [c1, this]
          · simp [q, q2]
      rw [e]
      exact ih (v + 1) (by omega) (by omega) (by omega)
    · have e : v = n := by omega
      rw [if_neg c, e]
theorem d_sdL89 {N n : Nat} {r : vl_M} {a l i : Int} {ds : Int → Int} {f : Int → pR} {κ : Int → Int → Int → Int → Option vl_M} (hk : dh_ok r l ds f n) (hi : 0 ≤ i ∧ i < (n : Int)) : ∀ (k fu : Nat) (j : Int) (q : Int × Int × Int), i < j → j + (k : Int) = (n : Int) → k < fu → vl_r64 q.1 → fn_X8_split_L89 N r a l (n : Int) i κ fu q.2.1 q.2.2 q.1 j = κ (sd_j f i k j q).2.1 (sd_j f i k j q).2.2 (sd_j f i k j q).1 (n : Int) := by
  obtain ⟨k0, k1⟩ := hk
  intro k
  induction k with
  | zero =>
    intro fu j q h1 h2 h3 h4
    obtain ⟨fu, rfl⟩ : ∃ x, fu = x + 1 := ⟨fu - 1, by omega⟩
    have e : j = (n : Int) := by omega
    rw [fn_X8_split_L89, pu_gd ⟨by omega, by omega⟩, if_neg (by omega), e]
    rfl
  | succ k ih =>
    intro fu j q h1 h2 h3 h4
    obtain ⟨fu, rfl⟩ : ∃ x, fu = x + 1 := ⟨fu - 1, by omega⟩
    obtain ⟨a1, a2, a3, a4⟩ := k1 i hi.1 hi.2
    obtain ⟨b1, b2, b3, b4⟩ := k1 j (by omega) (by omega)
    have ws := r_wst a4 b4
    have z : vl_r64 (r_gr (f i) (f j) - r_ar (f j)) := pu_r64 (by omega) (by omega)
    have z' : vl_r64 (r_ar (r_cv (f i) (f j)) - r_ar (f i) - r_ar (f j)) := z
    rw [fn_X8_split_L89, pu_gd ⟨by omega, by omega⟩, if_pos (by omega), pu_gd ⟨by omega, by omega⟩, pu_gd ⟨by omega, by omega⟩, a1, b1, d_areaBoth a2 b2 (by rw [a3]; exact a4) (by rw [b3]; exact b4), Option.bind_some, d_areaOf a2 (by rw [a3]; exact a4), Option.bind_some, d_areaOf b2 (by rw [b3]; exact b4), Option.bind_some, a3, b3, pu_lt, pu_gd z', pu_gd h4, pu_jn]
    have hnext : vl_r64 (sd_s f i j q).1 := sd_s_P (P := fun q => vl_r64 q.1) z h4
    have := ih fu (j + 1) (sd_s f i j q) (by omega) (by omega) (by omega) hnext
    show _ = κ (sd_j f i k (j + 1) (sd_s f i j q)).2.1 (sd_j f i k (j + 1) (sd_s f i j q)).2.2 (sd_j f i k (j + 1) (sd_s f i j q)).1 (n : Int)
    rw [← this]
    unfold sd_s
    by_cases c : q.1 < r_gr (f i) (f j) - r_ar (f j)
    · have c' : q.1 < r_ar (r_cv (f i) (f j)) - r_ar (f i) - r_ar (f j) := c
      rw [if_pos c, if_pos c']
      rfl
    · have c' : ¬ q.1 < r_ar (r_cv (f i) (f j)) - r_ar (f i) - r_ar (f j) := c
      rw [if_neg c, if_neg c']
      rfl
theorem d_sdL77 {N n : Nat} {r : vl_M} {a l : Int} {ds : Int → Int} {f : Int → pR} {κ : Int → Int → Int → Int → Option vl_M} (hN : 100000 ≤ N) (hk : dh_ok r l ds f n) : ∀ (k fu : Nat) (i : Int) (q : Int × Int × Int), 0 ≤ i → i + (k : Int) = (n : Int) → k < fu → vl_r64 q.1 → fn_X8_split_L77 N r a l (n : Int) κ fu q.2.1 q.2.2 q.1 i = κ (sd_i f (n : Int) k i q).2.1 (sd_i f (n : Int) k i q).2.2 (sd_i f (n : Int) k i q).1 (n : Int) := by
  have k0 := hk.1
  intro k
  induction k with
  | zero =>
    intro fu i q h1 h2 h3 h4
    obtain ⟨fu, rfl⟩ : ∃ x, fu = x + 1 := ⟨fu - 1, by omega⟩
    have e : i = (n : Int) := by omega
    rw [fn_X8_split_L77, pu_gd ⟨by omega, by omega⟩, pu_gd ⟨by omega, by omega⟩, if_neg (by omega), e]
    rfl
  | succ k ih =>
    intro fu i q h1 h2 h3 h4
    obtain ⟨fu, rfl⟩ : ∃ x, fu = x + 1 := ⟨fu - 1, by omega⟩
    rw [fn_X8_split_L77, pu_gd ⟨by omega, by omega⟩, pu_gd ⟨by omega, by omega⟩, if_pos (by omega), pu_lt]
    have z : vl_r64 (sd_j f i ((n : Int) - (i + 1)).toNat (i + 1) q).1 := sd_j_P (P := fun q => vl_r64 q.1) (n := (n : Int)) (fun j a b => by
      have := r_wst (hk.2 i h1 (by omega)).2.2.2 (hk.2 j (by omega) b).2.2.2
      exact pu_r64 (by show -9000000000 ≤ r_gr (f i) (f j) - r_ar (f j); omega) (by show r_gr (f i) (f j) - r_ar (f j) ≤ 9000000000; omega)) _ _ _ (by omega) (by omega) h4
    rw [d_sdL89 hk ⟨h1, by omega⟩ ((n : Int) - (i + 1)).toNat N (i + 1) q (by omega) (by omega) (by omega) h4, pu_lt]
    exact ih fu (i + 1) _ (by omega) (by omega) (by omega) z
theorem sp_R_sd {n a b : Nat} (hab : a < b) (hb : b < n) : ((pu_rng n).eraseIdx b).eraseIdx a = sp_R n [(a : Int)] [(b : Int)] := by
  have e0 : pu_rng n = sp_R n [] [] := by
    rw [pu_rng_seq]
    unfold sp_R
    symm
    rw [List.filter_eq_self]
    intro x _
    simp
  obtain ⟨e1, e2, -, -⟩ := pu_rng_er hab hb
  have hlb : b < (pu_rng n).length := by rw [pu_rng_len]; exact hb
  have hla : a < ((pu_rng n).eraseIdx b).length := by rw [List.length_eraseIdx_of_lt hlb, pu_rng_len]; omega
  have s1 : (pu_rng n).eraseIdx b = sp_R n [] [(b : Int)] := by
    rw [e0] at hlb e1 ⊢
    rw [sp_R_B hlb, e1]
    rfl
  rw [s1] at hla e2 ⊢
  rw [sp_R_A hla, e2]
  rfl
theorem d_splitA {N n : Nat} {r : vl_M} {a l M : Int} {f : Int → pR} (hN : 100000 ≤ N) (ha : d_nd a) (hn : r 27 a = (n : Int)) (hl : r 26 a - 1 = l) (hn11 : n ≤ 11) (hM : r 23 2 = M) (hMn : 2 ≤ M ∧ 2 * M + 1 ≤ (n : Int)) (hk : ∀ x : Int, 0 ≤ x → x < (n : Int) → d_in l (d_k r a x) ∧ d_rt r l (d_k r a x) = f x ∧ r_ok (f x)) :
    ∃ r' C', fn_X8_split N r a = d_tail N a (n : Int) r' ∧ dh_I (d_th (vl_up r 23 12 (r 23 12 + 1)) a (n : Int)) r' f n (spl f n M).1 (spl f n M).2 C' := by
  generalize hr0 : d_th (vl_up r 23 12 (r 23 12 + 1)) a (n : Int) = r0
  have e0 : ∀ h : Nat, h ≠ 23 → h ≠ 37 → h ≠ 38 → r0 h = r h := fun h a b c => by rw [← hr0, d_th_h _ _ _ b c, up_h _ _ _ a]
  have ek : ∀ i, d_k (vl_up r 23 12 (r 23 12 + 1)) a i = d_k r a i := fun i => by unfold d_k; rw [up_h _ _ _ (by decide)]
  have hok : dh_ok r0 l (d_k r a) f n := ⟨hn11, fun x x1 x2 => by
    obtain ⟨k1, k2, k3⟩ := hk x x1 x2
    refine ⟨?_, k1, ?_, k3⟩
    · rw [← hr0]
      unfold d_th
      rw [if_pos ⟨rfl, x1, x2⟩, ek]
    · rw [d_rt_congr (e0 25 (by decide) (by decide) (by decide)) (e0 29 (by decide) (by decide) (by decide))]; exact k2⟩
  have hM0 : r0 23 2 = M := by rw [← hr0, d_th_h _ _ _ (by decide) (by decide), up_i _ _ (by decide)]; exact hM
  have hz38 : ∀ x : Int, 0 ≤ x → x < (n : Int) → r0 38 x = 0 := fun x x1 x2 => by
    rw [← hr0]
    unfold d_th
    rw [if_neg (by simp), if_pos ⟨rfl, x1, x2⟩]
  have h2n : 2 ≤ n := by omega
  obtain ⟨g1, g2, g3⟩ := sd_rg f h2n
  have hd0 : dh_I r0 (vl_up (vl_up r0 41 0 0) 41 1 0) f n [] [] [] := by
    refine ⟨⟨fun h hh => by rw [up_h _ _ _ (by omega), up_h _ _ _ (by omega)], ?_, ?_⟩, ⟨fun z => absurd rfl z, fun z => absurd rfl z⟩, ?_, ?_, rfl, ?_, rfl, rfl⟩
    · rw [up_i _ _ (by decide), up_s]; rfl
    · rw [up_s]; rfl
    · intro x x1 x2
      refine ⟨fun z => by simp at z, fun z => by simp at z, fun _ _ => ?_⟩
      rw [up_h _ _ _ (by decide), up_h _ _ _ (by decide)]
      exact hz38 x x1 x2
    · intro k x q; simp at q
    · intro x; simp
  obtain ⟨r1, b1, b2⟩ := dh_A (x := (sd f n).2.1) hN hok ⟨by omega, by omega⟩ (by simp) (by simp) (by simp) (fun y hy => by simp at hy) hd0
  obtain ⟨r2, b3, b4⟩ := dh_B (x := (sd f n).2.2) hN hok ⟨by omega, by omega⟩ (by simp; omega) (by simp) (by simp) (fun y hy => by simp at hy) b2
  have ea : (((sd f n).2.1.toNat : Nat) : Int) = (sd f n).2.1 := by omega
  have eb : (((sd f n).2.2.toNat : Nat) : Int) = (sd f n).2.2 := by omega
  have eR := sp_R_sd (n := n) (a := (sd f n).2.1.toNat) (b := (sd f n).2.2.toNat) (by omega) (by omega)
  have eL := (pu_rng_er (n := n) (a := (sd f n).2.1.toNat) (b := (sd f n).2.2.toNat) (by omega) (by omega)).2.2.1
  rw [ea, eb] at eR
  rw [eR] at eL
  obtain ⟨r3, C', b5, b6⟩ := dh_L (a1 := a) (κ := fun _ m31 => d_tail N a (n : Int) m31) hN hok hM0 hMn n N [(sd f n).2.1] [(sd f n).2.2] _ r2 (by omega) (by omega) (by rw [eL]; simp; omega) (fun y hy => by simp at hy; omega) (fun y hy => by simp at hy; omega) (by simp) (by simp) (by rw [eL]; simp; omega) (by rw [eL]; simp; omega) b4
  refine ⟨r3, C', ?_, ?_⟩
  · unfold fn_X8_split
    rw [pu_lt, pu_gd ha, pu_lt, pu_lt, up_h _ _ _ (show (26 : Nat) ≠ 23 by decide), up_h _ _ _ (show (27 : Nat) ≠ 23 by decide), hn, hl]
    have est : vl_up r 23 12 (r 23 12 + 1) = d_th (vl_up r 23 12 (r 23 12 + 1)) a 0 := by
      funext h j
      unfold d_th
      rw [if_neg (by omega), if_neg (by omega)]
    have hw0 := hk 0 (by omega) (by omega)
    have hw1 := hk 1 (by omega) (by omega)
    have ws := r_wst hw0.2.2 hw1.2.2
    conv => lhs; rw [est]
    rw [d_thL ha ⟨by omega, by omega⟩ N 0 (by omega) (by omega) (by omega), hr0]
    have key := d_sdL77 (a := a) (κ := fun v14 v15 _ _ => vl_gd (0 ≤ 0 ∧ 0 < 2) <| vl_lt (vl_up r0 41 0 0) fun m18 => vl_gd (0 ≤ 1 ∧ 1 < 2) <| vl_lt (vl_up m18 41 1 0) fun m21 => (fn_X8_come N m21 v14 1 l 0).bind <| vl_un fun b24 m25 => (fn_X8_come N m25 v15 2 l b24).bind <| vl_un fun b26 m27 => fn_X8_split_L216 N a l (n : Int) (fun (v30 : Int) (m31 : vl_M) => d_tail N a (n : Int) m31) N b26 m27) hN hok n N 0 (-9223372036854775808, 0, 1) (by omega) (by omega) (by omega) (show vl_r64 (-9223372036854775808) from ⟨by decide, by decide⟩)
    refine Eq.trans key ?_
    rw [sd_i_first h2n (q' := (-2147483648, 0, 1)) (by show (-9223372036854775808 : Int) < _; omega) (by show (-2147483648 : Int) < _; omega)]
    show vl_gd _ _ = _
    rw [pu_gd (by decide), pu_lt, pu_gd (by decide), pu_lt]
    have b1' : fn_X8_come N (vl_up (vl_up r0 41 0 0) 41 1 0) (sd f n).2.1 1 l 0 = _ := b1
    unfold sd at b1' b3
    unfold sd at b5
    rw [b1', Option.bind_some, pu_un, b3, Option.bind_some, pu_un]
    exact b5
  · unfold spl
    rw [eR]
    exact b6
