/-! ===== PURE, 12: the reference's share is the class's ===== -/
def pu_seq : Nat → Int → List Int
  | 0, _ => []
  | k + 1, i => i :: pu_seq k (i + 1)
theorem pu_seq_len : ∀ (k : Nat) (i : Int), (pu_seq k i).length = k := by
  intro k
  induction k with
  | zero => intro i; rfl
  | succ k ih => intro i; show (pu_seq k (i + 1)).length + 1 = k + 1; rw [ih]
theorem pu_seq_mem : ∀ (k : Nat) (i x : Int), x ∈ pu_seq k i ↔ (i ≤ x ∧ x < i + (k : Int)) := by
  intro k
  induction k with
  | zero => intro i x; constructor; (intro h; cases h); (intro h; omega)
  | succ k ih =>
    intro i x
    show x ∈ i :: pu_seq k (i + 1) ↔ _
    rw [List.mem_cons, ih]
    constructor
    · rintro (h | h) <;> omega
    · intro h
      by_cases c : x = i
      · exact Or.inl c
      · exact Or.inr (by omega)
theorem pu_seq_nodup : ∀ (k : Nat) (i : Int), (pu_seq k i).Nodup := by
  intro k
  induction k with
  | zero => intro i; exact List.nodup_nil
  | succ k ih =>
    intro i
    show (i :: pu_seq k (i + 1)).Nodup
    rw [List.nodup_cons]
    refine ⟨fun h => ?_, ih _⟩
    have := (pu_seq_mem k (i + 1) i).mp h
    omega
theorem pu_seq_get : ∀ (k : Nat) (i : Int) (j : Nat), (pu_seq k i)[j]? = if j < k then some (i + (j : Int)) else none := by
  intro k
  induction k with
  | zero => intro i j; simp [pu_seq]
  | succ k ih =>
    intro i j
    show (i :: pu_seq k (i + 1))[j]? = _
    cases j with
    | zero => simp
    | succ j =>
      rw [List.getElem?_cons_succ, ih]
      by_cases c : j < k
      · rw [if_pos c, if_pos (by omega)]
        congr 1; omega
      · rw [if_neg c, if_neg (by omega)]
theorem pu_rng_seq (n : Nat) : pu_rng n = pu_seq n 0 := by
  apply List.ext_getElem?
  intro j
  rw [pu_seq_get]
  by_cases c : j < n
  · rw [if_pos c, pu_rng_get' c]; congr 1; omega
  · rw [if_neg c]
    exact List.getElem?_eq_none (by rw [pu_rng_len]; omega)
theorem pu_er_filter : ∀ (l : List Int) (p : Nat), l.Nodup → p < l.length → l.eraseIdx p = l.filter (fun x => decide (x ≠ l.getD p 0)) := by
  intro l
  induction l with
  | nil => intro p _ h; exact absurd h (Nat.not_lt_zero _)
  | cons a t ih =>
    intro p hn hp
    obtain ⟨h1, h2⟩ := List.nodup_cons.mp hn
    cases p with
    | zero =>
      show t = (a :: t).filter (fun x => decide (x ≠ a))
      rw [List.filter_cons_of_neg (by simp)]
      symm
      rw [List.filter_eq_self]
      intro x hx
      have : x ≠ a := fun e => h1 (by rw [← e]; exact hx)
      simp [this]
    | succ p =>
      have hp' : p < t.length := by simpa using hp
      show a :: t.eraseIdx p = (a :: t).filter (fun x => decide (x ≠ t.getD p 0))
      have hm : t.getD p 0 ∈ t := (pu_perm_get hp').mem_iff.mp List.mem_cons_self
      have : a ≠ t.getD p 0 := fun e => h1 (by rw [e]; exact hm)
      rw [List.filter_cons_of_pos (by simpa using this), ih p h2 hp']
/-- what neither part has -/
def sp_R (n : Nat) (A B : List Int) : List Int := (pu_seq n 0).filter (fun x => decide (x ∉ A ∧ x ∉ B))
theorem sp_R_mem {n : Nat} {A B : List Int} {x : Int} : x ∈ sp_R n A B ↔ ((0 ≤ x ∧ x < (n : Int)) ∧ x ∉ A ∧ x ∉ B) := by
  unfold sp_R
  rw [List.mem_filter, pu_seq_mem]
  simp
theorem sp_R_nodup (n : Nat) (A B : List Int) : (sp_R n A B).Nodup := List.Nodup.sublist List.filter_sublist (pu_seq_nodup n 0)
theorem sp_R_A {n p : Nat} {A B : List Int} (h : p < (sp_R n A B).length) : (sp_R n A B).eraseIdx p = sp_R n (A ++ [(sp_R n A B).getD p 0]) B := by
  rw [pu_er_filter _ _ (sp_R_nodup n A B) h]
  generalize (sp_R n A B).getD p 0 = x
  unfold sp_R
  rw [List.filter_filter]
  apply List.filter_congr
  intro y _
  by_cases c : y = x <;> simp [c]
theorem sp_R_B {n p : Nat} {A B : List Int} (h : p < (sp_R n A B).length) : (sp_R n A B).eraseIdx p = sp_R n A (B ++ [(sp_R n A B).getD p 0]) := by
  rw [pu_er_filter _ _ (sp_R_nodup n A B) h]
  generalize (sp_R n A B).getD p 0 = x
  unfold sp_R
  rw [List.filter_filter]
  apply List.filter_congr
  intro y _
  by_cases c : y = x <;> simp [c]
def sp_pe (d : Int → Int) : List Int → Int → Int → Int
  | [], b, _ => b
  | x :: t, b, v => if v < d x then sp_pe d t x (d x) else sp_pe d t b v
theorem sp_pe_pk (d : Int → Int) : ∀ (l pre : List Int) (bi : Nat) (b v : Int), (pre ++ l).getD bi 0 = b → sp_pe d l b v = (pre ++ l).getD (sp_pk d l pre.length bi v) 0 := by
  intro l
  induction l with
  | nil => intro pre bi b v h; exact h.symm
  | cons x t ih =>
    intro pre bi b v h
    have e : pre ++ x :: t = (pre ++ [x]) ++ t := by simp
    have el : (pre ++ [x]).length = pre.length + 1 := by simp
    unfold sp_pe sp_pk
    split
    · rw [e, ih (pre ++ [x]) pre.length x (d x) (by simp [List.getD]), el]
    · rw [e, ih (pre ++ [x]) bi b v (by rw [← e]; exact h), el]
theorem pu_abs (x : Int) : ((x.natAbs : Nat) : Int) = if x < 0 then -x else x := by
  split <;> omega
theorem pu_r64 {x : Int} (h1 : -9000000000 ≤ x) (h2 : x ≤ 9000000000) : vl_r64 x := ⟨by omega, by omega⟩
theorem pu_dif64 {x y : Int} (h1 : 0 ≤ x ∧ x ≤ 1073741824) (h2 : 0 ≤ y ∧ y ≤ 1073741824) : vl_r64 (x - y) ∧ vl_r64 (((x - y).natAbs : Nat) : Int) := by
  refine ⟨pu_r64 (by omega) (by omega), ?_⟩
  have := pu_nab (x := x - y) (B := 1073741824) (by omega) (by omega)
  generalize (((x - y).natAbs : Nat) : Int) = g at this
  exact pu_r64 (by omega) (by omega)
theorem d_bestL {N n : Nat} {r0 r : vl_M} {l c : Int} {ds : Int → Int} {f : Int → pR} {A B C : List Int} {κ : Int → Int → Int → Option (Int × vl_M)} (hk : dh_ok r0 l ds f n) (hA : A ≠ []) (hB : B ≠ []) (oA : r_ok (mbl f A)) (oB : r_ok (mbl f B)) (h : dh_I r0 r f n A B C) : ∀ (k fu : Nat) (i best v : Int), 0 ≤ i → i + (k : Int) = (n : Int) → k < fu → vl_r64 v → ∃ v', fn_X8_comeBest_L12 N r (n : Int) l c κ fu best v i = κ (sp_pe (sp_d f A B) ((pu_seq k i).filter (fun x => decide (x ∉ A ∧ x ∉ B))) best v) v' (n : Int) := by
  obtain ⟨k0, k1⟩ := hk
  obtain ⟨⟨h1, h2, h3⟩, ⟨p1, p2⟩, h4, h5, h6, h7, h8, h9⟩ := h
  intro k
  induction k with
  | zero =>
    intro fu i best v hi he hf hv
    obtain ⟨fu, rfl⟩ : ∃ x, fu = x + 1 := ⟨fu - 1, by omega⟩
    have e : i = (n : Int) := by omega
    refine ⟨v, ?_⟩
    rw [fn_X8_comeBest_L12, pu_gd ⟨by omega, by omega⟩, pu_gd ⟨by omega, by omega⟩, if_neg (by omega), e]
    rfl
  | succ k ih =>
    intro fu i best v hi he hf hv
    obtain ⟨fu, rfl⟩ : ∃ x, fu = x + 1 := ⟨fu - 1, by omega⟩
    obtain ⟨x1, x2, x3, x4⟩ := k1 i hi (by omega)
    obtain ⟨q1, q2, q3⟩ := h4 i hi (by omega)
    show ∃ v', _ = κ (sp_pe (sp_d f A B) ((i :: pu_seq k (i + 1)).filter _) best v) v' (n : Int)
    have r38 : vl_r32 (r 38 i) := by
      by_cases a : i ∈ A
      · rw [q1 a]; decide
      · by_cases b : i ∈ B
        · rw [q2 b]; decide
        · rw [q3 a b]; decide
    have z1 : vl_r32 i := ⟨by omega, by omega⟩
    have z2 : vl_r32 (n : Int) := ⟨by omega, by omega⟩
    have z3 : 0 ≤ i ∧ i < 11 := by omega
    have z4 : i < (n : Int) := by omega
    by_cases cc : i ∉ A ∧ i ∉ B
    · have g1 := d_growth (r := r) (p := 1) (l := l) (t := ds i) (q := f i) (Or.inl rfl) x2 (by rw [d_rt_congr (h1 25 (by omega)) (h1 29 (by omega))]; exact x3) x4 (by rw [p1 hA]; exact oA)
      have g2 := d_growth (r := r) (p := 2) (l := l) (t := ds i) (q := f i) (Or.inr rfl) x2 (by rw [d_rt_congr (h1 25 (by omega)) (h1 29 (by omega))]; exact x3) x4 (by rw [p2 hB]; exact oB)
      rw [p1 hA] at g1
      rw [p2 hB] at g2
      obtain ⟨y1, y2⟩ := pu_dif64 (r_gr_le oA x4) (r_gr_le oB x4)
      rw [fn_X8_comeBest_L12, pu_gd z1, pu_gd z2, if_pos z4, pu_gd z3, pu_gd r38, pu_jn, if_pos (q3 cc.1 cc.2), h1 37 (by omega), x1, g1, Option.bind_some, g2, Option.bind_some, pu_lt, pu_gd y1, pu_jn]
      rw [List.filter_cons_of_pos (by simpa using cc)]
      have ea : (if r_gr (mbl f A) (f i) - r_gr (mbl f B) (f i) < 0 then (fun v46 => vl_gd (vl_r64 v46) (vl_gd (vl_r64 v) (if v < v46 then (fun v38 v39 => vl_lt (i + 1) fun v41 => fn_X8_comeBest_L12 N r (n : Int) l c κ fu v38 v39 v41) i v46 else (fun v38 v39 => vl_lt (i + 1) fun v41 => fn_X8_comeBest_L12 N r (n : Int) l c κ fu v38 v39 v41) best v))) (-(r_gr (mbl f A) (f i) - r_gr (mbl f B) (f i))) else (fun v46 => vl_gd (vl_r64 v46) (vl_gd (vl_r64 v) (if v < v46 then (fun v38 v39 => vl_lt (i + 1) fun v41 => fn_X8_comeBest_L12 N r (n : Int) l c κ fu v38 v39 v41) i v46 else (fun v38 v39 => vl_lt (i + 1) fun v41 => fn_X8_comeBest_L12 N r (n : Int) l c κ fu v38 v39 v41) best v))) (r_gr (mbl f A) (f i) - r_gr (mbl f B) (f i))) = vl_gd (vl_r64 (sp_d f A B i)) (vl_gd (vl_r64 v) (if v < sp_d f A B i then fn_X8_comeBest_L12 N r (n : Int) l c κ fu i (sp_d f A B i) (i + 1) else fn_X8_comeBest_L12 N r (n : Int) l c κ fu best v (i + 1))) := by
        unfold sp_d
        rw [pu_abs]
        split <;> rfl
      have y3 : vl_r64 (sp_d f A B i) := y2
      rw [ea, pu_gd y3, pu_gd hv]
      unfold sp_pe
      by_cases cv : v < sp_d f A B i
      · rw [if_pos cv, if_pos cv]
        exact ih fu (i + 1) i _ (by omega) (by omega) (by omega) y3
      · rw [if_neg cv, if_neg cv]
        exact ih fu (i + 1) best v (by omega) (by omega) (by omega) hv
    · have hne : r 38 i ≠ 0 := by
        by_cases a : i ∈ A
        · rw [q1 a]; decide
        · by_cases b : i ∈ B
          · rw [q2 b]; decide
          · exact absurd ⟨a, b⟩ cc
      rw [fn_X8_comeBest_L12, pu_gd z1, pu_gd z2, if_pos z4, pu_gd z3, pu_gd r38, pu_jn, if_neg hne]
      rw [List.filter_cons_of_neg (by simpa using cc)]
      exact ih fu (i + 1) best v (by omega) (by omega) (by omega) hv
/-- the most decided one comes to the part that it fits -/
theorem dh_best {N n : Nat} {r0 r : vl_M} {l : Int} {ds : Int → Int} {f : Int → pR} {A B C : List Int} (hN : 100000 ≤ N) (hk : dh_ok r0 l ds f n) (hA : A ≠ []) (hB : B ≠ []) (hAn : ∀ y, y ∈ A → 0 ≤ y ∧ y < (n : Int)) (hBn : ∀ y, y ∈ B → 0 ≤ y ∧ y < (n : Int)) (hC : C.length < 11) {x : Int} (hx : x = (sp_R n A B).getD (sp_pk (sp_d f A B) (sp_R n A B) 0 0 (-1)) 0) (hr : sp_R n A B ≠ []) (h : dh_I r0 r f n A B C) :
    (sp_toA f A B x → ∃ r', fn_X8_comeBest N r (n : Int) l (C.length : Int) = some (((C ++ [x]).length : Int), r') ∧ dh_I r0 r' f n (A ++ [x]) B (C ++ [x])) ∧
    (¬ sp_toA f A B x → ∃ r', fn_X8_comeBest N r (n : Int) l (C.length : Int) = some (((C ++ [x]).length : Int), r') ∧ dh_I r0 r' f n A (B ++ [x]) (C ++ [x])) := by
  have oA : r_ok (mbl f A) := mbl_ok A hA (fun y hy => (hk.2 y (hAn y hy).1 (hAn y hy).2).2.2.2)
  have oB : r_ok (mbl f B) := mbl_ok B hB (fun y hy => (hk.2 y (hBn y hy).1 (hBn y hy).2).2.2.2)
  have hlt : sp_pk (sp_d f A B) (sp_R n A B) 0 0 (-1) < (sp_R n A B).length := by
    cases hR : sp_R n A B with
    | nil => exact absurd hR hr
    | cons y t => have := sp_pk_lt0 (d := sp_d f A B) (fun x => Int.natCast_nonneg _) y t; simpa using this
  have hxR : x ∈ sp_R n A B := by rw [hx]; exact (pu_perm_get hlt).mem_iff.mp List.mem_cons_self
  obtain ⟨hxn, hxA, hxB⟩ := sp_R_mem.mp hxR
  obtain ⟨x1, x2, x3, x4⟩ := hk.2 x hxn.1 hxn.2
  have hpe : sp_pe (sp_d f A B) (sp_R n A B) (-2) (-1) = x := by
    cases hR : sp_R n A B with
    | nil => exact absurd hR hr
    | cons y t =>
      rw [hR] at hx
      have hd : (-1 : Int) < sp_d f A B y := by have : 0 ≤ sp_d f A B y := Int.natCast_nonneg _; omega
      unfold sp_pe
      rw [if_pos hd]
      have := sp_pe_pk (sp_d f A B) t [y] 0 y (sp_d f A B y) rfl
      have e : sp_pk (sp_d f A B) (y :: t) 0 0 (-1) = sp_pk (sp_d f A B) t 1 0 (sp_d f A B y) := by
        show (if (-1 : Int) < sp_d f A B y then sp_pk (sp_d f A B) t (0 + 1) 0 (sp_d f A B y) else _) = _
        rw [if_pos hd]
      rw [this, hx, e]
      rfl
  obtain ⟨⟨h1, h2, h3⟩, ⟨p1, p2⟩, -⟩ := id h
  have hrt : d_rt r l (ds x) = f x := by rw [d_rt_congr (h1 25 (by omega)) (h1 29 (by omega))]; exact x3
  have g1 := d_growth (r := r) (p := 1) (l := l) (t := ds x) (q := f x) (Or.inl rfl) x2 hrt x4 (by rw [p1 hA]; exact oA)
  have g2 := d_growth (r := r) (p := 2) (l := l) (t := ds x) (q := f x) (Or.inr rfl) x2 hrt x4 (by rw [p2 hB]; exact oB)
  have a1 := d_partArea (r := r) (p := 1) (Or.inl rfl) (by rw [p1 hA]; exact oA)
  have a2 := d_partArea (r := r) (p := 2) (Or.inr rfl) (by rw [p2 hB]; exact oB)
  rw [p1 hA] at g1 a1
  rw [p2 hB] at g2 a2
  have y1 := (pu_dif64 (r_gr_le oA x4) (r_gr_le oB x4)).1
  have lA := r_ar_le oA
  have lB := r_ar_le oB
  have y2 : vl_r64 (r_ar (mbl f A) - r_ar (mbl f B)) := pu_r64 (by omega) (by omega)
  have hn11 := hk.1
  have hcl := h.2.2.2.2.1
  have y3 : vl_r32 ((A.length : Int) - (B.length : Int)) := ⟨by omega, by omega⟩
  have y4 : vl_r64 ((A.length : Int) - (B.length : Int)) := pu_r64 (by omega) (by omega)
  obtain ⟨v', hL⟩ := d_bestL (N := N) (c := (C.length : Int)) (κ := fun v4 v5 v6 => vl_gd (0 ≤ v4 ∧ v4 < 11) <| (fn_X8_growth r 1 l (r 37 v4)).bind fun b9 => (fn_X8_growth r 2 l (r 37 v4)).bind fun b10 => vl_lt ((b9 - b10)) fun v11 => vl_gd (vl_r64 v11) <| vl_jn (fun (v13 : Int) => vl_gd (vl_r64 v13) <| vl_jn (fun (v16 : Int) => vl_gd (vl_r64 v16) <| vl_jn (fun (v19 : Int) => (fn_X8_come N r v4 v19 l (C.length : Int)).bind <| vl_un fun b21 m22 => some (b21, m22)) fun κ20 => if 0 < v16 then (κ20 2) else κ20 1) fun κ17 => if v13 = 0 then (vl_gd (0 ≤ 0 ∧ 0 < 2) <| vl_gd (0 ≤ 1 ∧ 1 < 2) <| vl_gd (vl_r32 ((r 41 0) - (r 41 1))) <| κ17 ((r 41 0) - (r 41 1))) else κ17 v13) fun κ14 => if v11 = 0 then ((fn_X8_partArea r 1).bind fun b30 => (fn_X8_partArea r 2).bind fun b31 => κ14 (b30 - b31)) else κ14 v11) hk hA hB oA oB h n N 0 (-2) (-1) (by omega) (by omega) (by omega) ⟨by decide, by decide⟩
  have hbest : fn_X8_comeBest N r (n : Int) l (C.length : Int) = (if 0 < (if r_gr (mbl f A) (f x) - r_gr (mbl f B) (f x) = 0 then (if r_ar (mbl f A) - r_ar (mbl f B) = 0 then (A.length : Int) - (B.length : Int) else r_ar (mbl f A) - r_ar (mbl f B)) else r_gr (mbl f A) (f x) - r_gr (mbl f B) (f x)) then (fn_X8_come N r x 2 l (C.length : Int)).bind (vl_un fun b21 m22 => some (b21, m22)) else (fn_X8_come N r x 1 l (C.length : Int)).bind (vl_un fun b21 m22 => some (b21, m22))) := by
    unfold fn_X8_comeBest
    refine Eq.trans hL ?_
    have e : (pu_seq n 0).filter (fun x => decide (x ∉ A ∧ x ∉ B)) = sp_R n A B := rfl
    rw [e, hpe]
    rw [pu_gd ⟨by omega, by omega⟩, h1 37 (by omega), x1, g1, Option.bind_some, g2, Option.bind_some, pu_lt, pu_gd y1, pu_jn]
    by_cases c1 : r_gr (mbl f A) (f x) - r_gr (mbl f B) (f x) = 0
    · rw [if_pos c1, if_pos c1, a1, Option.bind_some, a2, Option.bind_some]
      dsimp only
      rw [pu_gd y2, pu_jn]
      by_cases c2 : r_ar (mbl f A) - r_ar (mbl f B) = 0
      · rw [if_pos c2, if_pos c2, pu_gd (by decide), pu_gd (by decide), h2, h3, pu_gd y3]
        dsimp only
        rw [pu_gd y4, pu_jn]
      · rw [if_neg c2, if_neg c2]
        dsimp only
        rw [pu_gd y2, pu_jn]
    · rw [if_neg c1, if_neg c1]
      dsimp only
      rw [pu_gd y1, pu_jn, if_neg c1]
      dsimp only
      rw [pu_gd y1, pu_jn]
  have hd : sp_toA f A B x ↔ ¬ 0 < (if r_gr (mbl f A) (f x) - r_gr (mbl f B) (f x) = 0 then (if r_ar (mbl f A) - r_ar (mbl f B) = 0 then (A.length : Int) - (B.length : Int) else r_ar (mbl f A) - r_ar (mbl f B)) else r_gr (mbl f A) (f x) - r_gr (mbl f B) (f x)) := by
    unfold sp_toA
    split
    · split
      · constructor
        · intro z; omega
        · intro z; exact Or.inr ⟨by omega, Or.inr ⟨by omega, by omega⟩⟩
      · constructor
        · intro z; omega
        · intro z; exact Or.inr ⟨by omega, Or.inl (by omega)⟩
    · constructor
      · intro z; omega
      · intro z; exact Or.inl (by omega)
  rw [hbest]
  constructor
  · intro z
    rw [if_neg (hd.mp z)]
    obtain ⟨r', b1, b2⟩ := dh_A hN hk hxn hxA hxB hC hAn h
    exact ⟨r', by rw [b1]; rfl, b2⟩
  · intro z
    rw [if_pos (Classical.byContradiction (fun y => z (hd.mpr y)))]
    obtain ⟨r', b1, b2⟩ := dh_B hN hk hxn hxA hxB hC hBn h
    exact ⟨r', by rw [b1]; rfl, b2⟩
