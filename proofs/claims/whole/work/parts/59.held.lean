/-! ===== PURE, 20: the reference's two parts are held and measured ===== -/
def dg_J (r0 r : vl_M) (a o : Int) (ds : Int → Int) (L : Int) (A B : List Int) : Prop :=
  ((∀ h : Nat, h ≠ 27 → h ≠ 28 → h ≠ 30 → r h = r0 h) ∧ ((r 27 a = (A.length : Int) ∧ r 27 o = (B.length : Int)) ∧ ∀ u, u ≠ a → u ≠ o → r 27 u = r0 27 u)) ∧
  (((∀ (i : Nat) x, A[i]? = some x → d_k r a (i : Int) = ds x) ∧ (∀ (i : Nat) x, B[i]? = some x → d_k r o (i : Int) = ds x)) ∧ ∀ u i, u ≠ a → u ≠ o → 0 ≤ i → i < 11 → d_k r u i = d_k r0 u i) ∧
  ((0 < L → (∀ x, x ∈ A → r 30 (ds x) = a) ∧ (∀ x, x ∈ B → r 30 (ds x) = o)) ∧ ∀ u, (0 < L → (∀ x, x ∈ A → u ≠ ds x) ∧ (∀ x, x ∈ B → u ≠ ds x)) → r 30 u = r0 30 u)
theorem dg_sym {r0 r : vl_M} {a o : Int} {ds : Int → Int} {L : Int} {A B : List Int} (h : dg_J r0 r a o ds L A B) : dg_J r0 r o a ds L B A := by
  obtain ⟨⟨h1, ⟨h2, h3⟩, h4⟩, ⟨⟨k1, k2⟩, k3⟩, p1, p2⟩ := h
  exact ⟨⟨h1, ⟨h3, h2⟩, fun u x y => h4 u y x⟩, ⟨⟨k2, k1⟩, fun u i x y => k3 u i y x⟩, fun z => ⟨(p1 z).2, (p1 z).1⟩, fun u z => p2 u (fun y => ⟨(z y).2, (z y).1⟩)⟩
theorem dg_app {r0 r : vl_M} {a o : Int} {ds : Int → Int} {L x : Int} {A B : List Int} (hao : a ≠ o) (hL : r0 26 a = L) (hA : A.length < 11) (hB : B.length ≤ 11) (hx : ∀ y, (y ∈ A ∨ y ∈ B) → ds y ≠ ds x) (h : dg_J r0 r a o ds L A B) : dg_J r0 (d_app r a (ds x)) a o ds L (A ++ [x]) B := by
  obtain ⟨⟨h1, ⟨h2, h3⟩, h4⟩, ⟨⟨k1, k2⟩, k3⟩, p1, p2⟩ := h
  have hc : 0 ≤ r 27 a ∧ r 27 a < 11 := by omega
  have e26 : r 26 a = L := by rw [h1 26 (by decide) (by decide) (by decide)]; exact hL
  refine ⟨⟨fun h q1 q2 q3 => by rw [d_app_h _ _ _ q2 q1 q3]; exact h1 h q1 q2 q3, ⟨?_, ?_⟩, ?_⟩, ⟨⟨?_, ?_⟩, ?_⟩, ?_, ?_⟩
  · rw [d_app_27, if_pos rfl, h2, List.length_append]; simp
  · rw [d_app_27, if_neg (Ne.symm hao)]; exact h3
  · intro u u1 u2; rw [d_app_27, if_neg u1]; exact h4 u u1 u2
  · intro i y q
    have hi := (List.getElem?_eq_some_iff.mp q).1
    rw [List.length_append, List.length_singleton] at hi
    rw [d_app_k hc ⟨by omega, by omega⟩]
    by_cases c : i < A.length
    · rw [if_neg (by omega)]
      rw [List.getElem?_append_left c] at q
      exact k1 i y q
    · have e : i = A.length := by omega
      rw [if_pos ⟨rfl, by omega⟩]
      rw [e, List.getElem?_append_right (Nat.le_refl _)] at q
      simp at q
      rw [q]
  · intro i y q
    have hi := (List.getElem?_eq_some_iff.mp q).1
    rw [d_app_k hc ⟨by omega, by omega⟩, if_neg (fun z => hao z.1.symm)]
    exact k2 i y q
  · intro u i u1 u2 i1 i2
    rw [d_app_k hc ⟨i1, i2⟩, if_neg (fun z => u1 z.1)]
    exact k3 u i u1 u2 i1 i2
  · intro hl
    obtain ⟨q1, q2⟩ := p1 hl
    refine ⟨fun y hy => ?_, fun y hy => ?_⟩
    · rw [d_app_30, e26]
      rcases List.mem_append.mp hy with hy | hy
      · rw [if_neg (fun z => hx y (Or.inl hy) z.2)]; exact q1 y hy
      · simp at hy; rw [hy, if_pos ⟨hl, rfl⟩]
    · rw [d_app_30, if_neg (fun z => hx y (Or.inr hy) z.2)]; exact q2 y hy
  · intro u hu
    rw [d_app_30, e26, if_neg (fun z => (hu z.1).1 x (by simp) z.2)]
    exact p2 u (fun z => ⟨fun y hy => (hu z).1 y (by simp [hy]), (hu z).2⟩)
theorem dg_L {N : Nat} {r0 : vl_M} {a o L : Int} {ds : Int → Int} {n : Nat} {A C : List Int} {κ : Int → vl_M → Option vl_M} (ha : d_nd a) (ho : d_nd o) (hao : a ≠ o) (hLa : r0 26 a = L) (hLo : r0 26 o = L) (hL : vl_r32 L) (hn : n ≤ 11) (hC : C.length = n) (hx : ∀ x, x ∈ C → (0 ≤ x ∧ x < 11) ∧ r0 37 x = ds x ∧ (x ∈ A → r0 38 x = 1) ∧ (x ∉ A → r0 38 x = 2) ∧ (0 < L → 0 ≤ ds x ∧ ds x < 500)) (hc : ∀ (k : Nat) x, C[k]? = some x → r0 39 (k : Int) = x) (hinj : ∀ x y, x ∈ C → y ∈ C → ds x = ds y → x = y) : ∀ (Cr : List Int) (k fu : Nat) (PA PB : List Int) (r : vl_M), C.drop k = Cr → k + Cr.length = n → Cr.Nodup → Cr.length < fu → PA.length + PB.length + Cr.length ≤ 11 → (∀ y, (y ∈ PA ∨ y ∈ PB) → y ∈ C ∧ y ∉ Cr) → dg_J r0 r a o ds L PA PB →
    ∃ r', fn_X8_split_L364 N a (n : Int) o κ fu (k : Int) r = κ (n : Int) r' ∧ dg_J r0 r' a o ds L (PA ++ Cr.filter (fun x => decide (x ∈ A))) (PB ++ Cr.filter (fun x => decide (x ∉ A))) := by
  intro Cr
  induction Cr with
  | nil =>
    intro k fu PA PB r hd hk hnd hf hl hp h
    obtain ⟨fu, rfl⟩ : ∃ x, fu = x + 1 := ⟨fu - 1, by omega⟩
    simp only [List.length_nil] at hk
    refine ⟨r, ?_, by simpa using h⟩
    rw [fn_X8_split_L364, pu_gd ⟨by omega, by omega⟩, pu_gd ⟨by omega, by omega⟩, if_neg (by omega), show ((k : Nat) : Int) = (n : Int) by omega]
  | cons x t ih =>
    intro k fu PA PB r hd hk hnd hf hl hp h
    obtain ⟨fu, rfl⟩ : ∃ x, fu = x + 1 := ⟨fu - 1, by omega⟩
    simp only [List.length_cons] at hk hf hl
    obtain ⟨n1, n2⟩ := List.nodup_cons.mp hnd
    have hxk : C[k]? = some x := by
      have := congrArg (fun q => q[0]?) hd
      simpa using this
    have hd2 : C.drop (k + 1) = t := by
      have := congrArg List.tail hd
      rw [List.tail_drop] at this
      simpa using this
    have hxC : x ∈ C := List.mem_of_getElem? hxk
    obtain ⟨x1, x2, x3, x4, x5⟩ := hx x hxC
    obtain ⟨⟨h1, ⟨h2, h3⟩, h4⟩, -⟩ := id h
    have e39 : r 39 (k : Int) = x := by rw [h1 39 (by decide) (by decide) (by decide)]; exact hc k x hxk
    have e37 : r 37 x = ds x := by rw [h1 37 (by decide) (by decide) (by decide)]; exact x2
    have e38 : r 38 x = r0 38 x := by rw [h1 38 (by decide) (by decide) (by decide)]
    have ek : ((k : Int) + 1) = ((k + 1 : Nat) : Int) := by omega
    have hpx : ∀ y, (y ∈ PA ∨ y ∈ PB) → ds y ≠ ds x := fun y hy z => by
      obtain ⟨q1, q2⟩ := hp y hy
      exact q2 (by rw [hinj y x q1 hxC z]; exact List.mem_cons_self)
    rw [fn_X8_split_L364, pu_gd ⟨by omega, by omega⟩, pu_gd ⟨by omega, by omega⟩, if_pos (by omega), pu_gd ⟨by omega, by omega⟩, e39, pu_gd x1, e38, e37]
    by_cases cA : x ∈ A
    · rw [x3 cA, pu_gd (by decide), pu_jn, if_pos rfl]
      dsimp only
      rw [d_hold ha ⟨by omega, by omega⟩ (by rw [h1 26 (by decide) (by decide) (by decide), hLa]; exact hL) (by rw [h1 26 (by decide) (by decide) (by decide), hLa]; exact x5), Option.bind_some, pu_lt, ek]
      have hstep := dg_app (x := x) hao hLa (by omega) (by omega) hpx h
      obtain ⟨r', b1, b2⟩ := ih (k + 1) fu (PA ++ [x]) PB _ hd2 (by omega) n2 (by omega) (by rw [List.length_append, List.length_singleton]; omega) (fun y hy => by
        rcases hy with hy | hy
        · rcases List.mem_append.mp hy with hy | hy
          · obtain ⟨q1, q2⟩ := hp y (Or.inl hy)
            exact ⟨q1, fun z => q2 (List.mem_cons_of_mem _ z)⟩
          · simp at hy; rw [hy]; exact ⟨hxC, n1⟩
        · obtain ⟨q1, q2⟩ := hp y (Or.inr hy)
          exact ⟨q1, fun z => q2 (List.mem_cons_of_mem _ z)⟩) hstep
      refine ⟨r', b1, ?_⟩
      rw [List.filter_cons_of_pos (by simpa using cA), List.filter_cons_of_neg (by simpa using cA)]
      simpa using b2
    · rw [x4 cA, pu_gd (by decide), pu_jn, if_neg (by decide)]
      dsimp only
      rw [d_hold ho ⟨by omega, by omega⟩ (by rw [h1 26 (by decide) (by decide) (by decide), hLo]; exact hL) (by rw [h1 26 (by decide) (by decide) (by decide), hLo]; exact x5), Option.bind_some, pu_lt, ek]
      have hstep := dg_sym (dg_app (x := x) (Ne.symm hao) hLo (by omega) (by omega) (fun y hy => hpx y hy.symm) (dg_sym h))
      obtain ⟨r', b1, b2⟩ := ih (k + 1) fu PA (PB ++ [x]) _ hd2 (by omega) n2 (by omega) (by rw [List.length_append, List.length_singleton]; omega) (fun y hy => by
        rcases hy with hy | hy
        · obtain ⟨q1, q2⟩ := hp y (Or.inl hy)
          exact ⟨q1, fun z => q2 (List.mem_cons_of_mem _ z)⟩
        · rcases List.mem_append.mp hy with hy | hy
          · obtain ⟨q1, q2⟩ := hp y (Or.inr hy)
            exact ⟨q1, fun z => q2 (List.mem_cons_of_mem _ z)⟩
          · simp at hy; rw [hy]; exact ⟨hxC, n1⟩) hstep
      refine ⟨r', b1, ?_⟩
      rw [List.filter_cons_of_neg (by simpa using cA), List.filter_cons_of_pos (by simpa using cA)]
      simpa using b2
/-- a node is measured that holds the things of a list -/
theorem d_meaL {N : Nat} {r : vl_M} {a L : Int} {ds : Int → Int} {f : Int → pR} {A : List Int} (hN : 100000 ≤ N) (ha : d_nd a) (hA : A ≠ []) (h27 : r 27 a = (A.length : Int)) (hl : A.length ≤ 11) (h26 : r 26 a = L) (hL : 0 ≤ L ∧ L < 1000) (hk : ∀ (i : Nat) x, A[i]? = some x → d_k r a (i : Int) = ds x) (hx : ∀ x, x ∈ A → d_in (L - 1) (ds x) ∧ (L - 1 < 0 ∨ ds x ≠ a) ∧ d_rt r (L - 1) (ds x) = f x ∧ r_ok (f x)) : fn_X8_measure N r a = some (d_set r a (mbl f A)) := by
  have hget : ∀ i : Int, 0 ≤ i → i < (A.length : Int) → ∃ x, x ∈ A ∧ A[i.toNat]? = some x ∧ d_k r a i = ds x := fun i i1 i2 => by
    have hi : i.toNat < A.length := by omega
    refine ⟨A[i.toNat], List.getElem_mem hi, List.getElem?_eq_getElem hi, ?_⟩
    have := hk i.toNat _ (List.getElem?_eq_getElem hi)
    rw [show ((i.toNat : Nat) : Int) = i by omega] at this
    exact this
  have hme : d_me r a := ⟨ha, ⟨by omega, by omega⟩, ⟨by omega, by omega⟩, fun i i1 i2 => by
    obtain ⟨x, x1, -, x2⟩ := hget i i1 (by omega)
    obtain ⟨q1, q2, q3, q4⟩ := hx x x1
    rw [h26, x2, q3]
    exact ⟨q1, q2, q4⟩⟩
  have hpos : 0 < A.length := List.length_pos_iff.mpr hA
  rw [d_measure hN hme]
  unfold d_mea
  rw [if_neg (by omega)]
  congr 2
  refine r_is_uni (r_is_congr (fun p => ?_) (r_mb_is (d_f r a) (r 27 a - 1).toNat)) (mbl_is f A hA)
  constructor
  · rintro ⟨i, i1, i2, e⟩
    obtain ⟨x, x1, -, x2⟩ := hget i i1 (by omega)
    refine ⟨x, x1, ?_⟩
    rw [e]
    unfold d_f
    rw [h26, x2]
    exact (hx x x1).2.2.1
  · rintro ⟨x, x1, e⟩
    obtain ⟨i, hi⟩ := List.getElem?_of_mem x1
    have hil := (List.getElem?_eq_some_iff.mp hi).1
    refine ⟨(i : Int), by omega, by omega, ?_⟩
    rw [e]
    unfold d_f
    rw [h26, hk i x hi]
    exact (hx x x1).2.2.1.symm
