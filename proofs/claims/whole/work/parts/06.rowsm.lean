section VLM
variable {nc : Nat} {S : vl_Sh} {sc : Nat × (Nat → Int32)} {K : vl_K} {d : Nat} {Post : Int → vl_M → vl_M → Prop} {pc : Nat} {lv : List (Nat × Value)} {st : List Value} {μ ρ : vl_M}
theorem vl_ws_get {cA : ClassId} {ad : Nat → Nat} {h : Nat} (hh : h < nc) : (vl_ws nc S cA ad μ ρ)[h]? = some (ad h, vl_cell S cA ad μ ρ h) := by
  simp [vl_ws, hh]
theorem vl_ws_arr {cA : ClassId} {ad : Nat → Nat} {h n : Nat} (hh : h < nc) (hS : S h = .inl n) : (vl_ws nc S cA ad μ ρ)[h]? = some (ad h, .inl (cA, n, .inl (fun j => Int32.ofInt (vl_g μ ρ h (j : Int))))) := by
  rw [vl_ws_get hh]; simp only [vl_cell, hS]
theorem vl_ws_obj {cA : ClassId} {ad : Nat → Nat} {h ci : Nat} {cs : List Nat} (hh : h < nc) (hS : S h = .inr (ci, cs)) : (vl_ws nc S cA ad μ ρ)[h]? = some (ad h, .inr (ci, cs.mapIdx (fun k c => vl_fv ad (vl_g μ ρ h (k : Int)) c))) := by
  rw [vl_ws_get hh]; simp only [vl_cell, hS]
theorem vl_set {cA : ClassId} {ad : Nat → Nat} {μ' ρ' : vl_M} {h : Nat} {e : va_E} (hh : h < nc) (h1 : vl_cell S cA ad μ' ρ' h = e) (h2 : ∀ k, k ≠ h → vl_cell S cA ad μ' ρ' k = vl_cell S cA ad μ ρ k) : (vl_ws nc S cA ad μ ρ).set h (ad h, e) = vl_ws nc S cA ad μ' ρ' := by
  apply List.ext_getElem?
  intro k
  by_cases hk : k = h
  · subst hk
    rw [List.getElem?_set_self (by simp [vl_ws, hh]), vl_ws_get hh, h1]
  · rw [List.getElem?_set_ne (Ne.symm hk)]
    by_cases hkn : k < nc
    · rw [vl_ws_get hkn, vl_ws_get hkn, h2 k hk]
    · rw [List.getElem?_eq_none (by simp [vl_ws]; omega), List.getElem?_eq_none (by simp [vl_ws]; omega)]
theorem vl_cell_eq {cA : ClassId} {ad : Nat → Nat} {μ' ρ' : vl_M} {k : Nat} (h : ∀ j : Int, vl_g μ' ρ' k j = vl_g μ ρ k j) : vl_cell S cA ad μ' ρ' k = vl_cell S cA ad μ ρ k := by
  unfold vl_cell
  simp only [h]
theorem vl_g_c {h : Nat} (hh : h < 23) (j : Int) : vl_g μ ρ h j = μ h j := by simp [vl_g, hh]
theorem vl_g_r {h : Nat} (hh : 23 ≤ h) (j : Int) : vl_g μ ρ h j = ρ h j := by simp [vl_g, Nat.not_lt.mpr hh]
theorem vl_g_upc {h : Nat} (hh : h < 23) (i v : Int) (k : Nat) (j : Int) : vl_g (vl_up μ h i v) ρ k j = if k = h ∧ j = i then v else vl_g μ ρ k j := by
  unfold vl_g vl_up
  by_cases hk : k < 23
  · simp [hk]
  · have : ¬ k = h := by omega
    simp [hk, this]
theorem vl_g_upr {h : Nat} (hh : 23 ≤ h) (i v : Int) (k : Nat) (j : Int) : vl_g μ (vl_up ρ h i v) k j = if k = h ∧ j = i then v else vl_g μ ρ k j := by
  unfold vl_g vl_up
  by_cases hk : k < 23
  · have : ¬ k = h := by omega
    simp [hk, this]
  · simp [hk]
/-- an array's place is written -/
theorem vl_set_arr {cA : ClassId} {ad : Nat → Nat} {μ' ρ' : vl_M} {h n : Nat} {i v : Int} {a : Nat} (hh : h < nc) (hS : S h = .inl n) (ha : (a : Int) = i) (hg : ∀ (k : Nat) (j : Int), vl_g μ' ρ' k j = if k = h ∧ j = i then v else vl_g μ ρ k j) :
    (vl_ws nc S cA ad μ ρ).set h (ad h, .inl (cA, n, .inl (upd (fun j => Int32.ofInt (vl_g μ ρ h (j : Int))) a (Int32.ofInt v)))) = vl_ws nc S cA ad μ' ρ' := by
  refine vl_set hh ?_ (fun k hk => vl_cell_eq (fun j => by rw [hg]; simp [hk]))
  simp only [vl_cell, hS]
  congr 4
  funext j
  rw [hg]
  unfold upd
  by_cases hj : j = a
  · subst hj; simp [ha]
  · have : ¬ (j : Int) = i := by omega
    simp [hj, this]
/-- an object's field is written -/
theorem vl_set_obj {cA : ClassId} {ad : Nat → Nat} {μ' ρ' : vl_M} {h ci k0 : Nat} {cs : List Nat} {v : Int} {c0 : Nat} (hh : h < nc) (hS : S h = .inr (ci, cs)) (hk0 : cs[k0]? = some c0) (hg : ∀ (k : Nat) (j : Int), vl_g μ' ρ' k j = if k = h ∧ j = (k0 : Int) then v else vl_g μ ρ k j) :
    (vl_ws nc S cA ad μ ρ).set h (ad h, .inr (ci, (cs.mapIdx (fun k c => vl_fv ad (vl_g μ ρ h (k : Int)) c)).set k0 (vl_fv ad v c0))) = vl_ws nc S cA ad μ' ρ' := by
  refine vl_set hh ?_ (fun k hk => vl_cell_eq (fun j => by rw [hg]; simp [hk]))
  simp only [vl_cell, hS]
  congr 2
  apply List.ext_getElem?
  intro j
  by_cases hj : j = k0
  · subst hj
    rw [List.getElem?_set_self (by rw [List.length_mapIdx]; exact (List.getElem?_eq_some_iff.mp hk0).1), List.getElem?_mapIdx, hk0]
    simp [hg]
  · rw [List.getElem?_set_ne (Ne.symm hj), List.getElem?_mapIdx, List.getElem?_mapIdx]
    cases cs[j]? with
    | none => rfl
    | some c =>
      have : ¬ (j : Int) = (k0 : Int) := by omega
      simp [hg, this]
/-- a field is read: int, long, a cell -/
theorem vl_get {T : u_T} {N ci h k0 c0 index : Nat} {cs : List Nat} {C : String} {v : Value} (hin : ∀ w ∈ u_ws C T N, w ∈ vl_tbl) (hh : h < nc) (hS : S h = .inr (ci, cs)) (hc : vwCl[ci]? = some (C, T, N)) (hk : k0 < N) (hlink : Cond.fieldLink K.1.cls index (T k0).1 (T k0).2.1 (T k0).2.2.1 ∈ vl_tbl) (hk0 : cs[k0]? = some c0)
    (hd : decode K.2.1 pc = .ok (.getfield index, 3)) (hv : ∀ ad, vl_fv ad (vl_g μ ρ h (k0 : Int)) c0 = vl_rz ad v) (k : vl_V nc S sc K d Post (pc + 3) lv (v :: st) μ ρ) : vl_V nc S sc K d Post pc lv (.ref h :: st) μ ρ :=
  fun p l e R s m args below meth c H locs cells slots Q D cA ad A ls hC hcs hR hl hret =>
    va_get (D := D) (v := vl_rz ad v) hC.1 hC.2.1 hC.2.2.2.2.1 hin hC.2.2.2.1 hR.2.2.1 hR.1 h (vl_ws_obj hh hS) hc k0 hk (hC.2.2.2.2.1 _ hlink) (fun _ h9 => h9) (by rw [List.getElem?_mapIdx, hk0]; exact congrArg some (hv ad)) hd
      (k p l e R s m args below meth c H locs cells slots Q D cA ad A ls hC hcs hR hl hret)
theorem vl_getIc {T : u_T} {N ci h k0 index : Nat} {cs : List Nat} {C : String} (hin : ∀ w ∈ u_ws C T N, w ∈ vl_tbl) (hh : h < nc) (h3 : h < 23) (hS : S h = .inr (ci, cs)) (hc : vwCl[ci]? = some (C, T, N)) (hk : k0 < N) (hlink : Cond.fieldLink K.1.cls index (T k0).1 (T k0).2.1 (T k0).2.2.1 ∈ vl_tbl) (hk0 : cs[k0]? = some 0) {ki : Int} (hki : ((k0 : Nat) : Int) = ki)
    (hd : decode K.2.1 pc = .ok (.getfield index, 3)) (k : vl_V nc S sc K d Post (pc + 3) lv (vl_iv (μ h ki) :: st) μ ρ) : vl_V nc S sc K d Post pc lv (.ref h :: st) μ ρ := by
  subst hki
  exact vl_get hin hh hS hc hk hlink hk0 hd (fun ad => by rw [vl_g_c h3]; rfl) k
theorem vl_getIr {T : u_T} {N ci h k0 index : Nat} {cs : List Nat} {C : String} (hin : ∀ w ∈ u_ws C T N, w ∈ vl_tbl) (hh : h < nc) (h3 : 23 ≤ h) (hS : S h = .inr (ci, cs)) (hc : vwCl[ci]? = some (C, T, N)) (hk : k0 < N) (hlink : Cond.fieldLink K.1.cls index (T k0).1 (T k0).2.1 (T k0).2.2.1 ∈ vl_tbl) (hk0 : cs[k0]? = some 0) {ki : Int} (hki : ((k0 : Nat) : Int) = ki)
    (hd : decode K.2.1 pc = .ok (.getfield index, 3)) (k : vl_V nc S sc K d Post (pc + 3) lv (vl_iv (ρ h ki) :: st) μ ρ) : vl_V nc S sc K d Post pc lv (.ref h :: st) μ ρ := by
  subst hki
  exact vl_get hin hh hS hc hk hlink hk0 hd (fun ad => by rw [vl_g_r h3]; rfl) k
theorem vl_getJr {T : u_T} {N ci h k0 index : Nat} {cs : List Nat} {C : String} (hin : ∀ w ∈ u_ws C T N, w ∈ vl_tbl) (hh : h < nc) (h3 : 23 ≤ h) (hS : S h = .inr (ci, cs)) (hc : vwCl[ci]? = some (C, T, N)) (hk : k0 < N) (hlink : Cond.fieldLink K.1.cls index (T k0).1 (T k0).2.1 (T k0).2.2.1 ∈ vl_tbl) (hk0 : cs[k0]? = some 1) {ki : Int} (hki : ((k0 : Nat) : Int) = ki)
    (hd : decode K.2.1 pc = .ok (.getfield index, 3)) (k : vl_V nc S sc K d Post (pc + 3) lv (vl_jv (ρ h ki) :: st) μ ρ) : vl_V nc S sc K d Post pc lv (.ref h :: st) μ ρ := by
  subst hki
  exact vl_get hin hh hS hc hk hlink hk0 hd (fun ad => by rw [vl_g_r h3]; rfl) k
theorem vl_getR {T : u_T} {N ci h k0 h2 index : Nat} {cs : List Nat} {C : String} (hin : ∀ w ∈ u_ws C T N, w ∈ vl_tbl) (hh : h < nc) (hS : S h = .inr (ci, cs)) (hc : vwCl[ci]? = some (C, T, N)) (hk : k0 < N) (hlink : Cond.fieldLink K.1.cls index (T k0).1 (T k0).2.1 (T k0).2.2.1 ∈ vl_tbl) (hk0 : cs[k0]? = some (h2 + 3))
    (hd : decode K.2.1 pc = .ok (.getfield index, 3)) (k : vl_V nc S sc K d Post (pc + 3) lv (.ref h2 :: st) μ ρ) : vl_V nc S sc K d Post pc lv (.ref h :: st) μ ρ :=
  vl_get hin hh hS hc hk hlink hk0 hd (fun ad => rfl) k
/-- a field is written -/
theorem vl_put {α : Type} {P : α → Prop} {T : u_T} {ty0 : Nat → FieldType} {N ci h k0 c0 index : Nat} {cs : List Nat} {C : String} {v : Value} {x : Int} {μ' ρ' : vl_M} {E : Option α} (hin : ∀ w ∈ u_ws C T N, w ∈ vl_tbl) (hty : ∀ k, k < N → parseFieldDescriptor (T k).2.2.1 = some (ty0 k)) (hnm : ∀ a, a < N → ∀ b, b < N → a ≠ b → (T a).2.1 ≠ (T b).2.1) (hh : h < nc) (hS : S h = .inr (ci, cs)) (hc : vwCl[ci]? = some (C, T, N)) (hk : k0 < N) (hlink : Cond.fieldLink K.1.cls index (T k0).1 (T k0).2.1 (T k0).2.2.1 ∈ vl_tbl) (hfin : (T k0).2.2.2 = false) (hk0 : cs[k0]? = some c0)
    (hn : narrow (ty0 k0) v = v) (hfit : fits (ty0 k0) v = true) (hv : ∀ ad, vl_fv ad x c0 = v ∧ vl_rz ad v = v) (hd : decode K.2.1 pc = .ok (.putfield index, 3)) (hg : ∀ (k : Nat) (j : Int), vl_g μ' ρ' k j = if k = h ∧ j = (k0 : Int) then x else vl_g μ ρ k j) (hE : vl_ok P E) (k : vl_ok P E → vl_V nc S sc K d Post (pc + 3) lv st μ' ρ') : vl_V nc S sc K d Post pc lv (v :: .ref h :: st) μ ρ :=
  fun p l e R s m args below meth c H locs cells slots Q D cA ad A ls hC hcs hR hl hret => by
    show W p l e R s m args below meth c H locs cells slots Q (F0 m pc ls (vl_rz ad v :: .ref (ad h) :: st.map (vl_rz ad)))
    rw [(hv ad).2]
    refine va_put (D := D) (v := v) (ty := ty0 k0) hC.1 hC.2.1 hC.2.2.2.2.1 hin ty0 hty hnm hC.2.2.2.1 hR.2.2.1 hR.1 hR.2.1 hR.2.2.2.1 h (vl_ws_obj hh hS) hc k0 hk (hC.2.2.2.2.1 _ hlink) (fun _ h9 => h9) hfin (hty k0 hk) hn hfit (by rw [List.length_mapIdx]; exact (List.getElem?_eq_some_iff.mp hk0).1) hd (fun H1 locs1 hP hD hS1 => ?_)
    rw [← (hv ad).1, vl_set_obj hh hS hk0 hg] at hP hD
    exact k hE p l e R s m args below meth c H1 locs1 cells slots Q D cA ad A ls hC hcs ⟨hP, hD, hR.2.2.1, hS1, hR.2.2.2.2⟩ hl hret
theorem vl_putIc {α : Type} {P : α → Prop} {T : u_T} {ty0 : Nat → FieldType} {N ci h k0 index : Nat} {cs : List Nat} {C : String} {x : Int} {E : vl_M → Option α} (hin : ∀ w ∈ u_ws C T N, w ∈ vl_tbl) (hty : ∀ k, k < N → parseFieldDescriptor (T k).2.2.1 = some (ty0 k)) (hnm : ∀ a, a < N → ∀ b, b < N → a ≠ b → (T a).2.1 ≠ (T b).2.1) (hh : h < nc) (h3 : h < 23) (hS : S h = .inr (ci, cs)) (hc : vwCl[ci]? = some (C, T, N)) (hk : k0 < N) (hlink : Cond.fieldLink K.1.cls index (T k0).1 (T k0).2.1 (T k0).2.2.1 ∈ vl_tbl) (hfin : (T k0).2.2.2 = false) (hk0 : cs[k0]? = some 0) {ki : Int} (hki : ((k0 : Nat) : Int) = ki)
    (hn : narrow (ty0 k0) (vl_iv x) = vl_iv x ∧ fits (ty0 k0) (vl_iv x) = true) (hd : decode K.2.1 pc = .ok (.putfield index, 3)) (hE : vl_ok P (vl_lt (vl_up μ h ki x) E)) (k : ∀ μ, vl_ok P (E μ) → vl_V nc S sc K d Post (pc + 3) lv st μ ρ) : vl_V nc S sc K d Post pc lv (vl_iv x :: .ref h :: st) μ ρ := by
  subst hki
  exact vl_put (x := x) (c0 := 0) hin hty hnm hh hS hc hk hlink hfin hk0 hn.1 hn.2 (fun ad => ⟨rfl, rfl⟩) hd (vl_g_upc h3 _ _) hE (k _)
theorem vl_putIr {α : Type} {P : α → Prop} {T : u_T} {ty0 : Nat → FieldType} {N ci h k0 index : Nat} {cs : List Nat} {C : String} {x : Int} {E : vl_M → Option α} (hin : ∀ w ∈ u_ws C T N, w ∈ vl_tbl) (hty : ∀ k, k < N → parseFieldDescriptor (T k).2.2.1 = some (ty0 k)) (hnm : ∀ a, a < N → ∀ b, b < N → a ≠ b → (T a).2.1 ≠ (T b).2.1) (hh : h < nc) (h3 : 23 ≤ h) (hS : S h = .inr (ci, cs)) (hc : vwCl[ci]? = some (C, T, N)) (hk : k0 < N) (hlink : Cond.fieldLink K.1.cls index (T k0).1 (T k0).2.1 (T k0).2.2.1 ∈ vl_tbl) (hfin : (T k0).2.2.2 = false) (hk0 : cs[k0]? = some 0) {ki : Int} (hki : ((k0 : Nat) : Int) = ki)
    (hn : narrow (ty0 k0) (vl_iv x) = vl_iv x ∧ fits (ty0 k0) (vl_iv x) = true) (hd : decode K.2.1 pc = .ok (.putfield index, 3)) (hE : vl_ok P (vl_lt (vl_up ρ h ki x) E)) (k : ∀ ρ, vl_ok P (E ρ) → vl_V nc S sc K d Post (pc + 3) lv st μ ρ) : vl_V nc S sc K d Post pc lv (vl_iv x :: .ref h :: st) μ ρ := by
  subst hki
  exact vl_put (x := x) (c0 := 0) hin hty hnm hh hS hc hk hlink hfin hk0 hn.1 hn.2 (fun ad => ⟨rfl, rfl⟩) hd (vl_g_upr h3 _ _) hE (k _)
theorem vl_putJr {α : Type} {P : α → Prop} {T : u_T} {ty0 : Nat → FieldType} {N ci h k0 index : Nat} {cs : List Nat} {C : String} {x : Int} {E : vl_M → Option α} (hin : ∀ w ∈ u_ws C T N, w ∈ vl_tbl) (hty : ∀ k, k < N → parseFieldDescriptor (T k).2.2.1 = some (ty0 k)) (hnm : ∀ a, a < N → ∀ b, b < N → a ≠ b → (T a).2.1 ≠ (T b).2.1) (hh : h < nc) (h3 : 23 ≤ h) (hS : S h = .inr (ci, cs)) (hc : vwCl[ci]? = some (C, T, N)) (hk : k0 < N) (hlink : Cond.fieldLink K.1.cls index (T k0).1 (T k0).2.1 (T k0).2.2.1 ∈ vl_tbl) (hfin : (T k0).2.2.2 = false) (hk0 : cs[k0]? = some 1) {ki : Int} (hki : ((k0 : Nat) : Int) = ki)
    (hn : narrow (ty0 k0) (vl_jv x) = vl_jv x ∧ fits (ty0 k0) (vl_jv x) = true) (hd : decode K.2.1 pc = .ok (.putfield index, 3)) (hE : vl_ok P (vl_lt (vl_up ρ h ki x) E)) (k : ∀ ρ, vl_ok P (E ρ) → vl_V nc S sc K d Post (pc + 3) lv st μ ρ) : vl_V nc S sc K d Post pc lv (vl_jv x :: .ref h :: st) μ ρ := by
  subst hki
  exact vl_put (x := x) (c0 := 1) hin hty hnm hh hS hc hk hlink hfin hk0 hn.1 hn.2 (fun ad => ⟨rfl, rfl⟩) hd (vl_g_upr h3 _ _) hE (k _)
theorem vl_nI (x : Int) : narrow .int (vl_iv x) = vl_iv x ∧ fits .int (vl_iv x) = true := ⟨rfl, rfl⟩
theorem vl_nJ (x : Int) : narrow .long (vl_jv x) = vl_jv x ∧ fits .long (vl_jv x) = true := ⟨rfl, rfl⟩
theorem vl_nZ {x : Int} (h : x = 0 ∨ x = 1) : narrow .boolean (vl_iv x) = vl_iv x ∧ fits .boolean (vl_iv x) = true := by
  rcases h with rfl | rfl <;> exact ⟨by decide, by decide⟩
/-- an array's place is read -/
theorem vl_ald {h n : Nat} {i : Int} (hh : h < nc) (hS : S h = .inl n) (hr : vl_r32 i) (hi : 0 ≤ i ∧ i < (n : Int)) (hd : decode K.2.1 pc = .ok (.iaload, 1)) (k : vl_V nc S sc K d Post (pc + 1) lv (vl_iv (vl_g μ ρ h i) :: st) μ ρ) : vl_V nc S sc K d Post pc lv (vl_iv i :: .ref h :: st) μ ρ :=
  fun p l e R s m args below meth c H locs cells slots Q D cA ad A ls hC hcs hR hl hret => by
    obtain ⟨h1, h2⟩ := vl_inn hr hi
    refine va_iald (D := D) hC.1 hC.2.1 hR.2.2.1 hR.1 h 0 (vl_ws_arr hh hS) rfl h1 hd ?_
    rw [h2]
    exact k p l e R s m args below meth c H locs cells slots Q D cA ad A ls hC hcs hR hl hret
theorem vl_aldc {α : Type} {P : α → Prop} {E : Option α} {h n : Nat} {i : Int} (hh : h < nc) (h3 : h < 23) (hS : S h = .inl n) (hn : n ≤ 2147483648) {ni : Int} (hni : ((n : Nat) : Int) = ni) (hd : decode K.2.1 pc = .ok (.iaload, 1)) (hE : vl_ok P (vl_gd (0 ≤ i ∧ i < ni) E)) (k : (0 ≤ i ∧ i < ni) → vl_r32 i → vl_ok P E → vl_V nc S sc K d Post (pc + 1) lv (vl_iv (μ h i) :: st) μ ρ) : vl_V nc S sc K d Post pc lv (vl_iv i :: .ref h :: st) μ ρ := by
  subst hni
  have q := vl_ok_gd hE
  exact vl_ald hh hS (vl_r32_in q.1 hn) q.1 hd (by rw [vl_g_c h3]; exact k q.1 (vl_r32_in q.1 hn) q.2)
theorem vl_aldr {α : Type} {P : α → Prop} {E : Option α} {h n : Nat} {i : Int} (hh : h < nc) (h3 : 23 ≤ h) (hS : S h = .inl n) (hn : n ≤ 2147483648) {ni : Int} (hni : ((n : Nat) : Int) = ni) (hd : decode K.2.1 pc = .ok (.iaload, 1)) (hE : vl_ok P (vl_gd (0 ≤ i ∧ i < ni) E)) (k : (0 ≤ i ∧ i < ni) → vl_r32 i → vl_ok P E → vl_V nc S sc K d Post (pc + 1) lv (vl_iv (ρ h i) :: st) μ ρ) : vl_V nc S sc K d Post pc lv (vl_iv i :: .ref h :: st) μ ρ := by
  subst hni
  have q := vl_ok_gd hE
  exact vl_ald hh hS (vl_r32_in q.1 hn) q.1 hd (by rw [vl_g_r h3]; exact k q.1 (vl_r32_in q.1 hn) q.2)
/-- an index that is known to be within already -/
theorem vl_aldc1 {h n : Nat} {i : Int} (hh : h < nc) (h3 : h < 23) (hS : S h = .inl n) (hn : n ≤ 2147483648) {ni : Int} (hni : ((n : Nat) : Int) = ni) (hi : 0 ≤ i ∧ i < ni) (hd : decode K.2.1 pc = .ok (.iaload, 1)) (k : vl_V nc S sc K d Post (pc + 1) lv (vl_iv (μ h i) :: st) μ ρ) : vl_V nc S sc K d Post pc lv (vl_iv i :: .ref h :: st) μ ρ := by
  subst hni
  exact vl_ald hh hS (vl_r32_in hi hn) hi hd (by rw [vl_g_c h3]; exact k)
theorem vl_aldr1 {h n : Nat} {i : Int} (hh : h < nc) (h3 : 23 ≤ h) (hS : S h = .inl n) (hn : n ≤ 2147483648) {ni : Int} (hni : ((n : Nat) : Int) = ni) (hi : 0 ≤ i ∧ i < ni) (hd : decode K.2.1 pc = .ok (.iaload, 1)) (k : vl_V nc S sc K d Post (pc + 1) lv (vl_iv (ρ h i) :: st) μ ρ) : vl_V nc S sc K d Post pc lv (vl_iv i :: .ref h :: st) μ ρ := by
  subst hni
  exact vl_ald hh hS (vl_r32_in hi hn) hi hd (by rw [vl_g_r h3]; exact k)
theorem vl_ast {h n : Nat} {i v : Int} {μ' ρ' : vl_M} (hh : h < nc) (hS : S h = .inl n) (hr : vl_r32 i) (hi : 0 ≤ i ∧ i < (n : Int)) (hd : decode K.2.1 pc = .ok (.iastore, 1)) (hg : ∀ (k : Nat) (j : Int), vl_g μ' ρ' k j = if k = h ∧ j = i then v else vl_g μ ρ k j) (k : vl_V nc S sc K d Post (pc + 1) lv st μ' ρ') : vl_V nc S sc K d Post pc lv (vl_iv v :: vl_iv i :: .ref h :: st) μ ρ :=
  fun p l e R s m args below meth c H locs cells slots Q D cA ad A ls hC hcs hR hl hret => by
    obtain ⟨h1, h2⟩ := vl_inn hr hi
    refine va_iast (D := D) hC.1 hC.2.1 hR.2.2.1 hR.1 hR.2.1 hR.2.2.2.1 h 0 (vl_ws_arr hh hS) rfl h1 hd (fun H1 locs1 hP hD hS1 => ?_)
    rw [vl_set_arr hh hS h2 hg] at hP hD
    exact k p l e R s m args below meth c H1 locs1 cells slots Q D cA ad A ls hC hcs ⟨hP, hD, hR.2.2.1, hS1, hR.2.2.2.2⟩ hl hret
theorem vl_astc {α : Type} {P : α → Prop} {E : vl_M → Option α} {h n : Nat} {i v : Int} (hh : h < nc) (h3 : h < 23) (hS : S h = .inl n) (hn : n ≤ 2147483648) {ni : Int} (hni : ((n : Nat) : Int) = ni) (hd : decode K.2.1 pc = .ok (.iastore, 1)) (hE : vl_ok P (vl_gd (0 ≤ i ∧ i < ni) (vl_lt (vl_up μ h i v) E))) (k : (0 ≤ i ∧ i < ni) → vl_r32 i → ∀ μ, vl_ok P (E μ) → vl_V nc S sc K d Post (pc + 1) lv st μ ρ) : vl_V nc S sc K d Post pc lv (vl_iv v :: vl_iv i :: .ref h :: st) μ ρ := by
  subst hni
  have q := vl_ok_gd hE
  exact vl_ast hh hS (vl_r32_in q.1 hn) q.1 hd (vl_g_upc h3 _ _) (k q.1 (vl_r32_in q.1 hn) _ q.2)
theorem vl_astr {α : Type} {P : α → Prop} {E : vl_M → Option α} {h n : Nat} {i v : Int} (hh : h < nc) (h3 : 23 ≤ h) (hS : S h = .inl n) (hn : n ≤ 2147483648) {ni : Int} (hni : ((n : Nat) : Int) = ni) (hd : decode K.2.1 pc = .ok (.iastore, 1)) (hE : vl_ok P (vl_gd (0 ≤ i ∧ i < ni) (vl_lt (vl_up ρ h i v) E))) (k : (0 ≤ i ∧ i < ni) → vl_r32 i → ∀ ρ, vl_ok P (E ρ) → vl_V nc S sc K d Post (pc + 1) lv st μ ρ) : vl_V nc S sc K d Post pc lv (vl_iv v :: vl_iv i :: .ref h :: st) μ ρ := by
  subst hni
  have q := vl_ok_gd hE
  exact vl_ast hh hS (vl_r32_in q.1 hn) q.1 hd (vl_g_upr h3 _ _) (k q.1 (vl_r32_in q.1 hn) _ q.2)
theorem vl_astc1 {α : Type} {P : α → Prop} {E : vl_M → Option α} {h n : Nat} {i v : Int} (hh : h < nc) (h3 : h < 23) (hS : S h = .inl n) (hn : n ≤ 2147483648) {ni : Int} (hni : ((n : Nat) : Int) = ni) (hi : 0 ≤ i ∧ i < ni) (hd : decode K.2.1 pc = .ok (.iastore, 1)) (hE : vl_ok P (vl_lt (vl_up μ h i v) E)) (k : ∀ μ, vl_ok P (E μ) → vl_V nc S sc K d Post (pc + 1) lv st μ ρ) : vl_V nc S sc K d Post pc lv (vl_iv v :: vl_iv i :: .ref h :: st) μ ρ := by
  subst hni
  exact vl_ast hh hS (vl_r32_in hi hn) hi hd (vl_g_upc h3 _ _) (k _ hE)
theorem vl_astr1 {α : Type} {P : α → Prop} {E : vl_M → Option α} {h n : Nat} {i v : Int} (hh : h < nc) (h3 : 23 ≤ h) (hS : S h = .inl n) (hn : n ≤ 2147483648) {ni : Int} (hni : ((n : Nat) : Int) = ni) (hi : 0 ≤ i ∧ i < ni) (hd : decode K.2.1 pc = .ok (.iastore, 1)) (hE : vl_ok P (vl_lt (vl_up ρ h i v) E)) (k : ∀ ρ, vl_ok P (E ρ) → vl_V nc S sc K d Post (pc + 1) lv st μ ρ) : vl_V nc S sc K d Post pc lv (vl_iv v :: vl_iv i :: .ref h :: st) μ ρ := by
  subst hni
  exact vl_ast hh hS (vl_r32_in hi hn) hi hd (vl_g_upr h3 _ _) (k _ hE)
theorem vl_alen {h n : Nat} (hh : h < nc) (hS : S h = .inl n) {ni : Int} (hni : ((n : Nat) : Int) = ni) (hd : decode K.2.1 pc = .ok (.arraylength, 1)) (k : vl_V nc S sc K d Post (pc + 1) lv (vl_iv ni :: st) μ ρ) : vl_V nc S sc K d Post pc lv (.ref h :: st) μ ρ := by
  subst hni
  exact fun p l e R s m args below meth c H locs cells slots Q D cA ad A ls hC hcs hR hl hret =>
    va_alen (D := D) hC.1 hC.2.1 hR.2.2.1 hR.1 h 0 (vl_ws_arr hh hS) rfl (Int32.ofInt_eq_ofNat).symm hd (k p l e R s m args below meth c H locs cells slots Q D cA ad A ls hC hcs hR hl hret)
/-- the end -/
theorem vl_ret {α : Type} {P : α → Prop} {a : α} {r : Int} {st' : List Value} (hst : st' = (vl_rv K.2.2.2 r).toList) (hd : vl_Rt K pc r) (hE : vl_ok P (some a)) (hP : P a → Post r μ ρ) : vl_V nc S sc K d Post pc lv st' μ ρ :=
  fun p l e R s m args below meth c H locs cells slots Q D cA ad A ls hC hcs hR hl hret => by
    obtain ⟨b, h1, h2⟩ := hE
    cases h1
    have e : st'.map (vl_rz ad) = (vl_rv K.2.2.2 r).toList := by
      rw [hst]
      unfold vl_rv
      split <;> rfl
    rw [e]
    exact hret r μ ρ H locs pc ls (hP h2) hR hd
end VLM
