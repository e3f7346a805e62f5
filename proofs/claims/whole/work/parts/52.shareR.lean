/-! ===== PURE, 13: the reference's share to its end ===== -/
theorem sp_forceA (f : Int → pR) (N : Int) : ∀ (k : Nat) (A B rest : List Int), rest.length ≤ k → ((A.length + rest.length : Nat) : Int) ≤ N → sp f N k A B rest = (A ++ rest, B) := by
  intro k
  induction k with
  | zero =>
    intro A B rest h _
    have e : rest = [] := List.length_eq_zero_iff.mp (by omega)
    subst e
    rw [List.append_nil]
    rfl
  | succ k ih =>
    intro A B rest h h1
    cases rest with
    | nil => rw [List.append_nil]; rfl
    | cons y t =>
      simp only [List.length_cons] at h h1
      unfold sp
      rw [if_pos h1, ih _ _ _ (by omega) (by rw [List.length_append]; simp; omega)]
      simp
theorem sp_forceB (f : Int → pR) (N : Int) : ∀ (k : Nat) (A B rest : List Int), rest.length ≤ k → N < (A.length : Int) → ((B.length + rest.length : Nat) : Int) ≤ N → sp f N k A B rest = (A, B ++ rest) := by
  intro k
  induction k with
  | zero =>
    intro A B rest h _ _
    have e : rest = [] := List.length_eq_zero_iff.mp (by omega)
    subst e
    rw [List.append_nil]
    rfl
  | succ k ih =>
    intro A B rest h h0 h1
    cases rest with
    | nil => rw [List.append_nil]; rfl
    | cons y t =>
      simp only [List.length_cons] at h h1
      unfold sp
      rw [if_neg (by omega), if_pos h1, ih _ _ _ (by omega) h0 (by rw [List.length_append]; simp; omega)]
      simp
theorem d_forceA {N n : Nat} {r0 : vl_M} {a1 l : Int} {ds : Int → Int} {f : Int → pR} {B : List Int} {κ : Int → Int → vl_M → Option vl_M} (hN : 100000 ≤ N) (hk : dh_ok r0 l ds f n) : ∀ (k fu : Nat) (i : Int) (A C : List Int) (r : vl_M), 0 ≤ i → i + (k : Int) = (n : Int) → k < fu → (∀ y, y ∈ A → 0 ≤ y ∧ y < (n : Int)) → C.length + ((pu_seq k i).filter (fun x => decide (x ∉ A ∧ x ∉ B))).length ≤ 11 → dh_I r0 r f n A B C →
    ∃ r', fn_X8_split_L286 N a1 l (n : Int) 1 κ fu (C.length : Int) i r = κ ((C ++ (pu_seq k i).filter (fun x => decide (x ∉ A ∧ x ∉ B))).length : Int) (n : Int) r' ∧ dh_I r0 r' f n (A ++ (pu_seq k i).filter (fun x => decide (x ∉ A ∧ x ∉ B))) B (C ++ (pu_seq k i).filter (fun x => decide (x ∉ A ∧ x ∉ B))) := by
  have hn11 := hk.1
  intro k
  induction k with
  | zero =>
    intro fu i A C r hi he hf hA hl h
    obtain ⟨fu, rfl⟩ : ∃ x, fu = x + 1 := ⟨fu - 1, by omega⟩
    have e : i = (n : Int) := by omega
    refine ⟨r, ?_, by simpa [pu_seq] using h⟩
    rw [fn_X8_split_L286, pu_gd ⟨by omega, by omega⟩, if_neg (by omega), e]
    simp [pu_seq]
  | succ k ih =>
    intro fu i A C r hi he hf hA hl h
    obtain ⟨fu, rfl⟩ : ∃ x, fu = x + 1 := ⟨fu - 1, by omega⟩
    obtain ⟨q1, q2, q3⟩ := h.2.2.1 i hi (by omega)
    have r38 : vl_r32 (r 38 i) := by
      by_cases a : i ∈ A
      · rw [q1 a]; decide
      · by_cases b : i ∈ B
        · rw [q2 b]; decide
        · rw [q3 a b]; decide
    have eseq : pu_seq (k + 1) i = i :: pu_seq k (i + 1) := rfl
    rw [eseq] at hl ⊢
    by_cases cc : i ∉ A ∧ i ∉ B
    · rw [List.filter_cons_of_pos (by simpa using cc)] at hl ⊢
      have ef : (pu_seq k (i + 1)).filter (fun x => decide (x ∉ A ++ [i] ∧ x ∉ B)) = (pu_seq k (i + 1)).filter (fun x => decide (x ∉ A ∧ x ∉ B)) := List.filter_congr (fun y hy => by
        have := (pu_seq_mem k (i + 1) y).mp hy
        have : y ≠ i := by omega
        simp [this])
      simp only [List.length_cons] at hl
      obtain ⟨r1, b1, b2⟩ := dh_A hN hk ⟨hi, by omega⟩ cc.1 cc.2 (by omega) hA h
      obtain ⟨r2, b3, b4⟩ := ih fu (i + 1) (A ++ [i]) (C ++ [i]) r1 (by omega) (by omega) (by omega) (fun y hy => by
        rcases List.mem_append.mp hy with hy | hy
        · exact hA y hy
        · simp at hy; omega) (by rw [ef, List.length_append, List.length_singleton]; omega) b2
      rw [ef] at b3 b4
      refine ⟨r2, ?_, by simpa using b4⟩
      rw [fn_X8_split_L286, pu_gd ⟨by omega, by omega⟩, if_pos (by omega), pu_gd ⟨by omega, by omega⟩, pu_gd r38, pu_jn, if_pos (q3 cc.1 cc.2), b1, Option.bind_some, pu_un]
      dsimp only
      rw [pu_lt, b3]
      simp
    · have hne : r 38 i ≠ 0 := by
        by_cases a : i ∈ A
        · rw [q1 a]; decide
        · by_cases b : i ∈ B
          · rw [q2 b]; decide
          · exact absurd ⟨a, b⟩ cc
      rw [List.filter_cons_of_neg (by simpa using cc)] at hl ⊢
      rw [fn_X8_split_L286, pu_gd ⟨by omega, by omega⟩, if_pos (by omega), pu_gd ⟨by omega, by omega⟩, pu_gd r38, pu_jn, if_neg hne]
      dsimp only
      rw [pu_lt]
      exact ih fu (i + 1) A C r (by omega) (by omega) (by omega) hA hl h
theorem d_forceB {N n : Nat} {r0 : vl_M} {a1 l : Int} {ds : Int → Int} {f : Int → pR} {A : List Int} {κ : Int → Int → vl_M → Option vl_M} (hN : 100000 ≤ N) (hk : dh_ok r0 l ds f n) : ∀ (k fu : Nat) (i : Int) (B C : List Int) (r : vl_M), 0 ≤ i → i + (k : Int) = (n : Int) → k < fu → (∀ y, y ∈ B → 0 ≤ y ∧ y < (n : Int)) → C.length + ((pu_seq k i).filter (fun x => decide (x ∉ A ∧ x ∉ B))).length ≤ 11 → dh_I r0 r f n A B C →
    ∃ r', fn_X8_split_L286 N a1 l (n : Int) 2 κ fu (C.length : Int) i r = κ ((C ++ (pu_seq k i).filter (fun x => decide (x ∉ A ∧ x ∉ B))).length : Int) (n : Int) r' ∧ dh_I r0 r' f n A (B ++ (pu_seq k i).filter (fun x => decide (x ∉ A ∧ x ∉ B))) (C ++ (pu_seq k i).filter (fun x => decide (x ∉ A ∧ x ∉ B))) := by
  have hn11 := hk.1
  intro k
  induction k with
  | zero =>
    intro fu i B C r hi he hf hB hl h
    obtain ⟨fu, rfl⟩ : ∃ x, fu = x + 1 := ⟨fu - 1, by omega⟩
    have e : i = (n : Int) := by omega
    refine ⟨r, ?_, by simpa [pu_seq] using h⟩
    rw [fn_X8_split_L286, pu_gd ⟨by omega, by omega⟩, if_neg (by omega), e]
    simp [pu_seq]
  | succ k ih =>
    intro fu i B C r hi he hf hB hl h
    obtain ⟨fu, rfl⟩ : ∃ x, fu = x + 1 := ⟨fu - 1, by omega⟩
    obtain ⟨q1, q2, q3⟩ := h.2.2.1 i hi (by omega)
    have r38 : vl_r32 (r 38 i) := by
      by_cases a : i ∈ A
      · rw [q1 a]; decide
      · by_cases b : i ∈ B
        · rw [q2 b]; decide
        · rw [q3 a b]; decide
    have eseq : pu_seq (k + 1) i = i :: pu_seq k (i + 1) := rfl
    rw [eseq] at hl ⊢
    by_cases cc : i ∉ A ∧ i ∉ B
    · rw [List.filter_cons_of_pos (by simpa using cc)] at hl ⊢
      have ef : (pu_seq k (i + 1)).filter (fun x => decide (x ∉ A ∧ x ∉ B ++ [i])) = (pu_seq k (i + 1)).filter (fun x => decide (x ∉ A ∧ x ∉ B)) := List.filter_congr (fun y hy => by
        have := (pu_seq_mem k (i + 1) y).mp hy
        have : y ≠ i := by omega
        simp [this])
      simp only [List.length_cons] at hl
      obtain ⟨r1, b1, b2⟩ := dh_B hN hk ⟨hi, by omega⟩ cc.1 cc.2 (by omega) hB h
      obtain ⟨r2, b3, b4⟩ := ih fu (i + 1) (B ++ [i]) (C ++ [i]) r1 (by omega) (by omega) (by omega) (fun y hy => by
        rcases List.mem_append.mp hy with hy | hy
        · exact hB y hy
        · simp at hy; omega) (by rw [ef, List.length_append, List.length_singleton]; omega) b2
      rw [ef] at b3 b4
      refine ⟨r2, ?_, by simpa using b4⟩
      rw [fn_X8_split_L286, pu_gd ⟨by omega, by omega⟩, if_pos (by omega), pu_gd ⟨by omega, by omega⟩, pu_gd r38, pu_jn, if_pos (q3 cc.1 cc.2), b1, Option.bind_some, pu_un]
      dsimp only
      rw [pu_lt, b3]
      simp
    · have hne : r 38 i ≠ 0 := by
        by_cases a : i ∈ A
        · rw [q1 a]; decide
        · by_cases b : i ∈ B
          · rw [q2 b]; decide
          · exact absurd ⟨a, b⟩ cc
      rw [List.filter_cons_of_neg (by simpa using cc)] at hl ⊢
      rw [fn_X8_split_L286, pu_gd ⟨by omega, by omega⟩, if_pos (by omega), pu_gd ⟨by omega, by omega⟩, pu_gd r38, pu_jn, if_neg hne]
      dsimp only
      rw [pu_lt]
      exact ih fu (i + 1) B C r (by omega) (by omega) (by omega) hB hl h
/-- from where it stands to the end -/
theorem dh_L {N n : Nat} {r0 : vl_M} {a1 l M : Int} {ds : Int → Int} {f : Int → pR} {κ : Int → vl_M → Option vl_M} (hN : 100000 ≤ N) (hk : dh_ok r0 l ds f n) (hM : r0 23 2 = M) (hMn : 2 ≤ M ∧ 2 * M + 1 ≤ (n : Int)) : ∀ (k fu : Nat) (A B C : List Int) (r : vl_M), (sp_R n A B).length ≤ k → k < fu → A.length + B.length + (sp_R n A B).length = n → (∀ y, y ∈ A → 0 ≤ y ∧ y < (n : Int)) → (∀ y, y ∈ B → 0 ≤ y ∧ y < (n : Int)) → A ≠ [] → B ≠ [] → M ≤ ((A.length + (sp_R n A B).length : Nat) : Int) → M ≤ ((B.length + (sp_R n A B).length : Nat) : Int) → dh_I r0 r f n A B C →
    ∃ r' C', fn_X8_split_L216 N a1 l (n : Int) κ fu (C.length : Int) r = κ (n : Int) r' ∧ dh_I r0 r' f n (sp f M k A B (sp_R n A B)).1 (sp f M k A B (sp_R n A B)).2 C' := by
  have hn11 := hk.1
  intro k
  induction k with
  | zero =>
    intro fu A B C r hr hf hs hAn hBn hA hB hMA hMB h
    obtain ⟨fu, rfl⟩ : ∃ x, fu = x + 1 := ⟨fu - 1, by omega⟩
    have hc := h.2.2.2.2.1
    refine ⟨r, C, ?_, h⟩
    rw [fn_X8_split_L216, pu_gd ⟨by omega, by omega⟩, pu_gd ⟨by omega, by omega⟩, if_neg (by omega), show ((C.length : Nat) : Int) = (n : Int) by omega]
  | succ k ih =>
    intro fu A B C r hr hf hs hAn hBn hA hB hMA hMB h
    obtain ⟨fu, rfl⟩ : ∃ x, fu = x + 1 := ⟨fu - 1, by omega⟩
    have hc := h.2.2.2.2.1
    have h2 := h.1.2.1
    have h3 := h.1.2.2
    have hM' : r 23 2 = M := by rw [h.1.1 23 (by omega)]; exact hM
    cases hR : sp_R n A B with
    | nil =>
      rw [hR] at hs
      simp only [List.length_nil] at hs
      refine ⟨r, C, ?_, h⟩
      rw [fn_X8_split_L216, pu_gd ⟨by omega, by omega⟩, pu_gd ⟨by omega, by omega⟩, if_neg (by omega), show ((C.length : Nat) : Int) = (n : Int) by omega]
    | cons y t =>
      have hl : (sp_R n A B).length = t.length + 1 := by rw [hR]; rfl
      rw [← hR]
      have hlt : C.length < n := by omega
      rw [fn_X8_split_L216, pu_gd ⟨by omega, by omega⟩, pu_gd ⟨by omega, by omega⟩, if_pos (by omega), h2, h3, hM', pu_gd ⟨by omega, by omega⟩, pu_gd ⟨by omega, by omega⟩, pu_jn]
      by_cases cA : ((A.length + (sp_R n A B).length : Nat) : Int) ≤ M
      · have eA : (A.length : Int) + (n : Int) - (C.length : Int) = M := by omega
        rw [if_pos eA]
        dsimp only
        rw [h2, hM', pu_gd ⟨by omega, by omega⟩, pu_gd ⟨by omega, by omega⟩, pu_jn, if_pos eA]
        dsimp only
        obtain ⟨r1, b1, b2⟩ := d_forceA (a1 := a1) (κ := fun v110 _ m112 => fn_X8_split_L216 N a1 l (n : Int) κ fu v110 m112) hN hk n N 0 A C r (by omega) (by omega) (by omega) hAn (by show C.length + (sp_R n A B).length ≤ 11; omega) h
        rw [b1]
        rw [sp_forceA f M (k + 1) A B _ hr cA]
        obtain ⟨fu, rfl⟩ : ∃ x, fu = x + 1 := ⟨fu - 1, by omega⟩
        refine ⟨r1, _, ?_, b2⟩
        have eC : ((C ++ (pu_seq n 0).filter (fun x => decide (x ∉ A ∧ x ∉ B))).length : Int) = (n : Int) := by
          rw [List.length_append]
          show ((C.length + (sp_R n A B).length : Nat) : Int) = _
          omega
        rw [eC, fn_X8_split_L216, pu_gd ⟨by omega, by omega⟩, pu_gd ⟨by omega, by omega⟩, if_neg (by omega)]
      · rw [if_neg (by omega), pu_gd ⟨by omega, by omega⟩]
        by_cases cB : ((B.length + (sp_R n A B).length : Nat) : Int) ≤ M
        · rw [if_pos (by omega)]
          dsimp only
          rw [h2, hM', pu_gd ⟨by omega, by omega⟩, pu_gd ⟨by omega, by omega⟩, pu_jn, if_neg (by omega)]
          dsimp only
          obtain ⟨r1, b1, b2⟩ := d_forceB (a1 := a1) (κ := fun v110 _ m112 => fn_X8_split_L216 N a1 l (n : Int) κ fu v110 m112) hN hk n N 0 B C r (by omega) (by omega) (by omega) hBn (by show C.length + (sp_R n A B).length ≤ 11; omega) h
          rw [b1]
          rw [sp_forceB f M (k + 1) A B _ hr (by omega) cB]
          obtain ⟨fu, rfl⟩ : ∃ x, fu = x + 1 := ⟨fu - 1, by omega⟩
          refine ⟨r1, _, ?_, b2⟩
          have eC : ((C ++ (pu_seq n 0).filter (fun x => decide (x ∉ A ∧ x ∉ B))).length : Int) = (n : Int) := by
            rw [List.length_append]
            show ((C.length + (sp_R n A B).length : Nat) : Int) = _
            omega
          rw [eC, fn_X8_split_L216, pu_gd ⟨by omega, by omega⟩, pu_gd ⟨by omega, by omega⟩, if_neg (by omega)]
        · rw [if_neg (by omega)]
          have hpk : sp_pk (sp_d f A B) (sp_R n A B) 0 0 (-1) < (sp_R n A B).length := by
            rw [hR]
            have := sp_pk_lt0 (d := sp_d f A B) (fun x => Int.natCast_nonneg _) y t
            simpa using this
          have hb := dh_best (x := (sp_R n A B).getD (sp_pk (sp_d f A B) (sp_R n A B) 0 0 (-1)) 0) hN hk hA hB hAn hBn (by omega) rfl (by rw [hR]; simp) h
          have hxR : (sp_R n A B).getD (sp_pk (sp_d f A B) (sp_R n A B) 0 0 (-1)) 0 ∈ sp_R n A B := (pu_perm_get hpk).mem_iff.mp List.mem_cons_self
          have hxn := (sp_R_mem.mp hxR).1
          have esp : sp f M (k + 1) A B (sp_R n A B) = (have : Decidable (sp_toA f A B ((sp_R n A B).getD (sp_pk (sp_d f A B) (sp_R n A B) 0 0 (-1)) 0)) := Classical.propDecidable _
            if sp_toA f A B ((sp_R n A B).getD (sp_pk (sp_d f A B) (sp_R n A B) 0 0 (-1)) 0) then sp f M k (A ++ [(sp_R n A B).getD (sp_pk (sp_d f A B) (sp_R n A B) 0 0 (-1)) 0]) B ((sp_R n A B).eraseIdx (sp_pk (sp_d f A B) (sp_R n A B) 0 0 (-1))) else sp f M k A (B ++ [(sp_R n A B).getD (sp_pk (sp_d f A B) (sp_R n A B) 0 0 (-1)) 0]) ((sp_R n A B).eraseIdx (sp_pk (sp_d f A B) (sp_R n A B) 0 0 (-1)))) := by
            rw [hR]
            show (if _ then _ else if _ then _ else _) = _
            rw [if_neg (by omega), if_neg (by omega)]
          rw [esp]
          dsimp only
          have eRA := sp_R_A hpk
          have eRB := sp_R_B hpk
          have elen := List.length_eraseIdx_of_lt hpk
          generalize (sp_R n A B).getD (sp_pk (sp_d f A B) (sp_R n A B) 0 0 (-1)) 0 = x at hb hxn eRA eRB hxR ⊢
          by_cases cF : sp_toA f A B x
          · obtain ⟨r1, b1, b2⟩ := hb.1 cF
            rw [if_pos cF, b1, Option.bind_some, pu_un]
            rw [eRA] at elen ⊢
            exact ih fu (A ++ [x]) B (C ++ [x]) r1 (by omega) (by omega) (by rw [List.length_append]; simp; omega) (fun z hz => by
              rcases List.mem_append.mp hz with hz | hz
              · exact hAn z hz
              · simp at hz; omega) hBn (by simp) hB (by rw [List.length_append]; simp; omega) (by omega) b2
          · obtain ⟨r1, b1, b2⟩ := hb.2 cF
            rw [if_neg cF, b1, Option.bind_some, pu_un]
            rw [eRB] at elen ⊢
            exact ih fu A (B ++ [x]) (C ++ [x]) r1 (by omega) (by omega) (by rw [List.length_append]; simp; omega) hAn (fun z hz => by
              rcases List.mem_append.mp hz with hz | hz
              · exact hBn z hz
              · simp at hz; omega) hA (by simp) (by omega) (by rw [List.length_append]; simp; omega) b2
