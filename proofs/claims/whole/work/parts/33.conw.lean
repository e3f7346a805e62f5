theorem vu_gmc {α : Type} {P : α → Prop} {E : vl_M → Option α} {bc bs nc : Nat} {S : vl_Sh} {sc : Nat × (Nat → Int32)} {K : vl_K} {d : Nat} {Post : Int → Nat → vl_Sh → vl_M → vl_M → Prop} {pc : Nat} {lv : List (Nat × Value)} {st : List Value} {x ρ : vl_M} (hE : vl_ok P (vl_lt x E)) (k : ∀ m, vl_ok P (E m) → vl_U bc bs nc S sc K d Post pc lv st m ρ) : vl_U bc bs nc S sc K d Post pc lv st x ρ := k x hE
theorem vu_gmr {α : Type} {P : α → Prop} {E : vl_M → Option α} {bc bs nc : Nat} {S : vl_Sh} {sc : Nat × (Nat → Int32)} {K : vl_K} {d : Nat} {Post : Int → Nat → vl_Sh → vl_M → vl_M → Prop} {pc : Nat} {lv : List (Nat × Value)} {st : List Value} {x μ : vl_M} (hE : vl_ok P (vl_lt x E)) (k : ∀ m, vl_ok P (E m) → vl_U bc bs nc S sc K d Post pc lv st μ m) : vl_U bc bs nc S sc K d Post pc lv st μ x := k x hE
abbrev kX0_init : vl_K := (yX0_init, cX0_init, 3, none)
abbrev kX1_init : vl_K := (yX1_init, cX1_init, 3, none)
abbrev kX2_init : vl_K := (yX2_init, cX2_init, 3, none)
abbrev kX3_init : vl_K := (yX3_init, cX3_init, 2, none)
abbrev kX4_init : vl_K := (yX4_init, cX4_init, 3, none)
abbrev kX5_init : vl_K := (yX5_init, cX5_init, 2, none)
abbrev kX6_init : vl_K := (yX6_init, cX6_init, 3, none)
abbrev kX7_init : vl_K := (yX7_init, cX7_init, 4, none)
abbrev kX8_init : vl_K := (yX8_init, cX8_init, 5, none)
theorem ob_X4_3 : Cond.methodLink RX4 3 Lib.objectInit ∈ vl_tbl := vl_in 96 (by decide +kernel) (by decide +kernel)
theorem ob_i : Cond.instanceMethod Lib.objectInit ∈ vl_tbl := vl_in 83 (by decide +kernel) (by decide +kernel)
theorem ob_c : Cond.code Lib.objectInit ⟨#[0xb1]⟩ 1 none ∈ vl_tbl := vl_in 84 (by decide +kernel) (by decide +kernel)
theorem ar_c : Cond.arrayClass .int ∈ vl_tbl := vl_in 191 (by decide +kernel) (by decide +kernel)
theorem fk_X4_36 : Cond.fieldLink RX4 36 (TX4 0).1 (TX4 0).2.1 (TX4 0).2.2.1 ∈ vl_tbl := vl_in 105 (by decide +kernel) (by decide +kernel)
theorem fk_X4_40 : Cond.fieldLink RX4 40 (TX4 1).1 (TX4 1).2.1 (TX4 1).2.2.1 ∈ vl_tbl := vl_in 110 (by decide +kernel) (by decide +kernel)
theorem lk_X4_49 : vl_LkV RX4 49 kX4_forgetEntries RX4 0 := ⟨⟨rfl, by decide +kernel, by decide +kernel, by decide +kernel⟩, ⟨by decide +kernel, by decide⟩, (vl_in 97 (by decide +kernel) (by decide +kernel)), (vl_in 98 (by decide +kernel) (by decide +kernel)), (vl_in 99 (by decide +kernel) (by decide +kernel)), (vl_in 68 (by decide +kernel) (by decide +kernel)), (vl_in 100 (by decide +kernel) (by decide +kernel))⟩
theorem lk_X4_52 : vl_LkV RX4 52 kX4_forgetNodes RX4 0 := ⟨⟨rfl, by decide +kernel, by decide +kernel, by decide +kernel⟩, ⟨by decide +kernel, by decide⟩, (vl_in 101 (by decide +kernel) (by decide +kernel)), (vl_in 102 (by decide +kernel) (by decide +kernel)), (vl_in 103 (by decide +kernel) (by decide +kernel)), (vl_in 68 (by decide +kernel) (by decide +kernel)), (vl_in 104 (by decide +kernel) (by decide +kernel))⟩
theorem ob_X3_3 : Cond.methodLink RX3 3 Lib.objectInit ∈ vl_tbl := vl_in 203 (by decide +kernel) (by decide +kernel)
theorem fk_X3_15 : Cond.fieldLink RX3 15 (TX4 10).1 (TX4 10).2.1 (TX4 10).2.2.1 ∈ vl_tbl := vl_in 143 (by decide +kernel) (by decide +kernel)
theorem ob_X5_3 : Cond.methodLink RX5 3 Lib.objectInit ∈ vl_tbl := vl_in 197 (by decide +kernel) (by decide +kernel)
theorem cl_X5_22 : Cond.classLink RX5 22 RX3 ∈ vl_tbl := vl_in 198 (by decide +kernel) (by decide +kernel)
theorem in_X3 : Cond.instantiable RX3 5 ∈ vl_tbl := vl_in 199 (by decide +kernel) (by decide +kernel)
theorem ii_X3 : Cond.initialized RX3 ∈ vl_tbl := vl_in 70 (by decide +kernel) (by decide +kernel)
theorem df_X3 : ∀ j, j < 5 → ∃ c, ([2, 2, 0, 0, 0] : List Nat)[j]? = some c ∧ ∀ ad : Nat → Nat, defaultValue (tyX3 j) = vl_fv ad 0 c := by
  intro j hj
  rcases (show j = 0 ∨ j = 1 ∨ j = 2 ∨ j = 3 ∨ j = 4 by omega) with rfl | rfl | rfl | rfl | rfl
  all_goals exact ⟨_, rfl, fun _ => rfl⟩
theorem li_X5_24 : vl_LkI RX5 24 kX3_init 1 := ⟨⟨by decide +kernel, by decide +kernel, by decide +kernel⟩, ⟨by decide +kernel, by decide, rfl, rfl⟩, (vl_in 200 (by decide +kernel) (by decide +kernel)), (vl_in 201 (by decide +kernel) (by decide +kernel)), (vl_in 70 (by decide +kernel) (by decide +kernel)), (vl_in 202 (by decide +kernel) (by decide +kernel))⟩
theorem lk_X5_31 : vl_LkV RX5 31 kX5_startEmpty RX5 0 := ⟨⟨rfl, by decide +kernel, by decide +kernel, by decide +kernel⟩, ⟨by decide +kernel, by decide⟩, (vl_in 220 (by decide +kernel) (by decide +kernel)), (vl_in 221 (by decide +kernel) (by decide +kernel)), (vl_in 222 (by decide +kernel) (by decide +kernel)), (vl_in 69 (by decide +kernel) (by decide +kernel)), (vl_in 223 (by decide +kernel) (by decide +kernel))⟩
theorem ob_X1_3 : Cond.methodLink RX1 3 Lib.objectInit ∈ vl_tbl := vl_in 291 (by decide +kernel) (by decide +kernel)
theorem ob_X6_3 : Cond.methodLink RX6 3 Lib.objectInit ∈ vl_tbl := vl_in 310 (by decide +kernel) (by decide +kernel)
theorem ob_X2_3 : Cond.methodLink RX2 3 Lib.objectInit ∈ vl_tbl := vl_in 340 (by decide +kernel) (by decide +kernel)
theorem ob_X0_3 : Cond.methodLink RX0 3 Lib.objectInit ∈ vl_tbl := vl_in 370 (by decide +kernel) (by decide +kernel)
theorem ob_X7_3 : Cond.methodLink RX7 3 Lib.objectInit ∈ vl_tbl := vl_in 82 (by decide +kernel) (by decide +kernel)
theorem lk_X7_9 : vl_LkM RX7 9 Lib.Math.min.name Lib.Math.min.code 2 := ⟨(vl_in 85 (by decide +kernel) (by decide +kernel)), (vl_in 86 (by decide +kernel) (by decide +kernel)), (vl_in 67 (by decide +kernel) (by decide +kernel)), (vl_in 87 (by decide +kernel) (by decide +kernel))⟩
theorem lk_X7_15 : vl_LkM RX7 15 Lib.Math.max.name Lib.Math.max.code 2 := ⟨(vl_in 88 (by decide +kernel) (by decide +kernel)), (vl_in 89 (by decide +kernel) (by decide +kernel)), (vl_in 67 (by decide +kernel) (by decide +kernel)), (vl_in 90 (by decide +kernel) (by decide +kernel))⟩
theorem cl_X7_18 : Cond.classLink RX7 18 RX4 ∈ vl_tbl := vl_in 91 (by decide +kernel) (by decide +kernel)
theorem in_X4 : Cond.instantiable RX4 17 ∈ vl_tbl := vl_in 92 (by decide +kernel) (by decide +kernel)
theorem ii_X4 : Cond.initialized RX4 ∈ vl_tbl := vl_in 68 (by decide +kernel) (by decide +kernel)
theorem df_X4 : ∀ j, j < 17 → ∃ c, ([0, 0, 2, 2, 2, 2, 2, 2, 2, 2, 0, 2, 0, 0, 0, 0, 0] : List Nat)[j]? = some c ∧ ∀ ad : Nat → Nat, defaultValue (tyX4 j) = vl_fv ad 0 c := by
  intro j hj
  rcases (show j = 0 ∨ j = 1 ∨ j = 2 ∨ j = 3 ∨ j = 4 ∨ j = 5 ∨ j = 6 ∨ j = 7 ∨ j = 8 ∨ j = 9 ∨ j = 10 ∨ j = 11 ∨ j = 12 ∨ j = 13 ∨ j = 14 ∨ j = 15 ∨ j = 16 by omega) with rfl | rfl | rfl | rfl | rfl | rfl | rfl | rfl | rfl | rfl | rfl | rfl | rfl | rfl | rfl | rfl | rfl
  all_goals exact ⟨_, rfl, fun _ => rfl⟩
theorem li_X7_20 : vl_LkI RX7 20 kX4_init 2 := ⟨⟨by decide +kernel, by decide +kernel, by decide +kernel⟩, ⟨by decide +kernel, by decide, rfl, rfl⟩, (vl_in 93 (by decide +kernel) (by decide +kernel)), (vl_in 94 (by decide +kernel) (by decide +kernel)), (vl_in 68 (by decide +kernel) (by decide +kernel)), (vl_in 95 (by decide +kernel) (by decide +kernel))⟩
theorem cl_X7_27 : Cond.classLink RX7 27 RX5 ∈ vl_tbl := vl_in 192 (by decide +kernel) (by decide +kernel)
theorem in_X5 : Cond.instantiable RX5 10 ∈ vl_tbl := vl_in 193 (by decide +kernel) (by decide +kernel)
theorem ii_X5 : Cond.initialized RX5 ∈ vl_tbl := vl_in 69 (by decide +kernel) (by decide +kernel)
theorem df_X5 : ∀ j, j < 10 → ∃ c, ([2, 2, 2, 0, 2, 0, 0, 0, 0, 0] : List Nat)[j]? = some c ∧ ∀ ad : Nat → Nat, defaultValue (tyX5 j) = vl_fv ad 0 c := by
  intro j hj
  rcases (show j = 0 ∨ j = 1 ∨ j = 2 ∨ j = 3 ∨ j = 4 ∨ j = 5 ∨ j = 6 ∨ j = 7 ∨ j = 8 ∨ j = 9 by omega) with rfl | rfl | rfl | rfl | rfl | rfl | rfl | rfl | rfl | rfl
  all_goals exact ⟨_, rfl, fun _ => rfl⟩
theorem li_X7_29 : vl_LkI RX7 29 kX5_init 1 := ⟨⟨by decide +kernel, by decide +kernel, by decide +kernel⟩, ⟨by decide +kernel, by decide, rfl, rfl⟩, (vl_in 194 (by decide +kernel) (by decide +kernel)), (vl_in 195 (by decide +kernel) (by decide +kernel)), (vl_in 69 (by decide +kernel) (by decide +kernel)), (vl_in 196 (by decide +kernel) (by decide +kernel))⟩
theorem cl_X7_36 : Cond.classLink RX7 36 RX1 ∈ vl_tbl := vl_in 286 (by decide +kernel) (by decide +kernel)
theorem in_X1 : Cond.instantiable RX1 4 ∈ vl_tbl := vl_in 287 (by decide +kernel) (by decide +kernel)
theorem ii_X1 : Cond.initialized RX1 ∈ vl_tbl := vl_in 71 (by decide +kernel) (by decide +kernel)
theorem df_X1 : ∀ j, j < 4 → ∃ c, ([2, 2, 2, 0] : List Nat)[j]? = some c ∧ ∀ ad : Nat → Nat, defaultValue (tyX1 j) = vl_fv ad 0 c := by
  intro j hj
  rcases (show j = 0 ∨ j = 1 ∨ j = 2 ∨ j = 3 by omega) with rfl | rfl | rfl | rfl
  all_goals exact ⟨_, rfl, fun _ => rfl⟩
theorem li_X7_38 : vl_LkI RX7 38 kX1_init 2 := ⟨⟨by decide +kernel, by decide +kernel, by decide +kernel⟩, ⟨by decide +kernel, by decide, rfl, rfl⟩, (vl_in 288 (by decide +kernel) (by decide +kernel)), (vl_in 289 (by decide +kernel) (by decide +kernel)), (vl_in 71 (by decide +kernel) (by decide +kernel)), (vl_in 290 (by decide +kernel) (by decide +kernel))⟩
theorem cl_X7_45 : Cond.classLink RX7 45 RX6 ∈ vl_tbl := vl_in 305 (by decide +kernel) (by decide +kernel)
theorem in_X6 : Cond.instantiable RX6 7 ∈ vl_tbl := vl_in 306 (by decide +kernel) (by decide +kernel)
theorem ii_X6 : Cond.initialized RX6 ∈ vl_tbl := vl_in 72 (by decide +kernel) (by decide +kernel)
theorem df_X6 : ∀ j, j < 7 → ∃ c, ([2, 2, 0, 0, 0, 0, 0] : List Nat)[j]? = some c ∧ ∀ ad : Nat → Nat, defaultValue (tyX6 j) = vl_fv ad 0 c := by
  intro j hj
  rcases (show j = 0 ∨ j = 1 ∨ j = 2 ∨ j = 3 ∨ j = 4 ∨ j = 5 ∨ j = 6 by omega) with rfl | rfl | rfl | rfl | rfl | rfl | rfl
  all_goals exact ⟨_, rfl, fun _ => rfl⟩
theorem li_X7_47 : vl_LkI RX7 47 kX6_init 2 := ⟨⟨by decide +kernel, by decide +kernel, by decide +kernel⟩, ⟨by decide +kernel, by decide, rfl, rfl⟩, (vl_in 307 (by decide +kernel) (by decide +kernel)), (vl_in 308 (by decide +kernel) (by decide +kernel)), (vl_in 72 (by decide +kernel) (by decide +kernel)), (vl_in 309 (by decide +kernel) (by decide +kernel))⟩
theorem cl_X7_52 : Cond.classLink RX7 52 RX2 ∈ vl_tbl := vl_in 335 (by decide +kernel) (by decide +kernel)
theorem in_X2 : Cond.instantiable RX2 7 ∈ vl_tbl := vl_in 336 (by decide +kernel) (by decide +kernel)
theorem ii_X2 : Cond.initialized RX2 ∈ vl_tbl := vl_in 73 (by decide +kernel) (by decide +kernel)
theorem df_X2 : ∀ j, j < 7 → ∃ c, ([2, 2, 2, 2, 0, 0, 0] : List Nat)[j]? = some c ∧ ∀ ad : Nat → Nat, defaultValue (tyX2 j) = vl_fv ad 0 c := by
  intro j hj
  rcases (show j = 0 ∨ j = 1 ∨ j = 2 ∨ j = 3 ∨ j = 4 ∨ j = 5 ∨ j = 6 by omega) with rfl | rfl | rfl | rfl | rfl | rfl | rfl
  all_goals exact ⟨_, rfl, fun _ => rfl⟩
theorem li_X7_54 : vl_LkI RX7 54 kX2_init 2 := ⟨⟨by decide +kernel, by decide +kernel, by decide +kernel⟩, ⟨by decide +kernel, by decide, rfl, rfl⟩, (vl_in 337 (by decide +kernel) (by decide +kernel)), (vl_in 338 (by decide +kernel) (by decide +kernel)), (vl_in 73 (by decide +kernel) (by decide +kernel)), (vl_in 339 (by decide +kernel) (by decide +kernel))⟩
theorem cl_X7_59 : Cond.classLink RX7 59 RX0 ∈ vl_tbl := vl_in 365 (by decide +kernel) (by decide +kernel)
theorem in_X0 : Cond.instantiable RX0 2 ∈ vl_tbl := vl_in 366 (by decide +kernel) (by decide +kernel)
theorem ii_X0 : Cond.initialized RX0 ∈ vl_tbl := vl_in 74 (by decide +kernel) (by decide +kernel)
theorem df_X0 : ∀ j, j < 2 → ∃ c, ([2, 2] : List Nat)[j]? = some c ∧ ∀ ad : Nat → Nat, defaultValue (tyX0 j) = vl_fv ad 0 c := by
  intro j hj
  rcases (show j = 0 ∨ j = 1 by omega) with rfl | rfl
  all_goals exact ⟨_, rfl, fun _ => rfl⟩
theorem li_X7_61 : vl_LkI RX7 61 kX0_init 2 := ⟨⟨by decide +kernel, by decide +kernel, by decide +kernel⟩, ⟨by decide +kernel, by decide, rfl, rfl⟩, (vl_in 367 (by decide +kernel) (by decide +kernel)), (vl_in 368 (by decide +kernel) (by decide +kernel)), (vl_in 74 (by decide +kernel) (by decide +kernel)), (vl_in 369 (by decide +kernel) (by decide +kernel))⟩
theorem ob_X8_7 : Cond.methodLink RX8 7 Lib.objectInit ∈ vl_tbl := vl_in 775 (by decide +kernel) (by decide +kernel)
theorem cl_L_7 : Cond.classLink RL 7 RX7 ∈ vl_tbl := vl_in 77 (by decide +kernel) (by decide +kernel)
theorem in_X7 : Cond.instantiable RX7 6 ∈ vl_tbl := vl_in 78 (by decide +kernel) (by decide +kernel)
theorem ii_X7 : Cond.initialized RX7 ∈ vl_tbl := vl_in 66 (by decide +kernel) (by decide +kernel)
theorem df_X7 : ∀ j, j < 6 → ∃ c, ([2, 2, 2, 2, 2, 2] : List Nat)[j]? = some c ∧ ∀ ad : Nat → Nat, defaultValue (tyX7 j) = vl_fv ad 0 c := by
  intro j hj
  rcases (show j = 0 ∨ j = 1 ∨ j = 2 ∨ j = 3 ∨ j = 4 ∨ j = 5 by omega) with rfl | rfl | rfl | rfl | rfl | rfl
  all_goals exact ⟨_, rfl, fun _ => rfl⟩
theorem lk_L_9 : vl_LkS RL 9 kL_cell 2 := ⟨⟨by decide +kernel, by decide +kernel, by decide +kernel⟩, ⟨by decide +kernel, by decide⟩, (vl_in 767 (by decide +kernel) (by decide +kernel)), (vl_in 768 (by decide +kernel) (by decide +kernel)), (vl_in 65 (by decide +kernel) (by decide +kernel)), (vl_in 769 (by decide +kernel) (by decide +kernel))⟩
theorem li_L_15 : vl_LkI RL 15 kX7_init 2 := ⟨⟨by decide +kernel, by decide +kernel, by decide +kernel⟩, ⟨by decide +kernel, by decide, rfl, rfl⟩, (vl_in 79 (by decide +kernel) (by decide +kernel)), (vl_in 80 (by decide +kernel) (by decide +kernel)), (vl_in 66 (by decide +kernel) (by decide +kernel)), (vl_in 81 (by decide +kernel) (by decide +kernel))⟩
theorem cl_L_18 : Cond.classLink RL 18 RX8 ∈ vl_tbl := vl_in 770 (by decide +kernel) (by decide +kernel)
theorem in_X8 : Cond.instantiable RX8 41 ∈ vl_tbl := vl_in 771 (by decide +kernel) (by decide +kernel)
theorem ii_X8 : Cond.initialized RX8 ∈ vl_tbl := vl_in 75 (by decide +kernel) (by decide +kernel)
theorem df_X8 : ∀ j, j < 41 → ∃ c, ([0, 0, 0, 2, 2, 0, 2, 2, 2, 2, 2, 0, 0, 0, 0, 2, 2, 0, 2, 0, 0, 2, 2, 2, 0, 0, 0, 0, 0, 1, 2, 2, 2, 2, 2, 2, 2, 0, 2, 2, 2] : List Nat)[j]? = some c ∧ ∀ ad : Nat → Nat, defaultValue (tyX8 j) = vl_fv ad 0 c := by
  intro j hj
  rcases (show j = 0 ∨ j = 1 ∨ j = 2 ∨ j = 3 ∨ j = 4 ∨ j = 5 ∨ j = 6 ∨ j = 7 ∨ j = 8 ∨ j = 9 ∨ j = 10 ∨ j = 11 ∨ j = 12 ∨ j = 13 ∨ j = 14 ∨ j = 15 ∨ j = 16 ∨ j = 17 ∨ j = 18 ∨ j = 19 ∨ j = 20 ∨ j = 21 ∨ j = 22 ∨ j = 23 ∨ j = 24 ∨ j = 25 ∨ j = 26 ∨ j = 27 ∨ j = 28 ∨ j = 29 ∨ j = 30 ∨ j = 31 ∨ j = 32 ∨ j = 33 ∨ j = 34 ∨ j = 35 ∨ j = 36 ∨ j = 37 ∨ j = 38 ∨ j = 39 ∨ j = 40 by omega) with rfl | rfl | rfl | rfl | rfl | rfl | rfl | rfl | rfl | rfl | rfl | rfl | rfl | rfl | rfl | rfl | rfl | rfl | rfl | rfl | rfl | rfl | rfl | rfl | rfl | rfl | rfl | rfl | rfl | rfl | rfl | rfl | rfl | rfl | rfl | rfl | rfl | rfl | rfl | rfl | rfl
  all_goals exact ⟨_, rfl, fun _ => rfl⟩
theorem li_L_20 : vl_LkI RL 20 kX8_init 2 := ⟨⟨by decide +kernel, by decide +kernel, by decide +kernel⟩, ⟨by decide +kernel, by decide, rfl, rfl⟩, (vl_in 772 (by decide +kernel) (by decide +kernel)), (vl_in 773 (by decide +kernel) (by decide +kernel)), (vl_in 75 (by decide +kernel) (by decide +kernel)), (vl_in 774 (by decide +kernel) (by decide +kernel))⟩
