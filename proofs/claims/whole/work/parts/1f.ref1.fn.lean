def fn_X8_area (a0 a1 a2 a3 : Int) : Option (Int) :=
    vl_gd (vl_r32 (a2 - a0)) <| vl_gd (vl_r32 (a3 - a1)) <| some (((a2 - a0) + 1) * ((a3 - a1) + 1))
def fn_X8_distance (m : vl_M) : Option (Int) :=
    vl_gd (vl_r32 (m 23 28)) <| if (m 23 28) = 0 then (some (-1)) else some (m 23 29)
def fn_X8_enter (m : vl_M) (a1 : Int) : Option (vl_M) :=
    vl_gd (0 ≤ (m 23 24) ∧ (m 23 24) < 40) <| vl_lt (vl_up m 35 (m 23 24) a1) fun m1 => vl_gd (0 ≤ (m1 23 24) ∧ (m1 23 24) < 40) <| vl_lt (vl_up m1 36 (m1 23 24) 0) fun m4 => vl_lt (vl_up m4 23 24 ((m4 23 24) + 1)) fun m7 => vl_lt (vl_up m7 23 26 ((m7 23 26) + 1)) fun m8 => some m8
def fn_X8_find_L3 (N : Nat) (m : vl_M) (a1 : Int) (a2 : Int) (a3 : Int) (a4 : Int) (a5 : Int) (κ : Int → Option (Int)) : Nat → Int → Option (Int)
  | 0, _ => none
  | n + 1, v1 =>
    vl_gd (vl_r32 v1) <| if v1 < 400 then (vl_gd (0 ≤ v1 ∧ v1 < 401) <| vl_gd (vl_r32 (m 24 v1)) <| vl_gd (vl_r32 a1) <| if (m 24 v1) = a1 then (vl_gd (0 ≤ (4 * v1) ∧ (4 * v1) < 1604) <| vl_gd (vl_r32 (m 25 (4 * v1))) <| vl_gd (vl_r32 a2) <| if (m 25 (4 * v1)) = a2 then (vl_gd (0 ≤ ((4 * v1) + 1) ∧ ((4 * v1) + 1) < 1604) <| vl_gd (vl_r32 (m 25 ((4 * v1) + 1))) <| vl_gd (vl_r32 a3) <| if (m 25 ((4 * v1) + 1)) = a3 then (vl_gd (0 ≤ ((4 * v1) + 2) ∧ ((4 * v1) + 2) < 1604) <| vl_gd (vl_r32 (m 25 ((4 * v1) + 2))) <| vl_gd (vl_r32 a4) <| if (m 25 ((4 * v1) + 2)) = a4 then (vl_gd (0 ≤ ((4 * v1) + 3) ∧ ((4 * v1) + 3) < 1604) <| vl_gd (vl_r32 (m 25 ((4 * v1) + 3))) <| vl_gd (vl_r32 a5) <| if (m 25 ((4 * v1) + 3)) = a5 then (some (v1)) else vl_lt (v1 + 1) fun v28 => fn_X8_find_L3 N m a1 a2 a3 a4 a5 κ n v28) else vl_lt (v1 + 1) fun v23 => fn_X8_find_L3 N m a1 a2 a3 a4 a5 κ n v23) else vl_lt (v1 + 1) fun v18 => fn_X8_find_L3 N m a1 a2 a3 a4 a5 κ n v18) else vl_lt (v1 + 1) fun v13 => fn_X8_find_L3 N m a1 a2 a3 a4 a5 κ n v13) else vl_lt (v1 + 1) fun v8 => fn_X8_find_L3 N m a1 a2 a3 a4 a5 κ n v8) else κ v1
def fn_X8_find (N : Nat) (m : vl_M) (a1 a2 a3 a4 a5 : Int) : Option (Int) :=
    fn_X8_find_L3 N m a1 a2 a3 a4 a5 (fun (v2 : Int) => 
    some (-2)) N 0
def fn_X8_greater (a0 a1 : Int) : Option (Int) :=
    vl_gd (vl_r32 a0) <| vl_gd (vl_r32 a1) <| if a1 < a0 then (some (a0)) else some (a1)
def fn_X8_heldBy (m : vl_M) (a1 a2 : Int) : Option (Int) :=
    vl_gd (0 ≤ ((11 * a1) + a2) ∧ ((11 * a1) + a2) < 5500) <| some (m 28 ((11 * a1) + a2))
def fn_X8_hold (m : vl_M) (a1 a2 : Int) : Option (vl_M) :=
    vl_gd (0 ≤ a1 ∧ a1 < 500) <| vl_gd (0 ≤ ((11 * a1) + (m 27 a1)) ∧ ((11 * a1) + (m 27 a1)) < 5500) <| vl_lt (vl_up m 28 ((11 * a1) + (m 27 a1)) a2) fun m3 => vl_lt (vl_up m3 27 a1 ((m3 27 a1) + 1)) fun m6 => vl_gd (vl_r32 (m6 26 a1)) <| if 0 < (m6 26 a1) then (vl_gd (0 ≤ a2 ∧ a2 < 500) <| vl_lt (vl_up m6 30 a2 a1) fun m8 => some m8) else some m6
def fn_X8_isBefore_L38 (N : Nat) (m : vl_M) (a1 : Int) (a2 : Int) (κ : Int → Option (Int)) : Nat → Int → Option (Int)
  | 0, _ => none
  | n + 1, v7 =>
    vl_gd (vl_r32 v7) <| if v7 < 4 then (vl_gd (0 ≤ ((4 * a1) + v7) ∧ ((4 * a1) + v7) < 1604) <| vl_gd (0 ≤ ((4 * a2) + v7) ∧ ((4 * a2) + v7) < 1604) <| vl_gd (vl_r32 (m 25 ((4 * a1) + v7))) <| vl_gd (vl_r32 (m 25 ((4 * a2) + v7))) <| if (m 25 ((4 * a1) + v7)) = (m 25 ((4 * a2) + v7)) then (vl_lt (v7 + 1) fun v16 => fn_X8_isBefore_L38 N m a1 a2 κ n v16) else if (m 25 ((4 * a1) + v7)) < (m 25 ((4 * a2) + v7)) then (some (1)) else some (0)) else κ v7
def fn_X8_isBefore (N : Nat) (m : vl_M) (a1 a2 : Int) : Option (Int) :=
    vl_gd (0 ≤ a1 ∧ a1 < 401) <| vl_gd (0 ≤ a2 ∧ a2 < 401) <| vl_gd (vl_r32 (m 24 a1)) <| vl_gd (vl_r32 (m 24 a2)) <| if (m 24 a1) = (m 24 a2) then (fn_X8_isBefore_L38 N m a1 a2 (fun (v8 : Int) => 
    some (0)) N 0) else if (m 24 a1) < (m 24 a2) then (some (1)) else some (0)
def fn_X8_isPlace (a0 : Int) : Option (Int) :=
    vl_gd (vl_r32 a0) <| if a0 < 0 then (some (0)) else if 32767 < a0 then (some (0)) else some (1)
def fn_X8_lesser (a0 a1 : Int) : Option (Int) :=
    vl_gd (vl_r32 a0) <| vl_gd (vl_r32 a1) <| if a0 < a1 then (some (a0)) else some (a1)
def fn_X8_node_L2 (N : Nat) (m : vl_M) (a1 : Int) (κ : Int → Option (Int × vl_M)) : Nat → Int → Option (Int × vl_M)
  | 0, _ => none
  | n + 1, v1 =>
    vl_gd (0 ≤ v1 ∧ v1 < 500) <| vl_gd (vl_r32 (m 26 v1)) <| if (m 26 v1) < 0 then (κ v1) else vl_lt (v1 + 1) fun v11 => fn_X8_node_L2 N m a1 κ n v11
def fn_X8_node (N : Nat) (m : vl_M) (a1 : Int) : Option (Int × vl_M) :=
    fn_X8_node_L2 N m a1 (fun (v2 : Int) => 
    vl_gd (0 ≤ v2 ∧ v2 < 500) <| vl_lt (vl_up m 26 v2 a1) fun m3 => vl_lt (vl_up m3 27 v2 0) fun m6 => vl_lt (vl_up m6 30 v2 (-2)) fun m7 => some (v2, m7)) N 0
def fn_X8_side (m : vl_M) (a1 a2 a3 : Int) : Option (Int) :=
    vl_gd (vl_r32 a1) <| if a1 < 0 then (vl_gd (0 ≤ ((4 * a2) + a3) ∧ ((4 * a2) + a3) < 1604) <| some (m 25 ((4 * a2) + a3))) else vl_gd (0 ≤ ((4 * a2) + a3) ∧ ((4 * a2) + a3) < 2000) <| some (m 29 ((4 * a2) + a3))
def fn_X8_areaBoth (m : vl_M) (a1 a2 a3 a4 : Int) : Option (Int) :=
    (fn_X8_side m a1 a2 0).bind fun b1 => (fn_X8_side m a3 a4 0).bind fun b2 => (fn_X8_lesser b1 b2).bind fun b3 => (fn_X8_side m a1 a2 1).bind fun b4 => (fn_X8_side m a3 a4 1).bind fun b5 => (fn_X8_lesser b4 b5).bind fun b6 => (fn_X8_side m a1 a2 2).bind fun b7 => (fn_X8_side m a3 a4 2).bind fun b8 => (fn_X8_greater b7 b8).bind fun b9 => (fn_X8_side m a1 a2 3).bind fun b10 => (fn_X8_side m a3 a4 3).bind fun b11 => (fn_X8_greater b10 b11).bind fun b12 => (fn_X8_area b3 b6 b9 b12).bind fun b13 => some (b13)
def fn_X8_areaOf (m : vl_M) (a1 a2 : Int) : Option (Int) :=
    (fn_X8_side m a1 a2 0).bind fun b1 => (fn_X8_side m a1 a2 1).bind fun b2 => (fn_X8_side m a1 a2 2).bind fun b3 => (fn_X8_side m a1 a2 3).bind fun b4 => (fn_X8_area b1 b2 b3 b4).bind fun b5 => some (b5)
def fn_X8_clear_L40 (N : Nat) (v1 : Int) (κ : Int → vl_M → Option (Int × vl_M)) : Nat → Int → vl_M → Option (Int × vl_M)
  | 0, _, _ => none
  | n + 1, v8, m9 =>
    vl_gd (vl_r32 v8) <| if v8 < 500 then (vl_gd (0 ≤ v8 ∧ v8 < 500) <| vl_lt (vl_up m9 26 v8 (-2)) fun m16 => vl_lt (v8 + 1) fun v19 => fn_X8_clear_L40 N v1 κ n v19 m16) else κ v8 m9
def fn_X8_clear_L17 (N : Nat) (v1 : Int) (κ : Int → vl_M → Option (Int × vl_M)) : Nat → Int → vl_M → Option (Int × vl_M)
  | 0, _, _ => none
  | n + 1, v4, m5 =>
    vl_gd (vl_r32 v4) <| if 400 < v4 then (κ v4 m5) else vl_gd (0 ≤ v4 ∧ v4 < 401) <| vl_lt (vl_up m5 24 v4 (-2)) fun m22 => vl_lt (v4 + 1) fun v25 => fn_X8_clear_L17 N v1 κ n v25 m22
def fn_X8_clear (N : Nat) (m : vl_M) : Option (Int × vl_M) :=
    vl_lt ((m 23 5)) fun v1 => vl_lt (vl_up m 23 5 0) fun m2 => vl_lt (vl_up m2 23 20 0) fun m3 => fn_X8_clear_L17 N v1 (fun (v6 : Int) (m7 : vl_M) => 
    fn_X8_clear_L40 N v1 (fun (v10 : Int) (m11 : vl_M) => 
    (fn_X8_node N m11 0).bind <| vl_un fun b12 m13 => vl_lt (vl_up m13 23 11 b12) fun m14 => some (v1, m14)) N 0 m7) N 0 m3
def fn_X8_come_L18 (N : Nat) (a1 : Int) (a2 : Int) (a3 : Int) (a4 : Int) (κ : Int → vl_M → Option (Int × vl_M)) : Nat → Int → vl_M → Option (Int × vl_M)
  | 0, _, _ => none
  | n + 1, v7, m8 =>
    vl_gd (vl_r32 v7) <| if v7 < 4 then ((fn_X8_side m8 a3 (m8 37 a1) v7).bind fun b15 => vl_lt (((4 * (a2 - 1)) + v7)) fun v16 => vl_gd (0 ≤ (a2 - 1) ∧ (a2 - 1) < 2) <| vl_gd (vl_r32 (m8 41 (a2 - 1))) <| vl_jn (fun (v20 : Int) => 
    vl_gd (0 ≤ v16 ∧ v16 < 8) <| vl_lt (vl_up m8 40 v16 v20) fun m22 => vl_lt (v7 + 1) fun v25 => fn_X8_come_L18 N a1 a2 a3 a4 κ n v25 m22) fun κ21 => if (m8 41 (a2 - 1)) = 0 then (κ21 b15) else if v7 < 2 then (vl_gd (0 ≤ v16 ∧ v16 < 8) <| (fn_X8_lesser (m8 40 v16) b15).bind fun b31 => κ21 b31) else vl_gd (0 ≤ v16 ∧ v16 < 8) <| (fn_X8_greater (m8 40 v16) b15).bind fun b28 => κ21 b28) else κ v7 m8
def fn_X8_come (N : Nat) (m : vl_M) (a1 a2 a3 a4 : Int) : Option (Int × vl_M) :=
    vl_gd (0 ≤ a1 ∧ a1 < 11) <| vl_lt (vl_up m 38 a1 a2) fun m1 => vl_gd (0 ≤ a4 ∧ a4 < 11) <| vl_lt (vl_up m1 39 a4 a1) fun m4 => fn_X8_come_L18 N a1 a2 a3 a4 (fun (v9 : Int) (m10 : vl_M) => 
    vl_gd (0 ≤ (a2 - 1) ∧ (a2 - 1) < 2) <| vl_lt (vl_up m10 41 (a2 - 1) ((m10 41 (a2 - 1)) + 1)) fun m13 => some ((a4 + 1), m13)) N 0 m4
def fn_X8_far (m : vl_M) (a1 a2 a3 a4 : Int) : Option (Int) :=
    (fn_X8_side m a1 a2 0).bind fun b1 => vl_gd (vl_r32 a3) <| vl_gd (vl_r32 b1) <| vl_jn (fun (v4 : Int) => 
    (fn_X8_side m a1 a2 1).bind fun b6 => vl_gd (vl_r32 a4) <| vl_gd (vl_r32 b6) <| vl_jn (fun (v9 : Int) => 
    some ((v4 * v4) + (v9 * v9))) fun κ10 => if a4 < b6 then ((fn_X8_side m a1 a2 1).bind fun b16 => vl_gd (vl_r32 (b16 - a4)) <| κ10 (b16 - a4)) else (fn_X8_side m a1 a2 3).bind fun b11 => vl_gd (vl_r32 b11) <| if b11 < a4 then ((fn_X8_side m a1 a2 3).bind fun b13 => vl_gd (vl_r32 (a4 - b13)) <| κ10 (a4 - b13)) else κ10 0) fun κ5 => if a3 < b1 then ((fn_X8_side m a1 a2 0).bind fun b24 => vl_gd (vl_r32 (b24 - a3)) <| κ5 (b24 - a3)) else (fn_X8_side m a1 a2 2).bind fun b19 => vl_gd (vl_r32 b19) <| if b19 < a3 then ((fn_X8_side m a1 a2 2).bind fun b21 => vl_gd (vl_r32 (a3 - b21)) <| κ5 (a3 - b21)) else κ5 0
def fn_X8_isPackedBefore (N : Nat) (m : vl_M) (a1 a2 a3 : Int) : Option (Int) :=
    vl_gd (0 ≤ (4 * a1) ∧ (4 * a1) < 1604) <| vl_gd (0 ≤ ((4 * a1) + 2) ∧ ((4 * a1) + 2) < 1604) <| vl_lt (((m 25 (4 * a1)) + (m 25 ((4 * a1) + 2)))) fun v5 => vl_gd (0 ≤ (4 * a2) ∧ (4 * a2) < 1604) <| vl_gd (0 ≤ ((4 * a2) + 2) ∧ ((4 * a2) + 2) < 1604) <| vl_lt (((m 25 (4 * a2)) + (m 25 ((4 * a2) + 2)))) fun v10 => vl_gd (0 ≤ ((4 * a1) + 1) ∧ ((4 * a1) + 1) < 1604) <| vl_gd (0 ≤ ((4 * a1) + 3) ∧ ((4 * a1) + 3) < 1604) <| vl_lt (((m 25 ((4 * a1) + 1)) + (m 25 ((4 * a1) + 3)))) fun v15 => vl_gd (0 ≤ ((4 * a2) + 1) ∧ ((4 * a2) + 1) < 1604) <| vl_gd (0 ≤ ((4 * a2) + 3) ∧ ((4 * a2) + 3) < 1604) <| vl_lt (((m 25 ((4 * a2) + 1)) + (m 25 ((4 * a2) + 3)))) fun v20 => vl_gd (vl_r32 a3) <| vl_jn (fun (u_κ22 : Unit) => 
    vl_gd (vl_r32 v5) <| vl_gd (vl_r32 v10) <| if v5 = v10 then (vl_gd (vl_r32 v15) <| vl_gd (vl_r32 v20) <| if v15 = v20 then ((fn_X8_isBefore N m a1 a2).bind fun b27 => vl_gd (b27 = 0 ∨ b27 = 1) <| some (b27)) else if v15 < v20 then (some (1)) else some (0)) else if v5 < v10 then (some (1)) else some (0)) fun κ22 => if a3 = 0 then (κ22 ()) else vl_gd (vl_r32 v15) <| vl_gd (vl_r32 v20) <| if v15 = v20 then (κ22 ()) else if v15 < v20 then (some (1)) else some (0)
def fn_X8_isRect (a0 a1 a2 a3 : Int) : Option (Int) :=
    (fn_X8_isPlace a0).bind fun b1 => vl_gd (vl_r32 b1) <| if b1 = 0 then (some (0)) else (fn_X8_isPlace a1).bind fun b3 => vl_gd (vl_r32 b3) <| if b3 = 0 then (some (0)) else (fn_X8_isPlace a2).bind fun b5 => vl_gd (vl_r32 b5) <| if b5 = 0 then (some (0)) else (fn_X8_isPlace a3).bind fun b7 => vl_gd (vl_r32 b7) <| if b7 = 0 then (some (0)) else vl_gd (vl_r32 a0) <| vl_gd (vl_r32 a2) <| if a2 < a0 then (some (0)) else vl_gd (vl_r32 a1) <| vl_gd (vl_r32 a3) <| if a3 < a1 then (some (0)) else some (1)
def fn_X8_leafOf_L11 (N : Nat) (m : vl_M) (a1 : Int) (v1 : Int) (κ : Int → Option (Int)) : Nat → Int → Option (Int)
  | 0, _ => none
  | n + 1, v4 =>
    vl_gd (0 ≤ v1 ∧ v1 < 500) <| vl_gd (vl_r32 (m 26 v1)) <| if (m 26 v1) = 0 then (vl_gd (vl_r32 v4) <| vl_gd (vl_r32 (m 27 v1)) <| if v4 < (m 27 v1) then ((fn_X8_heldBy m v1 v4).bind fun b12 => vl_gd (vl_r32 b12) <| vl_gd (vl_r32 a1) <| if b12 = a1 then (some (v1)) else vl_lt (v4 + 1) fun v15 => fn_X8_leafOf_L11 N m a1 v1 κ n v15) else κ v4) else κ v4
def fn_X8_leafOf_L2 (N : Nat) (m : vl_M) (a1 : Int) (κ : Int → Option (Int)) : Nat → Int → Option (Int)
  | 0, _ => none
  | n + 1, v1 =>
    vl_gd (vl_r32 v1) <| if v1 < 500 then (fn_X8_leafOf_L11 N m a1 v1 (fun (v5 : Int) => 
    vl_lt (v1 + 1) fun v6 => fn_X8_leafOf_L2 N m a1 κ n v6) N 0) else κ v1
def fn_X8_leafOf (N : Nat) (m : vl_M) (a1 : Int) : Option (Int) :=
    fn_X8_leafOf_L2 N m a1 (fun (v2 : Int) => 
    some (-2)) N 0
def fn_X8_measure_L9 (N : Nat) (a1 : Int) (v1 : Int) (κ : Int → vl_M → Option (vl_M)) : Nat → Int → vl_M → Option (vl_M)
  | 0, _, _ => none
  | n + 1, v6, m7 =>
    vl_gd (0 ≤ a1 ∧ a1 < 500) <| vl_gd (vl_r32 v6) <| vl_gd (vl_r32 (m7 27 a1)) <| if v6 < (m7 27 a1) then ((fn_X8_heldBy m7 a1 v6).bind fun b15 => (fn_X8_side m7 ((m7 26 a1) - 1) b15 v1).bind fun b16 => vl_gd (0 ≤ ((4 * a1) + v1) ∧ ((4 * a1) + v1) < 2000) <| vl_lt ((m7 29 ((4 * a1) + v1))) fun v19 => vl_jn (fun (v20 : Int) => 
    vl_lt (vl_up m7 29 ((4 * a1) + v1) v20) fun m22 => vl_lt (v6 + 1) fun v23 => fn_X8_measure_L9 N a1 v1 κ n v23 m22) fun κ21 => if v6 = 0 then (κ21 b16) else if v1 < 2 then ((fn_X8_lesser v19 b16).bind fun b25 => κ21 b25) else (fn_X8_greater v19 b16).bind fun b24 => κ21 b24) else κ v6 m7
def fn_X8_measure_L2 (N : Nat) (a1 : Int) (κ : Int → vl_M → Option (vl_M)) : Nat → Int → vl_M → Option (vl_M)
  | 0, _, _ => none
  | n + 1, v1, m2 =>
    vl_gd (vl_r32 v1) <| if v1 < 4 then (fn_X8_measure_L9 N a1 v1 (fun (v8 : Int) (m9 : vl_M) => 
    vl_lt (v1 + 1) fun v10 => fn_X8_measure_L2 N a1 κ n v10 m9) N 0 m2) else κ v1 m2
def fn_X8_measure (N : Nat) (m : vl_M) (a1 : Int) : Option (vl_M) :=
    fn_X8_measure_L2 N a1 (fun (v3 : Int) (m4 : vl_M) => 
    some m4) N 0 m
def fn_X8_meet (m : vl_M) (a1 a2 a3 a4 : Int) : Option (Int) :=
    (fn_X8_side m a1 a2 0).bind fun b1 => (fn_X8_side m a3 a4 2).bind fun b2 => vl_gd (vl_r32 b1) <| vl_gd (vl_r32 b2) <| if b2 < b1 then (some (0)) else (fn_X8_side m a3 a4 0).bind fun b5 => (fn_X8_side m a1 a2 2).bind fun b6 => vl_gd (vl_r32 b5) <| vl_gd (vl_r32 b6) <| if b6 < b5 then (some (0)) else (fn_X8_side m a1 a2 1).bind fun b9 => (fn_X8_side m a3 a4 3).bind fun b10 => vl_gd (vl_r32 b9) <| vl_gd (vl_r32 b10) <| if b10 < b9 then (some (0)) else (fn_X8_side m a3 a4 1).bind fun b13 => (fn_X8_side m a1 a2 3).bind fun b14 => vl_gd (vl_r32 b13) <| vl_gd (vl_r32 b14) <| if b14 < b13 then (some (0)) else some (1)
def fn_X8_meets (m : vl_M) (a1 a2 a3 a4 a5 a6 : Int) : Option (Int) :=
    (fn_X8_side m a1 a2 0).bind fun b1 => vl_gd (vl_r32 b1) <| vl_gd (vl_r32 a5) <| if a5 < b1 then (some (0)) else (fn_X8_side m a1 a2 2).bind fun b4 => vl_gd (vl_r32 a3) <| vl_gd (vl_r32 b4) <| if b4 < a3 then (some (0)) else (fn_X8_side m a1 a2 1).bind fun b7 => vl_gd (vl_r32 b7) <| vl_gd (vl_r32 a6) <| if a6 < b7 then (some (0)) else (fn_X8_side m a1 a2 3).bind fun b10 => vl_gd (vl_r32 a4) <| vl_gd (vl_r32 b10) <| if b10 < a4 then (some (0)) else some (1)
def fn_X8_partArea (m : vl_M) (a1 : Int) : Option (Int) :=
    vl_lt ((4 * (a1 - 1))) fun v1 => vl_gd (0 ≤ v1 ∧ v1 < 8) <| vl_gd (0 ≤ (v1 + 1) ∧ (v1 + 1) < 8) <| vl_gd (0 ≤ (v1 + 2) ∧ (v1 + 2) < 8) <| vl_gd (0 ≤ (v1 + 3) ∧ (v1 + 3) < 8) <| (fn_X8_area (m 40 v1) (m 40 (v1 + 1)) (m 40 (v1 + 2)) (m 40 (v1 + 3))).bind fun b10 => some (b10)
def fn_X8_placeIn_L2 (N : Nat) (m : vl_M) (a1 : Int) (a2 : Int) (κ : Int → Option (Int)) : Nat → Int → Option (Int)
  | 0, _ => none
  | n + 1, v1 =>
    (fn_X8_heldBy m a1 v1).bind fun b3 => vl_gd (vl_r32 b3) <| vl_gd (vl_r32 a2) <| if b3 = a2 then (κ v1) else vl_lt (v1 + 1) fun v6 => fn_X8_placeIn_L2 N m a1 a2 κ n v6
def fn_X8_placeIn (N : Nat) (m : vl_M) (a1 a2 : Int) : Option (Int) :=
    fn_X8_placeIn_L2 N m a1 a2 (fun (v2 : Int) => 
    some (v2)) N 0
def fn_X8_choose_L13 (N : Nat) (m : vl_M) (a1 : Int) (a2 : Int) (a3 : Int) (κ : Int → Int → Int → Int → Option (Int)) : Nat → Int → Int → Int → Int → Option (Int)
  | 0, _, _, _, _ => none
  | n + 1, v1, v2, v3, v4 =>
    vl_gd (0 ≤ a1 ∧ a1 < 500) <| vl_gd (vl_r32 v4) <| vl_gd (vl_r32 (m 27 a1)) <| if v4 < (m 27 a1) then ((fn_X8_heldBy m a1 v4).bind fun b13 => vl_gd (0 ≤ b13 ∧ b13 < 500) <| (fn_X8_areaOf m (m 26 b13) b13).bind fun b16 => (fn_X8_areaBoth m (m 26 b13) b13 a2 a3).bind fun b17 => vl_lt ((b17 - b16)) fun v18 => vl_gd (vl_r32 v1) <| vl_jn (fun (v20 : Int) (v21 : Int) (v22 : Int) => 
    vl_lt (v4 + 1) fun v24 => fn_X8_choose_L13 N m a1 a2 a3 κ n v20 v21 v22 v24) fun κ23 => if v1 < 0 then (κ23 b13 v18 b16) else vl_gd (vl_r64 v18) <| vl_gd (vl_r64 v2) <| if v18 < v2 then (κ23 b13 v18 b16) else if v18 = v2 then (vl_gd (vl_r64 b16) <| vl_gd (vl_r64 v3) <| if b16 < v3 then (κ23 b13 v18 b16) else κ23 v1 v2 v3) else κ23 v1 v2 v3) else κ v1 v2 v3 v4
def fn_X8_choose (N : Nat) (m : vl_M) (a1 a2 a3 : Int) : Option (Int) :=
    fn_X8_choose_L13 N m a1 a2 a3 (fun (v5 : Int) (v6 : Int) (v7 : Int) (v8 : Int) => 
    some (v5)) N (-2) 0 0 0
def fn_X8_countIn_L19 (N : Nat) (m : vl_M) (a1 : Int) (a2 : Int) (a3 : Int) (a4 : Int) (κ : Int → Int → Option (Int)) : Nat → Int → Int → Option (Int)
  | 0, _, _ => none
  | n + 1, v3, v4 =>
    vl_gd (vl_r32 v4) <| if v4 < 400 then (vl_gd (0 ≤ v4 ∧ v4 < 401) <| vl_gd (vl_r32 (m 24 v4)) <| vl_jn (fun (v11 : Int) => 
    vl_lt ((v3 + v11)) fun v13 => vl_lt (v4 + 1) fun v14 => fn_X8_countIn_L19 N m a1 a2 a3 a4 κ n v13 v14) fun κ12 => if (m 24 v4) < 0 then (κ12 0) else (fn_X8_meets m (-1) v4 a1 a2 a3 a4).bind fun b15 => vl_gd (vl_r32 b15) <| if b15 = 0 then (κ12 0) else κ12 1) else κ v3 v4
def fn_X8_countIn (N : Nat) (m : vl_M) (a1 a2 a3 a4 : Int) : Option (Int) :=
    (fn_X8_isRect a1 a2 a3 a4).bind fun b1 => vl_gd (vl_r32 b1) <| if b1 = 0 then (some (-1)) else fn_X8_countIn_L19 N m a1 a2 a3 a4 (fun (v5 : Int) (v6 : Int) => 
    some (v5)) N 0 0
def fn_X8_growth (m : vl_M) (a1 a2 a3 : Int) : Option (Int) :=
    vl_lt ((4 * (a1 - 1))) fun v1 => vl_gd (0 ≤ v1 ∧ v1 < 8) <| (fn_X8_side m a2 a3 0).bind fun b4 => (fn_X8_lesser (m 40 v1) b4).bind fun b5 => vl_gd (0 ≤ (v1 + 1) ∧ (v1 + 1) < 8) <| (fn_X8_side m a2 a3 1).bind fun b8 => (fn_X8_lesser (m 40 (v1 + 1)) b8).bind fun b9 => vl_gd (0 ≤ (v1 + 2) ∧ (v1 + 2) < 8) <| (fn_X8_side m a2 a3 2).bind fun b12 => (fn_X8_greater (m 40 (v1 + 2)) b12).bind fun b13 => vl_gd (0 ≤ (v1 + 3) ∧ (v1 + 3) < 8) <| (fn_X8_side m a2 a3 3).bind fun b16 => (fn_X8_greater (m 40 (v1 + 3)) b16).bind fun b17 => (fn_X8_area b5 b9 b13 b17).bind fun b18 => (fn_X8_partArea m a1).bind fun b19 => some (b18 - b19)
def fn_X8_isEntry (a0 a1 a2 a3 a4 : Int) : Option (Int) :=
    vl_gd (vl_r32 a0) <| if a0 < 0 then (some (0)) else if a0 < 1000 then ((fn_X8_isRect a1 a2 a3 a4).bind fun b2 => vl_gd (vl_r32 b2) <| if b2 = 0 then (some (0)) else some (1)) else some (0)
def fn_X8_isNearer (N : Nat) (m : vl_M) (a1 a2 a3 a4 : Int) : Option (Int) :=
    vl_gd (0 ≤ a1 ∧ a1 < 1000) <| vl_gd (vl_r32 (m 43 a1)) <| vl_jn (fun (v4 : Int) => 
    vl_gd (0 ≤ a2 ∧ a2 < 1000) <| vl_gd (vl_r32 (m 43 a2)) <| vl_jn (fun (v9 : Int) => 
    vl_gd (vl_r64 v4) <| vl_gd (vl_r64 v9) <| if v4 = v9 then (vl_jn (fun (v13 : Int) => 
    vl_jn (fun (v15 : Int) => 
    vl_gd (vl_r32 v13) <| vl_gd (vl_r32 v15) <| if v13 = v15 then (if (m 43 a1) < 0 then ((fn_X8_isBefore N m (m 42 a1) (m 42 a2)).bind fun b26 => vl_gd (b26 = 0 ∨ b26 = 1) <| some (b26)) else vl_gd (0 ≤ (m 42 a1) ∧ (m 42 a1) < 500) <| vl_gd (0 ≤ (m 42 a2) ∧ (m 42 a2) < 500) <| vl_gd (vl_r32 (m 44 (m 42 a1))) <| vl_gd (vl_r32 (m 44 (m 42 a2))) <| if (m 44 (m 42 a1)) < (m 44 (m 42 a2)) then (some (1)) else some (0)) else if (m 43 a1) < 0 then (some (1)) else some (0)) fun κ16 => if (m 43 a2) < 0 then (κ16 1) else κ16 0) fun κ14 => if (m 43 a1) < 0 then (κ14 1) else κ14 0) else if v4 < v9 then (some (1)) else some (0)) fun κ10 => vl_jn (fun (u_κ35 : Unit) => 
    (fn_X8_far m (m 43 a2) (m 42 a2) a3 a4).bind fun b36 => κ10 b36) fun κ35 => if (m 43 a2) < 0 then (κ35 ()) else vl_gd (0 ≤ (m 42 a2) ∧ (m 42 a2) < 500) <| vl_gd (vl_r32 (m 27 (m 42 a2))) <| if (m 27 (m 42 a2)) = 0 then (κ10 0) else κ35 ()) fun κ5 => vl_jn (fun (u_κ42 : Unit) => 
    (fn_X8_far m (m 43 a1) (m 42 a1) a3 a4).bind fun b43 => κ5 b43) fun κ42 => if (m 43 a1) < 0 then (κ42 ()) else vl_gd (0 ≤ (m 42 a1) ∧ (m 42 a1) < 500) <| vl_gd (vl_r32 (m 27 (m 42 a1))) <| if (m 27 (m 42 a1)) = 0 then (κ5 0) else κ42 ()
def fn_X8_layer_L142 (N : Nat) (v5 : Int) (κ : Int → vl_M → Option (Int × vl_M)) : Nat → Int → vl_M → Option (Int × vl_M)
  | 0, _, _ => none
  | n + 1, v9, m10 =>
    vl_gd (vl_r32 v9) <| vl_gd (vl_r32 v5) <| if v9 < v5 then (vl_gd (0 ≤ v9 ∧ v9 < 200) <| vl_gd (0 ≤ v9 ∧ v9 < 400) <| vl_lt (vl_up m10 45 v9 (m10 46 v9)) fun m17 => vl_lt (v9 + 1) fun v20 => fn_X8_layer_L142 N v5 κ n v20 m17) else κ v9 m10
def fn_X8_layer_L76 (N : Nat) (a1 : Int) (v1 : Int) (v2 : Int) (v3 : Int) (v25 : Int) (b27 : Int) (κ : Int → vl_M → Option (Int × vl_M)) : Nat → Int → vl_M → Option (Int × vl_M)
  | 0, _, _ => none
  | n + 1, v29, m30 =>
    vl_gd (vl_r32 v29) <| vl_gd (vl_r32 v25) <| if v29 < v25 then (vl_gd (0 ≤ (v2 + v29) ∧ (v2 + v29) < 400) <| (fn_X8_hold m30 b27 (m30 45 (v2 + v29))).bind fun m46 => vl_lt (v29 + 1) fun v47 => fn_X8_layer_L76 N a1 v1 v2 v3 v25 b27 κ n v47 m46) else κ v29 m30
def fn_X8_layer_L8 (N : Nat) (a1 : Int) (κ : Int → Int → Int → vl_M → Option (Int × vl_M)) : Nat → Int → Int → Int → vl_M → Option (Int × vl_M)
  | 0, _, _, _, _ => none
  | n + 1, v1, v2, v3, m4 =>
    vl_gd (vl_r32 v3) <| if 0 < v3 then (vl_lt ((v3 - (m4 23 1))) fun v23 => vl_gd (vl_r32 (m4 23 1)) <| vl_jn (fun (v25 : Int) => 
    (fn_X8_node N m4 a1).bind <| vl_un fun b27 m28 => fn_X8_layer_L76 N a1 v1 v2 v3 v25 b27 (fun (v31 : Int) (m32 : vl_M) => 
    (fn_X8_measure N m32 b27).bind fun m34 => vl_lt ((v2 + v25)) fun v35 => vl_lt ((v3 - v25)) fun v36 => vl_gd (0 ≤ v1 ∧ v1 < 200) <| vl_lt (vl_up m34 46 v1 b27) fun m37 => vl_lt (v1 + 1) fun v40 => fn_X8_layer_L8 N a1 κ n v40 v35 v36 m37) N 0 m28) fun κ26 => if (m4 23 1) < v3 then (vl_gd (vl_r32 v23) <| vl_gd (vl_r32 (m4 23 2)) <| if v23 < (m4 23 2) then (if 0 < v23 then (κ26 (v3 - (m4 23 2))) else κ26 (m4 23 1)) else κ26 (m4 23 1)) else κ26 v3) else κ v1 v2 v3 m4
def fn_X8_layer (N : Nat) (m : vl_M) (a1 a2 : Int) : Option (Int × vl_M) :=
    fn_X8_layer_L8 N a1 (fun (v5 : Int) (v6 : Int) (v7 : Int) (m8 : vl_M) => 
    fn_X8_layer_L142 N v5 (fun (v11 : Int) (m12 : vl_M) => 
    some (v5, m12)) N 0 m8) N 0 0 a2 m
def fn_X8_measureUp_L2 (N : Nat) (κ : Int → vl_M → Option (vl_M)) : Nat → Int → vl_M → Option (vl_M)
  | 0, _, _ => none
  | n + 1, v1, m2 =>
    vl_gd (vl_r32 v1) <| if v1 < 0 then (κ v1 m2) else (fn_X8_measure N m2 v1).bind fun m7 => vl_gd (0 ≤ v1 ∧ v1 < 500) <| vl_lt ((m7 30 v1)) fun v10 => fn_X8_measureUp_L2 N  κ n v10 m7
def fn_X8_measureUp (N : Nat) (m : vl_M) (a1 : Int) : Option (vl_M) :=
    fn_X8_measureUp_L2 N  (fun (v3 : Int) (m4 : vl_M) => 
    some m4) N a1 m
def fn_X8_next_L29 (N : Nat) (κ : vl_M → Option (Int × vl_M)) : Nat → vl_M → Option (Int × vl_M)
  | 0, _ => none
  | n + 1, m5 =>
    vl_gd (vl_r32 (m5 23 24)) <| if 0 < (m5 23 24) then (vl_gd (0 ≤ ((m5 23 24) - 1) ∧ ((m5 23 24) - 1) < 40) <| vl_lt ((m5 35 ((m5 23 24) - 1))) fun v10 => vl_gd (0 ≤ v10 ∧ v10 < 500) <| vl_gd (vl_r32 (m5 36 ((m5 23 24) - 1))) <| vl_gd (vl_r32 (m5 27 v10)) <| if (m5 36 ((m5 23 24) - 1)) = (m5 27 v10) then (vl_lt (vl_up m5 23 24 ((m5 23 24) - 1)) fun m34 => fn_X8_next_L29 N  κ n m34) else (fn_X8_heldBy m5 v10 (m5 36 ((m5 23 24) - 1))).bind fun b15 => vl_lt (vl_up m5 36 ((m5 23 24) - 1) ((m5 36 ((m5 23 24) - 1)) + 1)) fun m16 => vl_gd (0 ≤ 0 ∧ 0 < 4) <| vl_gd (0 ≤ 1 ∧ 1 < 4) <| vl_gd (0 ≤ 2 ∧ 2 < 4) <| vl_gd (0 ≤ 3 ∧ 3 < 4) <| (fn_X8_meets m16 ((m16 26 v10) - 1) b15 (m16 34 0) (m16 34 1) (m16 34 2) (m16 34 3)).bind fun b25 => vl_gd (vl_r32 b25) <| if b25 = 0 then (fn_X8_next_L29 N  κ n m16) else vl_gd (vl_r32 (m16 26 v10)) <| if (m16 26 v10) = 0 then (vl_gd (0 ≤ b15 ∧ b15 < 401) <| some ((m16 24 b15), m16)) else (fn_X8_enter m16 b15).bind fun m29 => fn_X8_next_L29 N  κ n m29) else κ m5
def fn_X8_next (N : Nat) (m : vl_M) : Option (Int × vl_M) :=
    vl_gd (vl_r32 (m 23 20)) <| if (m 23 20) = 0 then (some ((-1), m)) else vl_gd (vl_r32 (m 23 25)) <| vl_jn (fun (m3 : vl_M) => 
    fn_X8_next_L29 N  (fun (m6 : vl_M) => 
    some ((-2), m6)) N m3) fun κ4 => if (m 23 25) = 0 then (vl_lt (vl_up m 23 25 1) fun m37 => (fn_X8_enter m37 (m37 23 11)).bind fun m39 => κ4 m39) else κ4 m
def fn_X8_pairs_L13 (N : Nat) (m : vl_M) (v2 : Int) (κ : Int → Int → Option (Int)) : Nat → Int → Int → Option (Int)
  | 0, _, _ => none
  | n + 1, v6, v7 =>
    vl_gd (vl_r32 v7) <| if v7 < v2 then (vl_gd (0 ≤ v2 ∧ v2 < 401) <| vl_gd (vl_r32 (m 24 v2)) <| vl_jn (fun (v15 : Int) => 
    vl_lt ((v6 + v15)) fun v17 => vl_lt (v7 + 1) fun v18 => fn_X8_pairs_L13 N m v2 κ n v17 v18) fun κ16 => if (m 24 v2) < 0 then (κ16 0) else vl_gd (0 ≤ v7 ∧ v7 < 401) <| vl_gd (vl_r32 (m 24 v7)) <| if (m 24 v7) < 0 then (κ16 0) else (fn_X8_meet m (-1) v2 (-1) v7).bind fun b22 => vl_gd (vl_r32 b22) <| if b22 = 0 then (κ16 0) else κ16 1) else κ v6 v7
def fn_X8_pairs_L4 (N : Nat) (m : vl_M) (κ : Int → Int → Option (Int)) : Nat → Int → Int → Option (Int)
  | 0, _, _ => none
  | n + 1, v1, v2 =>
    vl_gd (vl_r32 v2) <| if v2 < 400 then (fn_X8_pairs_L13 N m v2 (fun (v8 : Int) (v9 : Int) => 
    vl_lt (v2 + 1) fun v10 => fn_X8_pairs_L4 N m κ n v8 v10) N v1 0) else κ v1 v2
def fn_X8_pairs (N : Nat) (m : vl_M) : Option (Int) :=
    fn_X8_pairs_L4 N m (fun (v3 : Int) (v4 : Int) => 
    some (v3)) N 0 0
def fn_X8_sort_L22 (N : Nat) (a1 : Int) (a2 : Int) (a3 : Int) (v1 : Int) (v9 : Int) (κ : Int → vl_M → Option (vl_M)) : Nat → Int → vl_M → Option (vl_M)
  | 0, _, _ => none
  | n + 1, v10, m11 =>
    vl_gd (vl_r32 v10) <| vl_gd (vl_r32 a1) <| if a1 < v10 then (vl_gd (0 ≤ (v10 - 1) ∧ (v10 - 1) < 400) <| (fn_X8_isPackedBefore N m11 v9 (m11 45 (v10 - 1)) a3).bind fun b22 => vl_gd (vl_r32 b22) <| if b22 = 0 then (κ v10 m11) else vl_gd (0 ≤ v10 ∧ v10 < 400) <| vl_lt (vl_up m11 45 v10 (m11 45 (v10 - 1))) fun m24 => vl_lt (v10 + (-1)) fun v27 => fn_X8_sort_L22 N a1 a2 a3 v1 v9 κ n v27 m24) else κ v10 m11
def fn_X8_sort_L3 (N : Nat) (a1 : Int) (a2 : Int) (a3 : Int) (κ : Int → vl_M → Option (vl_M)) : Nat → Int → vl_M → Option (vl_M)
  | 0, _, _ => none
  | n + 1, v1, m2 =>
    vl_gd (vl_r32 v1) <| vl_gd (vl_r32 a2) <| if v1 < a2 then (vl_gd (0 ≤ v1 ∧ v1 < 400) <| vl_lt ((m2 45 v1)) fun v9 => fn_X8_sort_L22 N a1 a2 a3 v1 v9 (fun (v12 : Int) (m13 : vl_M) => 
    vl_gd (0 ≤ v12 ∧ v12 < 400) <| vl_lt (vl_up m13 45 v12 v9) fun m14 => vl_lt (v1 + 1) fun v17 => fn_X8_sort_L3 N a1 a2 a3 κ n v17 m14) N v1 m2) else κ v1 m2
def fn_X8_sort (N : Nat) (m : vl_M) (a1 a2 a3 : Int) : Option (vl_M) :=
    fn_X8_sort_L3 N a1 a2 a3 (fun (v3 : Int) (m4 : vl_M) => 
    some m4) N a1 m
def fn_X8_takeFrom_L7 (N : Nat) (a1 : Int) (κ : Int → vl_M → Option (vl_M)) : Nat → Int → vl_M → Option (vl_M)
  | 0, _, _ => none
  | n + 1, v2, m3 =>
    vl_gd (0 ≤ a1 ∧ a1 < 500) <| vl_gd (vl_r32 (v2 + 1)) <| vl_gd (vl_r32 (m3 27 a1)) <| if (v2 + 1) < (m3 27 a1) then (vl_gd (0 ≤ (((11 * a1) + v2) + 1) ∧ (((11 * a1) + v2) + 1) < 5500) <| vl_gd (0 ≤ ((11 * a1) + v2) ∧ ((11 * a1) + v2) < 5500) <| vl_lt (vl_up m3 28 ((11 * a1) + v2) (m3 28 (((11 * a1) + v2) + 1))) fun m15 => vl_lt (v2 + 1) fun v18 => fn_X8_takeFrom_L7 N a1 κ n v18 m15) else κ v2 m3
def fn_X8_takeFrom (N : Nat) (m : vl_M) (a1 a2 : Int) : Option (vl_M) :=
    (fn_X8_placeIn N m a1 a2).bind fun b1 => fn_X8_takeFrom_L7 N a1 (fun (v4 : Int) (m5 : vl_M) => 
    vl_gd (0 ≤ a1 ∧ a1 < 500) <| vl_lt (vl_up m5 27 a1 ((m5 27 a1) - 1)) fun m8 => some m8) N b1 m
def fn_X8_window (m : vl_M) (a1 a2 a3 a4 : Int) : Option (Int × vl_M) :=
    (fn_X8_isRect a1 a2 a3 a4).bind fun b1 => vl_gd (vl_r32 b1) <| if b1 = 0 then (some ((-1), m)) else vl_lt (vl_up m 23 20 1) fun m3 => vl_lt (vl_up m3 23 25 0) fun m4 => vl_gd (0 ≤ 0 ∧ 0 < 4) <| vl_lt (vl_up m4 34 0 a1) fun m5 => vl_gd (0 ≤ 1 ∧ 1 < 4) <| vl_lt (vl_up m5 34 1 a2) fun m8 => vl_gd (0 ≤ 2 ∧ 2 < 4) <| vl_lt (vl_up m8 34 2 a3) fun m11 => vl_gd (0 ≤ 3 ∧ 3 < 4) <| vl_lt (vl_up m11 34 3 a4) fun m14 => vl_lt (vl_up m14 23 24 0) fun m17 => vl_lt (vl_up m17 23 26 0) fun m18 => some (0, m18)
