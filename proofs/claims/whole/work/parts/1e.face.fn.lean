def fn_X7_count (m : vl_M) (a1 : Int) : Option (Int) :=
    vl_gd (vl_r32 a1) <| if a1 = 0 then (some (m 1 12)) else if a1 = 1 then (vl_gd (0 ≤ (m 11 6) ∧ (m 11 6) < 807) <| some ((m 2 (m 11 6)) + 1)) else if a1 = 2 then (some (m 11 5)) else if a1 = 3 then (some (m 11 7)) else if a1 = 4 then (some (m 11 8)) else if a1 = 5 then (some (m 11 9)) else if a1 = 6 then (some (m 1 0)) else if a1 = 7 then (some (m 1 1)) else some (-1)
def fn_X7_distance (m : vl_M) : Option (Int) :=
    some (m 19 6)
def fn_X7_isId (a0 : Int) : Option (Int) :=
    vl_gd (vl_r32 a0) <| if a0 < 0 then (some (0)) else if 999 < a0 then (some (0)) else some (1)
def fn_X7_isPlace (a0 : Int) : Option (Int) :=
    vl_gd (vl_r32 a0) <| if a0 < 0 then (some (0)) else if 32767 < a0 then (some (0)) else some (1)
/-- an int's value, as it wraps -/
def vl_wr (x : Int) : Int := (Int32.ofInt x).toInt
def fn_X7_held (w : Nat) (m : vl_M) (a1 a2 a3 : Int) : Option (Int) :=
    vl_gd (vl_r32 a1) <| if a1 < 0 then (some (-1)) else vl_gd (vl_r32 (m 11 5)) <| if a1 < (m 11 5) then (vl_gd (vl_r32 a2) <| if a2 < 0 then (some (-1)) else vl_gd (0 ≤ a1 ∧ a1 < 404) <| vl_gd (0 ≤ (m 13 a1) ∧ (m 13 a1) < 807) <| vl_gd (vl_r32 (m 9 (m 13 a1))) <| if a2 < (m 9 (m 13 a1)) then ((fn_X4_thingAt w m (m 13 a1) a2).bind fun b9 => vl_gd (vl_r32 a3) <| if a3 = 0 then (vl_gd (0 ≤ b9 ∧ b9 < 807) <| some (m 7 b9)) else (fn_X4_side m b9 (vl_wr (a3 - 1))).bind fun b11 => some (b11)) else some (-1)) else some (-1)
def fn_X7_isRectangle (a0 a1 a2 a3 : Int) : Option (Int) :=
    (fn_X7_isPlace a0).bind fun b1 => vl_gd (vl_r32 b1) <| if b1 = 0 then (some (0)) else (fn_X7_isPlace a1).bind fun b3 => vl_gd (vl_r32 b3) <| if b3 = 0 then (some (0)) else (fn_X7_isPlace a2).bind fun b5 => vl_gd (vl_r32 b5) <| if b5 = 0 then (some (0)) else (fn_X7_isPlace a3).bind fun b7 => vl_gd (vl_r32 b7) <| if b7 = 0 then (some (0)) else vl_gd (vl_r32 a0) <| vl_gd (vl_r32 a2) <| if a2 < a0 then (some (0)) else vl_gd (vl_r32 a1) <| vl_gd (vl_r32 a3) <| if a3 < a1 then (some (0)) else some (1)
def fn_X7_node (m : vl_M) (a1 a2 : Int) : Option (Int) :=
    vl_gd (vl_r32 a1) <| if a1 < 0 then (some (-1)) else vl_gd (vl_r32 (m 11 5)) <| if a1 < (m 11 5) then (vl_gd (0 ≤ a1 ∧ a1 < 404) <| vl_lt ((m 13 a1)) fun v5 => vl_gd (vl_r32 a2) <| if a2 = 0 then (vl_gd (0 ≤ v5 ∧ v5 < 807) <| some (m 2 v5)) else if a2 = 1 then (vl_gd (0 ≤ v5 ∧ v5 < 807) <| some (m 9 v5)) else if a2 = 2 then (vl_gd (0 ≤ v5 ∧ v5 < 807) <| vl_gd (vl_r32 (m 9 v5)) <| if (m 9 v5) = 0 then (some (-1)) else (fn_X4_side m v5 (a2 - 2)).bind fun b17 => some (b17)) else if a2 = 3 then (vl_gd (0 ≤ v5 ∧ v5 < 807) <| vl_gd (vl_r32 (m 9 v5)) <| if (m 9 v5) = 0 then (some (-1)) else (fn_X4_side m v5 (a2 - 2)).bind fun b23 => some (b23)) else if a2 = 4 then (vl_gd (0 ≤ v5 ∧ v5 < 807) <| vl_gd (vl_r32 (m 9 v5)) <| if (m 9 v5) = 0 then (some (-1)) else (fn_X4_side m v5 (a2 - 2)).bind fun b29 => some (b29)) else if a2 = 5 then (vl_gd (0 ≤ v5 ∧ v5 < 807) <| vl_gd (vl_r32 (m 9 v5)) <| if (m 9 v5) = 0 then (some (-1)) else (fn_X4_side m v5 (a2 - 2)).bind fun b35 => some (b35)) else if a2 = 6 then (vl_gd (0 ≤ v5 ∧ v5 < 807) <| vl_gd (vl_r32 (m 8 v5)) <| if (m 8 v5) = (-1) then (some (-2)) else vl_gd (0 ≤ (m 8 v5) ∧ (m 8 v5) < 807) <| some (m 7 (m 8 v5))) else some (-1)) else some (-1)
def fn_X7_countIn (N : Nat) (m : vl_M) (a1 a2 a3 a4 : Int) : Option (Int × vl_M) :=
    (fn_X7_isRectangle a1 a2 a3 a4).bind fun b1 => vl_gd (vl_r32 b1) <| if b1 = 0 then (some ((-1), m)) else (fn_X4_describe m 805 (-1) a1 a2 a3 a4).bind fun m4 => (fn_X4_entriesMeeting N m4 805 0).bind fun b5 => some (b5, m4)
def fn_X7_pairs_L4 (N : Nat) (m : vl_M) (κ : Int → Int → Option (Int)) : Nat → Int → Int → Option (Int)
  | 0, _, _ => none
  | n + 1, v1, v2 =>
    vl_gd (vl_r32 v2) <| vl_gd (vl_r32 (m 1 13)) <| if v2 < (m 1 13) then ((fn_X4_isEntry m v2).bind fun b7 => vl_gd (vl_r32 b7) <| vl_jn (fun (v9 : Int) => 
    vl_lt (v2 + 1) fun v11 => fn_X7_pairs_L4 N m κ n v9 v11) fun κ10 => if b7 = 0 then (κ10 v1) else (fn_X4_entriesMeeting N m v2 (v2 + 1)).bind fun b12 => vl_lt ((v1 + b12)) fun v13 => κ10 v13) else κ v1 v2
def fn_X7_pairs (N : Nat) (m : vl_M) : Option (Int) :=
    fn_X7_pairs_L4 N m (fun (v3 : Int) (v4 : Int) => 
    some (v3)) N 0 0
def fn_X7_visited (N : Nat) (m : vl_M) (a1 : Int) : Option (Int) :=
    vl_gd (vl_r32 a1) <| if a1 = 0 then (vl_gd (vl_r32 (m 18 2)) <| if (m 18 2) = 0 then (some (-1)) else some (m 18 3)) else if a1 = 1 then (some (m 19 5)) else if a1 = 2 then ((fn_X5_meetingNodes N m).bind fun b7 => some (b7)) else some (-1)
def fn_X7_window (m : vl_M) (a1 a2 a3 a4 : Int) : Option (Int × vl_M) :=
    (fn_X7_isRectangle a1 a2 a3 a4).bind fun b1 => vl_gd (vl_r32 b1) <| if b1 = 0 then (some ((-1), m)) else (fn_X4_describe m 804 (-1) a1 a2 a3 a4).bind fun m4 => (fn_X6_open m4).bind fun m6 => some (0, m6)
def fn_X7_next (w : Nat) (N : Nat) (m : vl_M) : Option (Int × vl_M) :=
    vl_gd (vl_r32 (m 18 2)) <| if (m 18 2) = 0 then (some ((-1), m)) else (fn_X6_goOn w N m).bind <| vl_un fun b2 m3 => vl_gd (vl_r32 b2) <| if b2 = (-1) then (some ((-2), m3)) else vl_gd (0 ≤ b2 ∧ b2 < 807) <| some ((m3 7 b2), m3)
def fn_X7_audit (w : Nat) (N : Nat) (m : vl_M) : Option (Int × vl_M) :=
    (fn_X0_findsAllWell w N m).bind <| vl_un fun b1 m2 => vl_gd (b1 = 0 ∨ b1 = 1) <| some (b1, m2)
def fn_X7_nearest (w : Nat) (N : Nat) (m : vl_M) (a1 a2 a3 : Int) : Option (Int × vl_M) :=
    (fn_X7_isPlace a1).bind fun b1 => vl_gd (vl_r32 b1) <| if b1 = 0 then (some ((-1), m)) else (fn_X7_isPlace a2).bind fun b3 => vl_gd (vl_r32 b3) <| if b3 = 0 then (some ((-1), m)) else vl_gd (vl_r32 a3) <| if a3 < 0 then (some ((-1), m)) else vl_gd (vl_r32 (m 1 12)) <| if a3 < (m 1 12) then ((fn_X2_find w N m a1 a2 a3).bind <| vl_un fun b7 m8 => vl_gd (vl_r32 b7) <| if b7 = (-1) then (some ((-1), m8)) else vl_gd (0 ≤ b7 ∧ b7 < 807) <| some ((m8 7 b7), m8)) else some ((-1), m)
def fn_X7_insert (w : Nat) (N : Nat) (m : vl_M) (a1 a2 a3 a4 a5 : Int) : Option (Int × vl_M) :=
    (fn_X7_isId a1).bind fun b1 => vl_gd (vl_r32 b1) <| if b1 = 0 then (some ((-1), m)) else (fn_X7_isRectangle a2 a3 a4 a5).bind fun b3 => vl_gd (vl_r32 b3) <| if b3 = 0 then (some ((-1), m)) else (fn_X4_describe m 805 a1 a2 a3 a4 a5).bind fun m6 => (fn_X4_entryLike N m6 805).bind fun b7 => vl_gd (vl_r32 b7) <| if b7 = (-1) then (vl_gd (vl_r32 (m6 1 12)) <| if (m6 1 12) < 400 then ((fn_X6_shut m6).bind fun m11 => (fn_X4_newEntry m11 805).bind <| vl_un fun b12 m13 => (fn_X5_put w N m13 b12).bind fun m15 => (fn_X5_renumber w N m15).bind fun m17 => some ((m17 1 12), m17)) else some ((-3), m6)) else some ((-2), m6)
def fn_X7_remove (w : Nat) (N : Nat) (m : vl_M) (a1 a2 a3 a4 a5 : Int) : Option (Int × vl_M) :=
    (fn_X7_isId a1).bind fun b1 => vl_gd (vl_r32 b1) <| if b1 = 0 then (some ((-1), m)) else (fn_X7_isRectangle a2 a3 a4 a5).bind fun b3 => vl_gd (vl_r32 b3) <| if b3 = 0 then (some ((-1), m)) else (fn_X4_describe m 805 a1 a2 a3 a4 a5).bind fun m6 => (fn_X4_entryLike N m6 805).bind fun b7 => vl_gd (vl_r32 b7) <| if b7 = (-1) then (some ((-2), m6)) else (fn_X6_shut m6).bind fun m10 => (fn_X5_take w N m10 b7).bind fun m12 => (fn_X5_renumber w N m12).bind fun m14 => some ((m14 1 12), m14)
def fn_X7_clear (w : Nat) (N : Nat) (m : vl_M) : Option (Int × vl_M) :=
    vl_lt ((m 1 12)) fun v1 => (fn_X6_shut m).bind fun m3 => (fn_X4_forgetEntries m3).bind fun m5 => (fn_X5_startEmpty w N m5).bind fun m7 => some (v1, m7)
def fn_X7_pack (w : Nat) (N : Nat) (m : vl_M) : Option (Int × vl_M) :=
    (fn_X6_shut m).bind fun m2 => (fn_X1_buildAnew w N m2).bind fun m4 => (fn_X5_renumber w N m4).bind fun m6 => some ((m6 11 5), m6)
