def fn_X0_holdsEnough (m : vl_M) (a1 : Int) : Option (Int) :=
    vl_lt ((m 1 1)) fun v1 => vl_gd (vl_r32 a1) <| vl_gd (vl_r32 (m 11 6)) <| vl_jn (fun (v4 : Int) => 
    vl_gd (0 ≤ a1 ∧ a1 < 807) <| vl_gd (vl_r32 (m 9 a1)) <| vl_gd (vl_r32 v4) <| if (m 9 a1) < v4 then (some (0)) else vl_gd (vl_r32 (m 1 0)) <| if (m 1 0) < (m 9 a1) then (some (0)) else some (1)) fun κ5 => if a1 = (m 11 6) then (vl_gd (0 ≤ a1 ∧ a1 < 807) <| vl_gd (vl_r32 (m 2 a1)) <| vl_jn (fun (v16 : Int) => 
    κ5 v16) fun κ17 => if (m 2 a1) = 0 then (κ17 0) else κ17 2) else κ5 v1
def fn_X1_groupsOf (m : vl_M) (a1 : Int) : Option (Int) :=
    vl_gd (0 ≤ ((a1 + (m 1 0)) - 1) ∧ ((a1 + (m 1 0)) - 1) < 2147483648) <| vl_gd (0 < (m 1 0) ∧ (m 1 0) < 2147483648) <| some (((a1 + (m 1 0)) - 1) / (m 1 0))
def fn_X6_open (m : vl_M) : Option (vl_M) :=
    vl_lt (vl_up m 18 2 1) fun m1 => vl_lt (vl_up m1 18 3 0) fun m2 => vl_lt (vl_up m2 18 4 0) fun m3 => vl_lt (vl_up m3 18 5 (-1)) fun m4 => some m4
def fn_X6_shut (m : vl_M) : Option (vl_M) :=
    vl_lt (vl_up m 18 2 0) fun m1 => some m1
def fn_X0_holdsRightly_L2 (w : Nat) (N : Nat) (m : vl_M) (a1 : Int) (κ : Int → Option (Int)) : Nat → Int → Option (Int)
  | 0, _ => none
  | n + 1, v1 =>
    vl_gd (0 ≤ a1 ∧ a1 < 807) <| vl_gd (vl_r32 v1) <| vl_gd (vl_r32 (m 9 a1)) <| if v1 < (m 9 a1) then ((fn_X4_thingAt w m a1 v1).bind fun b7 => vl_gd (0 ≤ b7 ∧ b7 < 807) <| vl_gd (vl_r32 (m 2 b7)) <| vl_gd (vl_r32 ((m 2 a1) - 1)) <| if (m 2 b7) = ((m 2 a1) - 1) then (vl_gd (vl_r32 (m 8 b7)) <| if (m 8 b7) = a1 then (vl_lt (v1 + 1) fun v13 => fn_X0_holdsRightly_L2 w N m a1 κ n v13) else some (0)) else some (0)) else κ v1
def fn_X0_holdsRightly (w : Nat) (N : Nat) (m : vl_M) (a1 : Int) : Option (Int) :=
    fn_X0_holdsRightly_L2 w N m a1 (fun (v2 : Int) => 
    some (1)) N 0
def fn_X1_gather_L7 (N : Nat) (κ : Int → vl_M → Option (vl_M)) : Nat → Int → vl_M → Option (vl_M)
  | 0, _, _ => none
  | n + 1, v2, m3 =>
    vl_gd (vl_r32 v2) <| vl_gd (vl_r32 (m3 1 13)) <| if v2 < (m3 1 13) then ((fn_X4_isEntry m3 v2).bind fun b8 => vl_gd (vl_r32 b8) <| vl_jn (fun (m10 : vl_M) => 
    vl_lt (v2 + 1) fun v12 => fn_X1_gather_L7 N  κ n v12 m10) fun κ11 => if b8 = 0 then (κ11 m3) else vl_lt (vl_up m3 16 3 ((m3 16 3) + 1)) fun m13 => vl_gd (0 ≤ (m3 16 3) ∧ (m3 16 3) < 400) <| vl_lt (vl_up m13 17 (m3 16 3) v2) fun m14 => κ11 m14) else κ v2 m3
def fn_X1_gather (N : Nat) (m : vl_M) : Option (vl_M) :=
    vl_lt (vl_up m 16 3 0) fun m1 => fn_X1_gather_L7 N  (fun (v4 : Int) (m5 : vl_M) => 
    some m5) N 0 m1
def fn_X1_startOf (m : vl_M) (a1 a2 : Int) : Option (Int) :=
    vl_gd (vl_r32 a1) <| vl_gd (vl_r32 a2) <| if a1 = a2 then (some (m 16 3)) else vl_lt ((a1 * (m 1 0))) fun v3 => vl_jn (fun (v4 : Int) => 
    vl_gd (vl_r32 v4) <| if v4 = 0 then (some (v3)) else vl_gd (vl_r32 v3) <| vl_gd (vl_r32 ((m 16 3) - (m 1 1))) <| some (min v3 ((m 16 3) - (m 1 1)))) fun κ5 => if 0 < a1 then (vl_gd (vl_r32 (a2 - 1)) <| if a1 = (a2 - 1) then (κ5 1) else κ5 0) else κ5 0
def fn_X6_lookAt (m : vl_M) (a1 : Int) : Option (vl_M) :=
    vl_gd (vl_r32 a1) <| vl_gd (vl_r32 (m 11 6)) <| vl_jn (fun (u_κ3 : Unit) => 
    vl_lt (vl_up m 18 3 ((m 18 3) + 1)) fun m4 => vl_gd (0 ≤ a1 ∧ a1 < 807) <| vl_gd (vl_r32 (m4 2 a1)) <| if (m4 2 a1) = 0 then (vl_lt (vl_up m4 18 5 a1) fun m8 => vl_lt (vl_up m8 18 6 0) fun m9 => some m9) else some m4) fun κ3 => if a1 = (m 11 6) then (κ3 ()) else (fn_X4_meet m a1 804).bind fun b11 => vl_gd (vl_r32 b11) <| if b11 = 0 then (some m) else κ3 ()
def fn_X6_nextInLeaf_L10 (w : Nat) (N : Nat) (κ : vl_M → Option (Int × vl_M)) : Nat → vl_M → Option (Int × vl_M)
  | 0, _ => none
  | n + 1, m2 =>
    vl_gd (0 ≤ (m2 18 5) ∧ (m2 18 5) < 807) <| vl_gd (vl_r32 (m2 18 6)) <| vl_gd (vl_r32 (m2 9 (m2 18 5))) <| if (m2 18 6) < (m2 9 (m2 18 5)) then ((fn_X4_thingAt w m2 (m2 18 5) (m2 18 6)).bind fun b9 => vl_lt (vl_up m2 18 6 ((m2 18 6) + 1)) fun m10 => (fn_X4_meet m10 b9 804).bind fun b11 => vl_gd (vl_r32 b11) <| if b11 = 0 then (fn_X6_nextInLeaf_L10 w N  κ n m10) else some (b9, m10)) else κ m2
def fn_X6_nextInLeaf (w : Nat) (N : Nat) (m : vl_M) : Option (Int × vl_M) :=
    vl_gd (vl_r32 (m 18 5)) <| if (m 18 5) = (-1) then (some ((-1), m)) else fn_X6_nextInLeaf_L10 w N  (fun (m3 : vl_M) => 
    vl_lt (vl_up m3 18 5 (-1)) fun m4 => some ((-1), m4)) N m
def fn_X0_noneIsTwice_L17 (N : Nat) (m : vl_M) (v1 : Int) (κ : Int → Option (Int)) : Nat → Int → Option (Int)
  | 0, _ => none
  | n + 1, v6 =>
    vl_gd (vl_r32 v6) <| if v6 < (m 1 13) then ((fn_X4_isEntry m v1).bind fun b10 => vl_gd (vl_r32 b10) <| if b10 = 0 then (vl_lt (v6 + 1) fun v12 => fn_X0_noneIsTwice_L17 N m v1 κ n v12) else (fn_X4_isEntry m v6).bind fun b13 => vl_gd (vl_r32 b13) <| if b13 = 0 then (vl_lt (v6 + 1) fun v15 => fn_X0_noneIsTwice_L17 N m v1 κ n v15) else (fn_X4_alike m v1 v6).bind fun b16 => vl_gd (vl_r32 b16) <| if b16 = 0 then (vl_lt (v6 + 1) fun v18 => fn_X0_noneIsTwice_L17 N m v1 κ n v18) else some (0)) else κ v6
def fn_X0_noneIsTwice_L2 (N : Nat) (m : vl_M) (κ : Int → Option (Int)) : Nat → Int → Option (Int)
  | 0, _ => none
  | n + 1, v1 =>
    vl_gd (vl_r32 v1) <| vl_gd (vl_r32 (m 1 13)) <| if v1 < (m 1 13) then (vl_lt ((v1 + 1)) fun v5 => fn_X0_noneIsTwice_L17 N m v1 (fun (v7 : Int) => 
    vl_lt (v1 + 1) fun v8 => fn_X0_noneIsTwice_L2 N m κ n v8) N v5) else κ v1
def fn_X0_noneIsTwice (N : Nat) (m : vl_M) : Option (Int) :=
    fn_X0_noneIsTwice_L2 N m (fun (v2 : Int) => 
    some (1)) N 0
def fn_X1_compare (m : vl_M) (a1 a2 a3 : Int) : Option (Int) :=
    vl_gd (0 ≤ a1 ∧ a1 < 807) <| vl_gd (0 ≤ a2 ∧ a2 < 807) <| (fn_J6_compare_7cf53 ((m 3 a1) + (m 5 a1)) ((m 3 a2) + (m 5 a2))).bind fun b5 => (fn_J6_compare_7cf53 ((m 4 a1) + (m 6 a1)) ((m 4 a2) + (m 6 a2))).bind fun b6 => vl_gd (vl_r32 a3) <| vl_jn (fun (v8 : Int) => 
    vl_jn (fun (v10 : Int) => 
    vl_gd (vl_r32 v8) <| if v8 = 0 then (vl_gd (vl_r32 v10) <| if v10 = 0 then ((fn_X4_compareNames m a1 a2).bind fun b14 => some (b14)) else some (v10)) else some (v8)) fun κ11 => if a3 = 0 then (κ11 b6) else κ11 b5) fun κ9 => if a3 = 0 then (κ9 b5) else κ9 b6
def fn_X2_isBefore (m : vl_M) (a1 a2 : Int) : Option (Int) :=
    vl_gd (0 ≤ a1 ∧ a1 < 807) <| vl_gd (0 ≤ a2 ∧ a2 < 807) <| vl_gd (vl_r32 (m 21 a1)) <| vl_gd (vl_r32 (m 21 a2)) <| if (m 21 a1) = (m 21 a2) then ((fn_X4_isEntry m a1).bind fun b7 => (fn_X4_isEntry m a2).bind fun b8 => vl_gd (vl_r32 b7) <| vl_gd (vl_r32 b8) <| if b7 = b8 then ((fn_X4_compareNames m a1 a2).bind fun b11 => vl_gd (vl_r32 b11) <| if b11 < 0 then (some (1)) else some (0)) else (fn_X4_isEntry m a1).bind fun b14 => vl_gd (b14 = 0 ∨ b14 = 1) <| some (b14)) else if (m 21 a1) < (m 21 a2) then (some (1)) else some (0)
def fn_X6_goOn_L5 (w : Nat) (N : Nat) (κ : Int → vl_M → Option (Int × vl_M)) : Nat → Int → vl_M → Option (Int × vl_M)
  | 0, _, _ => none
  | n + 1, v3, m4 =>
    vl_gd (vl_r32 v3) <| if v3 = (-1) then (vl_gd (vl_r32 (m4 18 4)) <| vl_gd (vl_r32 (m4 11 5)) <| if (m4 18 4) < (m4 11 5) then (vl_gd (0 ≤ (m4 18 4) ∧ (m4 18 4) < 404) <| (fn_X6_lookAt m4 (m4 13 (m4 18 4))).bind fun m13 => vl_lt (vl_up m13 18 4 ((m13 18 4) + 1)) fun m14 => (fn_X6_nextInLeaf w N m14).bind <| vl_un fun b15 m16 => fn_X6_goOn_L5 w N  κ n b15 m16) else κ v3 m4) else κ v3 m4
def fn_X6_goOn (w : Nat) (N : Nat) (m : vl_M) : Option (Int × vl_M) :=
    (fn_X6_nextInLeaf w N m).bind <| vl_un fun b1 m2 => fn_X6_goOn_L5 w N  (fun (v5 : Int) (m6 : vl_M) => 
    some (v5, m6)) N b1 m2
def fn_X0_isTight (w : Nat) (N : Nat) (m : vl_M) (a1 : Int) : Option (Int × vl_M) :=
    (fn_X4_fitAround w N m 805 a1).bind fun m2 => vl_gd (0 ≤ a1 ∧ a1 < 807) <| vl_gd (vl_r32 (m2 9 a1)) <| if (m2 9 a1) = 0 then (some (1, m2)) else (fn_X4_sameRectangle m2 805 a1).bind fun b6 => vl_gd (vl_r32 b6) <| if b6 = 0 then (some (0, m2)) else some (1, m2)
def fn_X1_groupInto_L44 (w : Nat) (N : Nat) (a1 : Int) (b1 : Int) (v2 : Int) (b9 : Int) (b11 : Int) (κ : Int → vl_M → Option (vl_M)) : Nat → Int → vl_M → Option (vl_M)
  | 0, _, _ => none
  | n + 1, v13, m14 =>
    vl_gd (vl_r32 v13) <| vl_gd (vl_r32 b11) <| if v13 < b11 then (vl_gd (0 ≤ v13 ∧ v13 < 400) <| (fn_X4_attach w N m14 b9 (m14 17 v13)).bind fun m26 => vl_lt (v13 + 1) fun v27 => fn_X1_groupInto_L44 w N a1 b1 v2 b9 b11 κ n v27 m26) else κ v13 m14
def fn_X1_groupInto_L11 (w : Nat) (N : Nat) (a1 : Int) (b1 : Int) (κ : Int → vl_M → Option (vl_M)) : Nat → Int → vl_M → Option (vl_M)
  | 0, _, _ => none
  | n + 1, v2, m3 =>
    vl_gd (vl_r32 v2) <| vl_gd (vl_r32 b1) <| if v2 < b1 then ((fn_X4_newNode m3 a1).bind <| vl_un fun b9 m10 => (fn_X1_startOf m10 (v2 + 1) b1).bind fun b11 => (fn_X1_startOf m10 v2 b1).bind fun b12 => fn_X1_groupInto_L44 w N a1 b1 v2 b9 b11 (fun (v15 : Int) (m16 : vl_M) => 
    vl_gd (0 ≤ v2 ∧ v2 < 400) <| vl_lt (vl_up m16 17 v2 b9) fun m17 => vl_lt (v2 + 1) fun v20 => fn_X1_groupInto_L11 w N a1 b1 κ n v20 m17) N b12 m10) else κ v2 m3
def fn_X1_groupInto (w : Nat) (N : Nat) (m : vl_M) (a1 : Int) : Option (vl_M) :=
    (fn_X1_groupsOf m (m 16 3)).bind fun b1 => fn_X1_groupInto_L11 w N a1 b1 (fun (v4 : Int) (m5 : vl_M) => 
    vl_lt (vl_up m5 16 3 b1) fun m6 => some m6) N 0 m
def fn_X1_sort_L52 (N : Nat) (a1 : Int) (a2 : Int) (a3 : Int) (v1 : Int) (v8 : Int) (v10 : Int) (v19 : Int) (κ : Int → vl_M → Option (vl_M)) : Nat → Int → vl_M → Option (vl_M)
  | 0, _, _ => none
  | n + 1, v20, m21 =>
    vl_gd (vl_r32 (v20 - v8)) <| vl_gd (vl_r32 a1) <| if (v20 - v8) < a1 then (κ v20 m21) else vl_gd (0 ≤ (v20 - v8) ∧ (v20 - v8) < 400) <| (fn_X1_compare m21 v19 (m21 17 (v20 - v8)) a3).bind fun b32 => vl_gd (vl_r32 b32) <| if b32 < 0 then (vl_gd (0 ≤ v20 ∧ v20 < 400) <| vl_lt (vl_up m21 17 v20 (m21 17 (v20 - v8))) fun m34 => vl_lt ((v20 - v8)) fun v37 => fn_X1_sort_L52 N a1 a2 a3 v1 v8 v10 v19 κ n v37 m34) else κ v20 m21
def fn_X1_sort_L33 (N : Nat) (a1 : Int) (a2 : Int) (a3 : Int) (v1 : Int) (v8 : Int) (κ : Int → vl_M → Option (vl_M)) : Nat → Int → vl_M → Option (vl_M)
  | 0, _, _ => none
  | n + 1, v10, m11 =>
    vl_gd (vl_r32 v10) <| vl_gd (vl_r32 a2) <| if v10 < a2 then (vl_gd (0 ≤ v10 ∧ v10 < 400) <| vl_lt ((m11 17 v10)) fun v19 => fn_X1_sort_L52 N a1 a2 a3 v1 v8 v10 v19 (fun (v22 : Int) (m23 : vl_M) => 
    vl_gd (0 ≤ v22 ∧ v22 < 400) <| vl_lt (vl_up m23 17 v22 v19) fun m24 => vl_lt (v10 + 1) fun v27 => fn_X1_sort_L33 N a1 a2 a3 v1 v8 κ n v27 m24) N v10 m11) else κ v10 m11
def fn_X1_sort_L13 (N : Nat) (a1 : Int) (a2 : Int) (a3 : Int) (κ : Int → vl_M → Option (vl_M)) : Nat → Int → vl_M → Option (vl_M)
  | 0, _, _ => none
  | n + 1, v1, m2 =>
    vl_gd (vl_r32 v1) <| if v1 < 5 then (vl_gd (0 ≤ v1 ∧ v1 < 5) <| vl_lt ((vl_gap v1)) fun v8 => vl_lt ((a1 + v8)) fun v9 => fn_X1_sort_L33 N a1 a2 a3 v1 v8 (fun (v12 : Int) (m13 : vl_M) => 
    vl_lt (v1 + 1) fun v14 => fn_X1_sort_L13 N a1 a2 a3 κ n v14 m13) N v9 m2) else κ v1 m2
def fn_X1_sort (N : Nat) (m : vl_M) (a1 a2 a3 : Int) : Option (vl_M) :=
    fn_X1_sort_L13 N a1 a2 a3 (fun (v3 : Int) (m4 : vl_M) => 
    some m4) N 0 m
def fn_X2_lesserBelow (m : vl_M) (a1 : Int) : Option (Int) :=
    vl_lt (((2 * a1) + 1)) fun v1 => vl_gd (vl_r32 (v1 + 1)) <| vl_gd (vl_r32 (m 19 4)) <| if (v1 + 1) < (m 19 4) then (vl_gd (0 ≤ (v1 + 1) ∧ (v1 + 1) < 807) <| vl_gd (0 ≤ v1 ∧ v1 < 807) <| (fn_X2_isBefore m (m 20 (v1 + 1)) (m 20 v1)).bind fun b8 => vl_gd (vl_r32 b8) <| if b8 = 0 then (some (v1)) else some (v1 + 1)) else some (v1)
def fn_X2_push_L42 (N : Nat) (a1 : Int) (κ : Int → vl_M → Option (vl_M)) : Nat → Int → vl_M → Option (vl_M)
  | 0, _, _ => none
  | n + 1, v8, m9 =>
    vl_gd (vl_r32 v8) <| if 0 < v8 then (vl_gd (0 ≤ (v8 - 1) ∧ (v8 - 1) < 2147483648) <| vl_gd (0 ≤ ((v8 - 1) / 2) ∧ ((v8 - 1) / 2) < 807) <| (fn_X2_isBefore m9 a1 (m9 20 ((v8 - 1) / 2))).bind fun b19 => vl_gd (vl_r32 b19) <| if b19 = 0 then (κ v8 m9) else vl_gd (0 ≤ v8 ∧ v8 < 807) <| vl_lt (vl_up m9 20 v8 (m9 20 ((v8 - 1) / 2))) fun m21 => vl_lt (((v8 - 1) / 2)) fun v24 => fn_X2_push_L42 N a1 κ n v24 m21) else κ v8 m9
def fn_X2_push (N : Nat) (m : vl_M) (a1 a2 a3 : Int) : Option (vl_M) :=
    vl_gd (vl_r32 (m 19 4)) <| if (m 19 4) < 807 then ((fn_X4_squareTo m a1 a2 a3).bind fun b2 => vl_gd (0 ≤ a1 ∧ a1 < 807) <| vl_lt (vl_up m 21 a1 b2) fun m3 => vl_lt (vl_up m3 19 4 ((m3 19 4) + 1)) fun m6 => vl_lt ((m3 19 4)) fun v7 => fn_X2_push_L42 N a1 (fun (v10 : Int) (m11 : vl_M) => 
    vl_gd (0 ≤ v10 ∧ v10 < 807) <| vl_lt (vl_up m11 20 v10 a1) fun m12 => some m12) N v7 m6) else some m
def fn_X0_findsAllWell_L4 (w : Nat) (N : Nat) (κ : Int → Int → vl_M → Option (Int × vl_M)) : Nat → Int → Int → vl_M → Option (Int × vl_M)
  | 0, _, _, _ => none
  | n + 1, v1, v2, m3 =>
    vl_gd (vl_r32 v2) <| vl_gd (vl_r32 (m3 11 5)) <| if v2 < (m3 11 5) then (vl_gd (0 ≤ v2 ∧ v2 < 404) <| vl_lt ((m3 13 v2)) fun v17 => (fn_X0_holdsEnough m3 v17).bind fun b18 => vl_gd (vl_r32 b18) <| if b18 = 0 then (some (0, m3)) else (fn_X0_holdsRightly w N m3 v17).bind fun b20 => vl_gd (vl_r32 b20) <| if b20 = 0 then (some (0, m3)) else (fn_X0_isTight w N m3 v17).bind <| vl_un fun b22 m23 => vl_gd (vl_r32 b22) <| if b22 = 0 then (some (0, m23)) else vl_gd (0 ≤ v17 ∧ v17 < 807) <| vl_gd (vl_r32 (m23 2 v17)) <| vl_jn (fun (v28 : Int) => 
    vl_lt (v2 + 1) fun v30 => fn_X0_findsAllWell_L4 w N  κ n v28 v30 m23) fun κ29 => if (m23 2 v17) = 0 then (vl_lt ((v1 + (m23 9 v17))) fun v31 => κ29 v31) else κ29 v1) else κ v1 v2 m3
def fn_X0_findsAllWell (w : Nat) (N : Nat) (m : vl_M) : Option (Int × vl_M) :=
    fn_X0_findsAllWell_L4 w N  (fun (v4 : Int) (v5 : Int) (m6 : vl_M) => 
    vl_gd (vl_r32 v4) <| vl_gd (vl_r32 (m6 1 12)) <| if v4 = (m6 1 12) then ((fn_X0_noneIsTwice N m6).bind fun b9 => vl_gd (vl_r32 b9) <| if b9 = 0 then (some (0, m6)) else some (1, m6)) else some (0, m6)) N 0 0 m
def fn_X1_sortSlices_L47 (N : Nat) (v5 : Int) (v6 : Int) (κ : Int → vl_M → Option (vl_M)) : Nat → Int → vl_M → Option (vl_M)
  | 0, _, _ => none
  | n + 1, v7, m8 =>
    vl_gd (vl_r32 v7) <| vl_gd (vl_r32 v5) <| if v7 < v5 then (vl_gd (vl_r32 (m8 16 3)) <| vl_gd (vl_r32 ((v7 + 1) * v6)) <| (fn_X1_sort N m8 (v7 * v6) (min (m8 16 3) ((v7 + 1) * v6)) 1).bind fun m16 => vl_lt (v7 + 1) fun v17 => fn_X1_sortSlices_L47 N v5 v6 κ n v17 m16) else κ v7 m8
def fn_X1_sortSlices_L21 (N : Nat) (m2 : vl_M) (b3 : Int) (κ : Int → Option (vl_M)) : Nat → Int → Option (vl_M)
  | 0, _ => none
  | n + 1, v4 =>
    vl_gd (vl_r32 (v4 * v4)) <| vl_gd (vl_r32 b3) <| if (v4 * v4) < b3 then (vl_lt (v4 + 1) fun v21 => fn_X1_sortSlices_L21 N m2 b3 κ n v21) else κ v4
def fn_X1_sortSlices (N : Nat) (m : vl_M) : Option (vl_M) :=
    (fn_X1_sort N m 0 (m 16 3) 0).bind fun m2 => (fn_X1_groupsOf m2 (m2 16 3)).bind fun b3 => fn_X1_sortSlices_L21 N m2 b3 (fun (v5 : Int) => 
    vl_lt ((v5 * (m2 1 0))) fun v6 => fn_X1_sortSlices_L47 N v5 v6 (fun (v9 : Int) (m10 : vl_M) => 
    some m10) N 0 m2) N 1
def fn_X2_pop_L36 (N : Nat) (v3 : Int) (v7 : Int) (κ : Int → Int → vl_M → Option (Int × vl_M)) : Nat → Int → Int → vl_M → Option (Int × vl_M)
  | 0, _, _, _ => none
  | n + 1, v9, v10, m11 =>
    vl_gd (vl_r32 v10) <| vl_gd (vl_r32 (m11 19 4)) <| if v10 < (m11 19 4) then (vl_gd (0 ≤ v10 ∧ v10 < 807) <| (fn_X2_isBefore m11 (m11 20 v10) v7).bind fun b22 => vl_gd (vl_r32 b22) <| if b22 = 0 then (κ v9 v10 m11) else vl_gd (0 ≤ v9 ∧ v9 < 807) <| vl_lt (vl_up m11 20 v9 (m11 20 v10)) fun m24 => (fn_X2_lesserBelow m24 v10).bind fun b27 => fn_X2_pop_L36 N v3 v7 κ n v10 b27 m24) else κ v9 v10 m11
def fn_X2_pop (N : Nat) (m : vl_M) : Option (Int × vl_M) :=
    vl_gd (0 ≤ 0 ∧ 0 < 807) <| vl_lt ((m 20 0)) fun v3 => vl_lt (vl_up m 19 4 ((m 19 4) - 1)) fun m4 => vl_gd (0 ≤ (m4 19 4) ∧ (m4 19 4) < 807) <| vl_lt ((m4 20 (m4 19 4))) fun v7 => (fn_X2_lesserBelow m4 0).bind fun b8 => fn_X2_pop_L36 N v3 v7 (fun (v12 : Int) (v13 : Int) (m14 : vl_M) => 
    vl_gd (0 ≤ v12 ∧ v12 < 807) <| vl_lt (vl_up m14 20 v12 v7) fun m15 => some (v3, m15)) N 0 b8 m4
def fn_X2_read_L13 (w : Nat) (N : Nat) (a1 : Int) (a2 : Int) (a3 : Int) (κ : Int → vl_M → Option (vl_M)) : Nat → Int → vl_M → Option (vl_M)
  | 0, _, _ => none
  | n + 1, v2, m3 =>
    vl_gd (0 ≤ a1 ∧ a1 < 807) <| vl_gd (vl_r32 v2) <| vl_gd (vl_r32 (m3 9 a1)) <| if v2 < (m3 9 a1) then ((fn_X4_thingAt w m3 a1 v2).bind fun b10 => (fn_X2_push N m3 b10 a2 a3).bind fun m12 => vl_lt (v2 + 1) fun v13 => fn_X2_read_L13 w N a1 a2 a3 κ n v13 m12) else κ v2 m3
def fn_X2_read (w : Nat) (N : Nat) (m : vl_M) (a1 a2 a3 : Int) : Option (vl_M) :=
    vl_lt (vl_up m 19 5 ((m 19 5) + 1)) fun m1 => fn_X2_read_L13 w N a1 a2 a3 (fun (v4 : Int) (m5 : vl_M) => 
    some m5) N 0 m1
def fn_X2_find_L29 (w : Nat) (N : Nat) (a1 : Int) (a2 : Int) (a3 : Int) (κ : Int → Int → vl_M → Option (Int × vl_M)) : Nat → Int → Int → vl_M → Option (Int × vl_M)
  | 0, _, _, _ => none
  | n + 1, v5, v6, m7 =>
    vl_gd (vl_r32 v6) <| if v6 < 807 then (vl_gd (vl_r32 (m7 19 4)) <| if 0 < (m7 19 4) then ((fn_X2_pop N m7).bind <| vl_un fun b13 m14 => (fn_X4_isEntry m14 b13).bind fun b15 => vl_gd (vl_r32 b15) <| if b15 = 0 then ((fn_X2_read w N m14 b13 a1 a2).bind fun m26 => vl_lt (v6 + 1) fun v27 => fn_X2_find_L29 w N a1 a2 a3 κ n v5 v27 m26) else vl_gd (vl_r32 v5) <| vl_gd (vl_r32 a3) <| if v5 < a3 then (vl_lt (v5 + 1) fun v22 => vl_lt (v6 + 1) fun v23 => fn_X2_find_L29 w N a1 a2 a3 κ n v22 v23 m14) else vl_gd (0 ≤ b13 ∧ b13 < 807) <| vl_lt (vl_up m14 19 6 (m14 21 b13)) fun m21 => some (b13, m21)) else κ v5 v6 m7) else κ v5 v6 m7
def fn_X2_find (w : Nat) (N : Nat) (m : vl_M) (a1 a2 a3 : Int) : Option (Int × vl_M) :=
    vl_lt (vl_up m 19 5 0) fun m1 => vl_lt (vl_up m1 19 4 0) fun m2 => (fn_X2_push N m2 (m2 11 6) a1 a2).bind fun m4 => fn_X2_find_L29 w N a1 a2 a3 (fun (v8 : Int) (v9 : Int) (m10 : vl_M) => 
    some ((-1), m10)) N 0 0 m4
def fn_X1_buildAnew_L32 (w : Nat) (N : Nat) : Nat → Int → vl_M → Option (vl_M)
  | 0, _, _ => none
  | n + 1, v8, m9 =>
    vl_gd (vl_r32 v8) <| if v8 = 0 then ((fn_X1_groupInto w N m9 v8).bind fun m12 => vl_lt (v8 + 1) fun v13 => fn_X1_buildAnew_L32 w N   n v13 m12) else vl_gd (vl_r32 (m9 16 3)) <| vl_jn (fun (m15 : vl_M) => 
    vl_gd (0 ≤ 0 ∧ 0 < 400) <| vl_lt (vl_up m15 11 6 (m15 17 0)) fun m19 => some m19) fun κ16 => if 1 < (m9 16 3) then (if v8 < 40 then ((fn_X1_groupInto w N m9 v8).bind fun m21 => vl_lt (v8 + 1) fun v22 => fn_X1_buildAnew_L32 w N   n v22 m21) else κ16 m9) else κ16 m9
def fn_X1_buildAnew (w : Nat) (N : Nat) (m : vl_M) : Option (vl_M) :=
    (fn_X1_gather N m).bind fun m2 => vl_gd (vl_r32 (m2 16 3)) <| if (m2 16 3) = 0 then ((fn_X5_startEmpty w N m2).bind fun m27 => some m27) else (fn_X1_sortSlices N m2).bind fun m5 => (fn_X4_forgetNodes m5).bind fun m7 => fn_X1_buildAnew_L32 w N   N 0 m7
