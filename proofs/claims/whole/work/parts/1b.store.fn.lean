def fn_X4_area (m : vl_M) (a1 : Int) : Option (Int) :=
    vl_gd (0 ≤ a1 ∧ a1 < 807) <| some ((((m 5 a1) - (m 3 a1)) + 1) * (((m 6 a1) - (m 4 a1)) + 1))
def fn_X4_copyRectangle (m : vl_M) (a1 a2 : Int) : Option (vl_M) :=
    vl_gd (0 ≤ a1 ∧ a1 < 807) <| vl_gd (0 ≤ a2 ∧ a2 < 807) <| vl_lt (vl_up m 3 a2 (m 3 a1)) fun m3 => vl_lt (vl_up m3 4 a2 (m3 4 a1)) fun m6 => vl_lt (vl_up m6 5 a2 (m6 5 a1)) fun m7 => vl_lt (vl_up m7 6 a2 (m7 6 a1)) fun m8 => some m8
def fn_X4_describe (m : vl_M) (a1 a2 a3 a4 a5 a6 : Int) : Option (vl_M) :=
    vl_gd (0 ≤ a1 ∧ a1 < 807) <| vl_lt (vl_up m 7 a1 a2) fun m1 => vl_lt (vl_up m1 3 a1 a3) fun m4 => vl_lt (vl_up m4 4 a1 a4) fun m5 => vl_lt (vl_up m5 5 a1 a5) fun m6 => vl_lt (vl_up m6 6 a1 a6) fun m7 => some m7
def fn_X4_forgetEntries (m : vl_M) : Option (vl_M) :=
    vl_lt (vl_up m 1 12 0) fun m1 => vl_lt (vl_up m1 1 13 0) fun m2 => vl_lt (vl_up m2 1 14 (-1)) fun m3 => some m3
def fn_X4_forgetNodes (m : vl_M) : Option (vl_M) :=
    vl_lt (vl_up m 1 15 400) fun m1 => vl_lt (vl_up m1 1 16 (-1)) fun m2 => some m2
def fn_X4_freeEntry (m : vl_M) (a1 : Int) : Option (vl_M) :=
    vl_lt (vl_up m 1 12 ((m 1 12) - 1)) fun m1 => vl_gd (0 ≤ a1 ∧ a1 < 807) <| vl_lt (vl_up m1 2 a1 (-2)) fun m2 => vl_lt (vl_up m2 8 a1 (m2 1 14)) fun m5 => vl_lt (vl_up m5 1 14 a1) fun m6 => some m6
def fn_X4_freeNode (m : vl_M) (a1 : Int) : Option (vl_M) :=
    vl_gd (0 ≤ a1 ∧ a1 < 807) <| vl_lt (vl_up m 2 a1 (-2)) fun m1 => vl_lt (vl_up m1 8 a1 (m1 1 16)) fun m4 => vl_lt (vl_up m4 1 16 a1) fun m5 => some m5
def fn_X4_isEntry (m : vl_M) (a1 : Int) : Option (Int) :=
    vl_gd (0 ≤ a1 ∧ a1 < 807) <| vl_gd (vl_r32 (m 2 a1)) <| if (m 2 a1) = (-1) then (some (1)) else some (0)
def fn_X4_meet (m : vl_M) (a1 a2 : Int) : Option (Int) :=
    vl_gd (0 ≤ a1 ∧ a1 < 807) <| vl_gd (0 ≤ a2 ∧ a2 < 807) <| vl_gd (vl_r32 (m 3 a1)) <| vl_gd (vl_r32 (m 5 a2)) <| if (m 5 a2) < (m 3 a1) then (some (0)) else vl_gd (vl_r32 (m 3 a2)) <| vl_gd (vl_r32 (m 5 a1)) <| if (m 5 a1) < (m 3 a2) then (some (0)) else vl_gd (vl_r32 (m 4 a1)) <| vl_gd (vl_r32 (m 6 a2)) <| if (m 6 a2) < (m 4 a1) then (some (0)) else vl_gd (vl_r32 (m 4 a2)) <| vl_gd (vl_r32 (m 6 a1)) <| if (m 6 a1) < (m 4 a2) then (some (0)) else some (1)
def fn_X4_newNode (m : vl_M) (a1 : Int) : Option (Int × vl_M) :=
    vl_lt ((m 1 16)) fun v1 => vl_gd (vl_r32 v1) <| if v1 = (-1) then (vl_gd (vl_r32 (m 1 15)) <| if (m 1 15) < 804 then (vl_lt (vl_up m 1 15 ((m 1 15) + 1)) fun m4 => vl_lt ((m 1 15)) fun v5 => vl_gd (0 ≤ v5 ∧ v5 < 807) <| vl_lt (vl_up m4 2 v5 a1) fun m6 => vl_lt (vl_up m6 9 v5 0) fun m9 => vl_lt (vl_up m9 8 v5 (-1)) fun m10 => some (v5, m10)) else some (806, m)) else vl_gd (0 ≤ v1 ∧ v1 < 807) <| vl_lt (vl_up m 1 16 (m 8 v1)) fun m14 => vl_lt (vl_up m14 2 v1 a1) fun m15 => vl_lt (vl_up m15 9 v1 0) fun m16 => vl_lt (vl_up m16 8 v1 (-1)) fun m17 => some (v1, m17)
def fn_X4_placeAt (w : Nat) (m : vl_M) (a1 a2 a3 : Int) : Option (vl_M) :=
    vl_lt ((((a1 - 400) * (m 1 10)) + a2)) fun v1 => vl_gd (vl_r32 v1) <| if v1 < 0 then (some m) else vl_gd (vl_r32 (404 * (w : Int))) <| if v1 < (404 * (w : Int)) then (vl_gd (0 ≤ v1 ∧ v1 < (404 * (w : Int))) <| vl_lt (vl_up m 10 v1 a3) fun m4 => some m4) else some m
def fn_X4_sameRectangle (m : vl_M) (a1 a2 : Int) : Option (Int) :=
    vl_gd (0 ≤ a1 ∧ a1 < 807) <| vl_gd (0 ≤ a2 ∧ a2 < 807) <| vl_gd (vl_r32 (m 3 a1)) <| vl_gd (vl_r32 (m 3 a2)) <| if (m 3 a1) = (m 3 a2) then (vl_gd (vl_r32 (m 4 a1)) <| vl_gd (vl_r32 (m 4 a2)) <| if (m 4 a1) = (m 4 a2) then (vl_gd (vl_r32 (m 5 a1)) <| vl_gd (vl_r32 (m 5 a2)) <| if (m 5 a1) = (m 5 a2) then (vl_gd (vl_r32 (m 6 a1)) <| vl_gd (vl_r32 (m 6 a2)) <| if (m 6 a1) = (m 6 a2) then (some (1)) else some (0)) else some (0)) else some (0)) else some (0)
def fn_X4_side (m : vl_M) (a1 a2 : Int) : Option (Int) :=
    vl_gd (vl_r32 a2) <| if a2 = 0 then (vl_gd (0 ≤ a1 ∧ a1 < 807) <| some (m 3 a1)) else if a2 = 1 then (vl_gd (0 ≤ a1 ∧ a1 < 807) <| some (m 4 a1)) else if a2 = 2 then (vl_gd (0 ≤ a1 ∧ a1 < 807) <| some (m 5 a1)) else if a2 = 3 then (vl_gd (0 ≤ a1 ∧ a1 < 807) <| some (m 6 a1)) else some (-1)
def fn_X4_thingAt (w : Nat) (m : vl_M) (a1 a2 : Int) : Option (Int) :=
    vl_lt ((((a1 - 400) * (m 1 10)) + a2)) fun v1 => vl_gd (vl_r32 v1) <| if v1 < 0 then (some (806)) else vl_gd (vl_r32 (404 * (w : Int))) <| if v1 < (404 * (w : Int)) then (vl_gd (0 ≤ v1 ∧ v1 < (404 * (w : Int))) <| some (m 10 v1)) else some (806)
def fn_X4_alike (m : vl_M) (a1 a2 : Int) : Option (Int) :=
    vl_gd (0 ≤ a1 ∧ a1 < 807) <| vl_gd (0 ≤ a2 ∧ a2 < 807) <| vl_gd (vl_r32 (m 7 a1)) <| vl_gd (vl_r32 (m 7 a2)) <| if (m 7 a1) = (m 7 a2) then ((fn_X4_sameRectangle m a1 a2).bind fun b7 => vl_gd (vl_r32 b7) <| if b7 = 0 then (some (0)) else some (1)) else some (0)
def fn_X4_attachAt_L8 (w : Nat) (N : Nat) (a1 : Int) (a2 : Int) (a3 : Int) (κ : Int → vl_M → Option (vl_M)) : Nat → Int → vl_M → Option (vl_M)
  | 0, _, _ => none
  | n + 1, v4, m5 =>
    vl_gd (vl_r32 v4) <| vl_gd (vl_r32 a2) <| if a2 < v4 then ((fn_X4_thingAt w m5 a1 (v4 - 1)).bind fun b16 => (fn_X4_placeAt w m5 a1 v4 b16).bind fun m18 => vl_lt (v4 + (-1)) fun v19 => fn_X4_attachAt_L8 w N a1 a2 a3 κ n v19 m18) else κ v4 m5
def fn_X4_attachAt (w : Nat) (N : Nat) (m : vl_M) (a1 a2 a3 : Int) : Option (vl_M) :=
    vl_gd (0 ≤ a1 ∧ a1 < 807) <| vl_lt ((m 9 a1)) fun v3 => fn_X4_attachAt_L8 w N a1 a2 a3 (fun (v6 : Int) (m7 : vl_M) => 
    (fn_X4_placeAt w m7 a1 a2 a3).bind fun m9 => vl_lt (vl_up m9 9 a1 ((m9 9 a1) + 1)) fun m10 => vl_gd (0 ≤ a3 ∧ a3 < 807) <| vl_lt (vl_up m10 8 a3 a1) fun m11 => some m11) N v3 m
def fn_X4_compareNames (m : vl_M) (a1 a2 : Int) : Option (Int) :=
    vl_gd (0 ≤ a1 ∧ a1 < 807) <| vl_gd (0 ≤ a2 ∧ a2 < 807) <| vl_gd (vl_r32 (m 7 a1)) <| vl_gd (vl_r32 (m 7 a2)) <| if (m 7 a1) = (m 7 a2) then (vl_gd (vl_r32 (m 3 a1)) <| vl_gd (vl_r32 (m 3 a2)) <| if (m 3 a1) = (m 3 a2) then (vl_gd (vl_r32 (m 4 a1)) <| vl_gd (vl_r32 (m 4 a2)) <| if (m 4 a1) = (m 4 a2) then (vl_gd (vl_r32 (m 5 a1)) <| vl_gd (vl_r32 (m 5 a2)) <| if (m 5 a1) = (m 5 a2) then ((fn_J6_compare_7cf53 (m 6 a1) (m 6 a2)).bind fun b13 => some (b13)) else (fn_J6_compare_7cf53 (m 5 a1) (m 5 a2)).bind fun b14 => some (b14)) else (fn_J6_compare_7cf53 (m 4 a1) (m 4 a2)).bind fun b16 => some (b16)) else (fn_J6_compare_7cf53 (m 3 a1) (m 3 a2)).bind fun b18 => some (b18)) else (fn_J6_compare_7cf53 (m 7 a1) (m 7 a2)).bind fun b20 => some (b20)
def fn_X4_cover (m : vl_M) (a1 a2 : Int) : Option (vl_M) :=
    vl_gd (0 ≤ a1 ∧ a1 < 807) <| vl_gd (0 ≤ a2 ∧ a2 < 807) <| vl_gd (vl_r32 (m 3 a1)) <| vl_gd (vl_r32 (m 3 a2)) <| vl_lt (vl_up m 3 a1 (min (m 3 a1) (m 3 a2))) fun m7 => vl_gd (vl_r32 (m7 4 a1)) <| vl_gd (vl_r32 (m7 4 a2)) <| vl_lt (vl_up m7 4 a1 (min (m7 4 a1) (m7 4 a2))) fun m10 => vl_gd (vl_r32 (m10 5 a1)) <| vl_gd (vl_r32 (m10 5 a2)) <| vl_lt (vl_up m10 5 a1 (max (m10 5 a1) (m10 5 a2))) fun m13 => vl_gd (vl_r32 (m13 6 a1)) <| vl_gd (vl_r32 (m13 6 a2)) <| vl_lt (vl_up m13 6 a1 (max (m13 6 a1) (m13 6 a2))) fun m16 => some m16
def fn_X4_entriesMeeting_L5 (N : Nat) (m : vl_M) (a1 : Int) (κ : Int → Int → Option (Int)) : Nat → Int → Int → Option (Int)
  | 0, _, _ => none
  | n + 1, v1, v2 =>
    vl_gd (vl_r32 v2) <| vl_gd (vl_r32 (m 1 13)) <| if v2 < (m 1 13) then ((fn_X4_isEntry m v2).bind fun b7 => vl_gd (vl_r32 b7) <| vl_jn (fun (v9 : Int) => 
    vl_lt (v2 + 1) fun v11 => fn_X4_entriesMeeting_L5 N m a1 κ n v9 v11) fun κ10 => if b7 = 0 then (κ10 v1) else (fn_X4_meet m v2 a1).bind fun b12 => vl_gd (vl_r32 b12) <| if b12 = 0 then (κ10 v1) else vl_lt (v1 + 1) fun v14 => κ10 v14) else κ v1 v2
def fn_X4_entriesMeeting (N : Nat) (m : vl_M) (a1 a2 : Int) : Option (Int) :=
    fn_X4_entriesMeeting_L5 N m a1 (fun (v3 : Int) (v4 : Int) => 
    some (v3)) N 0 a2
def fn_X4_growth (m : vl_M) (a1 a2 : Int) : Option (Int) :=
    vl_gd (0 ≤ a1 ∧ a1 < 807) <| vl_gd (0 ≤ a2 ∧ a2 < 807) <| vl_gd (vl_r32 (m 5 a1)) <| vl_gd (vl_r32 (m 5 a2)) <| vl_gd (vl_r32 (m 3 a1)) <| vl_gd (vl_r32 (m 3 a2)) <| vl_lt ((((max (m 5 a1) (m 5 a2)) - (min (m 3 a1) (m 3 a2))) + 1)) fun v9 => vl_gd (vl_r32 (m 6 a1)) <| vl_gd (vl_r32 (m 6 a2)) <| vl_gd (vl_r32 (m 4 a1)) <| vl_gd (vl_r32 (m 4 a2)) <| vl_lt ((((max (m 6 a1) (m 6 a2)) - (min (m 4 a1) (m 4 a2))) + 1)) fun v14 => (fn_X4_area m a1).bind fun b15 => some ((v9 * v14) - b15)
def fn_X4_indexIn_L2 (w : Nat) (N : Nat) (m : vl_M) (a1 : Int) (a2 : Int) (κ : Int → Option (Int)) : Nat → Int → Option (Int)
  | 0, _ => none
  | n + 1, v1 =>
    vl_gd (0 ≤ a1 ∧ a1 < 807) <| vl_gd (vl_r32 v1) <| vl_gd (vl_r32 (m 9 a1)) <| if v1 < (m 9 a1) then ((fn_X4_thingAt w m a1 v1).bind fun b7 => vl_gd (vl_r32 b7) <| vl_gd (vl_r32 a2) <| if b7 = a2 then (κ v1) else vl_lt (v1 + 1) fun v10 => fn_X4_indexIn_L2 w N m a1 a2 κ n v10) else κ v1
def fn_X4_indexIn (w : Nat) (N : Nat) (m : vl_M) (a1 a2 : Int) : Option (Int) :=
    fn_X4_indexIn_L2 w N m a1 a2 (fun (v2 : Int) => 
    some (v2)) N 0
def fn_X4_newEntry (m : vl_M) (a1 : Int) : Option (Int × vl_M) :=
    vl_lt ((m 1 14)) fun v1 => vl_gd (vl_r32 v1) <| if v1 = (-1) then (vl_gd (vl_r32 (m 1 13)) <| if (m 1 13) < 400 then (vl_lt (vl_up m 1 13 ((m 1 13) + 1)) fun m4 => vl_lt ((m 1 13)) fun v5 => vl_lt (vl_up m4 1 12 ((m4 1 12) + 1)) fun m6 => vl_gd (0 ≤ v5 ∧ v5 < 807) <| vl_lt (vl_up m6 2 v5 (-1)) fun m7 => vl_gd (0 ≤ a1 ∧ a1 < 807) <| vl_lt (vl_up m7 7 v5 (m7 7 a1)) fun m12 => (fn_X4_copyRectangle m12 a1 v5).bind fun m14 => some (v5, m14)) else some (806, m)) else vl_gd (0 ≤ v1 ∧ v1 < 807) <| vl_lt (vl_up m 1 14 (m 8 v1)) fun m18 => vl_lt (vl_up m18 1 12 ((m18 1 12) + 1)) fun m19 => vl_lt (vl_up m19 2 v1 (-1)) fun m20 => vl_gd (0 ≤ a1 ∧ a1 < 807) <| vl_lt (vl_up m20 7 v1 (m20 7 a1)) fun m23 => (fn_X4_copyRectangle m23 a1 v1).bind fun m25 => some (v1, m25)
def fn_X4_squareTo (m : vl_M) (a1 a2 a3 : Int) : Option (Int) :=
    vl_gd (0 ≤ a1 ∧ a1 < 807) <| vl_gd (vl_r32 ((m 3 a1) - a2)) <| vl_gd (vl_r32 (a2 - (m 5 a1))) <| vl_gd (vl_r32 (max ((m 3 a1) - a2) (a2 - (m 5 a1)))) <| vl_lt ((max 0 (max ((m 3 a1) - a2) (a2 - (m 5 a1))))) fun v6 => vl_gd (vl_r32 ((m 4 a1) - a3)) <| vl_gd (vl_r32 (a3 - (m 6 a1))) <| vl_gd (vl_r32 (max ((m 4 a1) - a3) (a3 - (m 6 a1)))) <| vl_lt ((max 0 (max ((m 4 a1) - a3) (a3 - (m 6 a1))))) fun v10 => some ((v6 * v6) + (v10 * v10))
def fn_X4_attach (w : Nat) (N : Nat) (m : vl_M) (a1 a2 : Int) : Option (vl_M) :=
    vl_gd (0 ≤ a1 ∧ a1 < 807) <| vl_gd (vl_r32 (m 9 a1)) <| vl_jn (fun (m4 : vl_M) => 
    (fn_X4_attachAt w N m4 a1 (m4 9 a1) a2).bind fun m7 => some m7) fun κ5 => if (m 9 a1) = 0 then ((fn_X4_copyRectangle m a2 a1).bind fun m11 => κ5 m11) else (fn_X4_cover m a1 a2).bind fun m9 => κ5 m9
def fn_X4_attachBehind (w : Nat) (N : Nat) (m : vl_M) (a1 a2 : Int) : Option (vl_M) :=
    vl_gd (0 ≤ a1 ∧ a1 < 807) <| vl_lt ((m 8 a1)) fun v3 => vl_gd (vl_r32 v3) <| if v3 = (-1) then (some m) else (fn_X4_indexIn w N m v3 a1).bind fun b5 => (fn_X4_attachAt w N m v3 (b5 + 1) a2).bind fun m7 => some m7
def fn_X4_detach_L31 (w : Nat) (N : Nat) (v3 : Int) (κ : Int → vl_M → Option (vl_M)) : Nat → Int → vl_M → Option (vl_M)
  | 0, _, _ => none
  | n + 1, v10, m11 =>
    vl_gd (vl_r32 v10) <| vl_gd (vl_r32 (m11 9 v3)) <| if v10 < (m11 9 v3) then ((fn_X4_thingAt w m11 v3 v10).bind fun b17 => (fn_X4_placeAt w m11 v3 (v10 - 1) b17).bind fun m19 => vl_lt (v10 + 1) fun v20 => fn_X4_detach_L31 w N v3 κ n v20 m19) else κ v10 m11
def fn_X4_detach (w : Nat) (N : Nat) (m : vl_M) (a1 : Int) : Option (vl_M) :=
    vl_gd (0 ≤ a1 ∧ a1 < 807) <| vl_lt ((m 8 a1)) fun v3 => vl_gd (vl_r32 v3) <| if v3 = (-1) then (some m) else vl_gd (0 ≤ v3 ∧ v3 < 807) <| vl_gd (vl_r32 (m 9 v3)) <| if (m 9 v3) = 0 then (some m) else (fn_X4_indexIn w N m v3 a1).bind fun b8 => vl_lt ((b8 + 1)) fun v9 => fn_X4_detach_L31 w N v3 (fun (v12 : Int) (m13 : vl_M) => 
    vl_lt (vl_up m13 9 v3 ((m13 9 v3) - 1)) fun m14 => some m14) N v9 m
def fn_X4_entryLike_L2 (N : Nat) (m : vl_M) (a1 : Int) (κ : Int → Option (Int)) : Nat → Int → Option (Int)
  | 0, _ => none
  | n + 1, v1 =>
    vl_gd (vl_r32 v1) <| vl_gd (vl_r32 (m 1 13)) <| if v1 < (m 1 13) then ((fn_X4_isEntry m v1).bind fun b5 => vl_gd (vl_r32 b5) <| if b5 = 0 then (vl_lt (v1 + 1) fun v7 => fn_X4_entryLike_L2 N m a1 κ n v7) else (fn_X4_alike m v1 a1).bind fun b8 => vl_gd (vl_r32 b8) <| if b8 = 0 then (vl_lt (v1 + 1) fun v10 => fn_X4_entryLike_L2 N m a1 κ n v10) else some (v1)) else κ v1
def fn_X4_entryLike (N : Nat) (m : vl_M) (a1 : Int) : Option (Int) :=
    fn_X4_entryLike_L2 N m a1 (fun (v2 : Int) => 
    some (-1)) N 0
def fn_X4_fitAround_L2 (w : Nat) (N : Nat) (a1 : Int) (a2 : Int) (κ : Int → vl_M → Option (vl_M)) : Nat → Int → vl_M → Option (vl_M)
  | 0, _, _ => none
  | n + 1, v1, m2 =>
    vl_gd (0 ≤ a2 ∧ a2 < 807) <| vl_gd (vl_r32 v1) <| vl_gd (vl_r32 (m2 9 a2)) <| if v1 < (m2 9 a2) then (vl_jn (fun (m9 : vl_M) => 
    vl_lt (v1 + 1) fun v11 => fn_X4_fitAround_L2 w N a1 a2 κ n v11 m9) fun κ10 => if v1 = 0 then ((fn_X4_thingAt w m2 a2 0).bind fun b15 => (fn_X4_copyRectangle m2 b15 a1).bind fun m17 => κ10 m17) else (fn_X4_thingAt w m2 a2 v1).bind fun b12 => (fn_X4_cover m2 a1 b12).bind fun m14 => κ10 m14) else κ v1 m2
def fn_X4_fitAround (w : Nat) (N : Nat) (m : vl_M) (a1 a2 : Int) : Option (vl_M) :=
    fn_X4_fitAround_L2 w N a1 a2 (fun (v3 : Int) (m4 : vl_M) => 
    some m4) N 0 m
