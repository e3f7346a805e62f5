def fn_X3_needsAll (m : vl_M) (a1 : Int) : Option (Int) :=
    vl_gd (0 ≤ a1 ∧ a1 < 807) <| vl_gd (vl_r32 ((m 9 a1) + (m 14 2))) <| vl_gd (vl_r32 (m 1 1)) <| if (m 1 1) < ((m 9 a1) + (m 14 2)) then (some (0)) else some (1)
def fn_X3_takeLeft_L35 (w : Nat) (N : Nat) (v5 : Int) (κ : Int → vl_M → Option (Int × vl_M)) : Nat → Int → vl_M → Option (Int × vl_M)
  | 0, _, _ => none
  | n + 1, v7, m8 =>
    vl_gd (vl_r32 v7) <| vl_gd (vl_r32 (m8 14 2)) <| if v7 < (m8 14 2) then (vl_gd (0 ≤ (v7 + 1) ∧ (v7 + 1) < (w : Int)) <| vl_gd (0 ≤ v7 ∧ v7 < (w : Int)) <| vl_lt (vl_up m8 15 v7 (m8 15 (v7 + 1))) fun m15 => vl_lt (v7 + 1) fun v18 => fn_X3_takeLeft_L35 w N v5 κ n v18 m15) else κ v7 m8
def fn_X3_takeLeft (w : Nat) (N : Nat) (m : vl_M) (a1 : Int) : Option (Int × vl_M) :=
    vl_gd (vl_r32 a1) <| if a1 < 0 then (some (806, m)) else vl_gd (vl_r32 (m 14 2)) <| if a1 < (m 14 2) then (vl_gd (0 ≤ a1 ∧ a1 < (w : Int)) <| vl_lt ((m 15 a1)) fun v5 => vl_lt (vl_up m 14 2 ((m 14 2) - 1)) fun m6 => fn_X3_takeLeft_L35 w N v5 (fun (v9 : Int) (m10 : vl_M) => 
    some (v5, m10)) N a1 m6) else some (806, m)
def fn_X3_pourOut_L23 (w : Nat) (N : Nat) (a1 : Int) (κ : Int → vl_M → Option (vl_M)) : Nat → Int → vl_M → Option (vl_M)
  | 0, _, _ => none
  | n + 1, v6, m7 =>
    vl_gd (vl_r32 v6) <| vl_gd (vl_r32 (m7 14 2)) <| if v6 < (m7 14 2) then ((fn_X4_thingAt w m7 a1 v6).bind fun b13 => vl_gd (0 ≤ v6 ∧ v6 < (w : Int)) <| vl_lt (vl_up m7 15 v6 b13) fun m14 => vl_lt (v6 + 1) fun v17 => fn_X3_pourOut_L23 w N a1 κ n v17 m14) else κ v6 m7
def fn_X3_pourOut (w : Nat) (N : Nat) (m : vl_M) (a1 : Int) : Option (vl_M) :=
    vl_gd (0 ≤ a1 ∧ a1 < 807) <| vl_gd (vl_r32 (m 9 a1)) <| vl_gd (vl_r32 (w : Int)) <| vl_lt (vl_up m 14 2 (min (m 9 a1) (w : Int))) fun m5 => fn_X3_pourOut_L23 w N a1 (fun (v8 : Int) (m9 : vl_M) => 
    vl_lt (vl_up m9 9 a1 0) fun m10 => some m10) N 0 m5
def fn_X5_lowerRoot_L2 (w : Nat) (N : Nat) (κ : Int → vl_M → Option (vl_M)) : Nat → Int → vl_M → Option (vl_M)
  | 0, _, _ => none
  | n + 1, v1, m2 =>
    vl_gd (vl_r32 v1) <| if v1 < 40 then (vl_gd (0 ≤ (m2 11 6) ∧ (m2 11 6) < 807) <| vl_gd (vl_r32 (m2 2 (m2 11 6))) <| if 0 < (m2 2 (m2 11 6)) then (vl_gd (vl_r32 (m2 9 (m2 11 6))) <| if (m2 9 (m2 11 6)) = 1 then ((fn_X4_thingAt w m2 (m2 11 6) 0).bind fun b10 => (fn_X4_freeNode m2 (m2 11 6)).bind fun m12 => vl_gd (0 ≤ b10 ∧ b10 < 807) <| vl_lt (vl_up m12 8 b10 (-1)) fun m13 => vl_lt (vl_up m13 11 6 b10) fun m16 => vl_lt (v1 + 1) fun v17 => fn_X5_lowerRoot_L2 w N  κ n v17 m16) else κ v1 m2) else κ v1 m2) else κ v1 m2
def fn_X5_lowerRoot (w : Nat) (N : Nat) (m : vl_M) : Option (vl_M) :=
    fn_X5_lowerRoot_L2 w N  (fun (v3 : Int) (m4 : vl_M) => 
    some m4) N 0 m
def fn_X5_meetingNodes_L19 (N : Nat) (m : vl_M) (v3 : Int) (κ : Int → Int → Option (Int)) : Nat → Int → Int → Option (Int)
  | 0, _, _ => none
  | n + 1, v9, v10 =>
    vl_gd (vl_r32 v10) <| if v10 < (m 11 5) then (vl_gd (0 ≤ v3 ∧ v3 < 404) <| vl_gd (0 ≤ (m 13 v3) ∧ (m 13 v3) < 807) <| vl_gd (0 ≤ v10 ∧ v10 < 404) <| vl_gd (0 ≤ (m 13 v10) ∧ (m 13 v10) < 807) <| vl_gd (vl_r32 (m 2 (m 13 v3))) <| vl_gd (vl_r32 (m 2 (m 13 v10))) <| vl_jn (fun (v25 : Int) => 
    vl_lt (v10 + 1) fun v27 => fn_X5_meetingNodes_L19 N m v3 κ n v25 v27) fun κ26 => if (m 2 (m 13 v3)) = (m 2 (m 13 v10)) then ((fn_X4_meet m (m 13 v3) (m 13 v10)).bind fun b28 => vl_gd (vl_r32 b28) <| if b28 = 0 then (κ26 v9) else vl_lt (v9 + 1) fun v30 => κ26 v30) else κ26 v9) else κ v9 v10
def fn_X5_meetingNodes_L7 (N : Nat) (m : vl_M) (κ : Int → Int → Option (Int)) : Nat → Int → Int → Option (Int)
  | 0, _, _ => none
  | n + 1, v2, v3 =>
    vl_gd (vl_r32 v3) <| vl_gd (vl_r32 (m 11 5)) <| if v3 < (m 11 5) then (vl_lt ((v3 + 1)) fun v8 => fn_X5_meetingNodes_L19 N m v3 (fun (v11 : Int) (v12 : Int) => 
    vl_lt (v3 + 1) fun v13 => fn_X5_meetingNodes_L7 N m κ n v11 v13) N v2 v8) else κ v2 v3
def fn_X5_meetingNodes (N : Nat) (m : vl_M) : Option (Int) :=
    vl_lt ((m 11 5)) fun v1 => fn_X5_meetingNodes_L7 N m (fun (v4 : Int) (v5 : Int) => 
    some (v4)) N v1 0
def fn_X3_findSeeds_L17 (w : Nat) (N : Nat) (v2 : Int) (κ : Int → Int → vl_M → Option (vl_M)) : Nat → Int → Int → vl_M → Option (vl_M)
  | 0, _, _, _ => none
  | n + 1, v10, v11, m12 =>
    vl_gd (vl_r32 v11) <| vl_gd (vl_r32 (m12 14 2)) <| if v11 < (m12 14 2) then (vl_gd (0 ≤ v2 ∧ v2 < (w : Int)) <| vl_gd (0 ≤ v11 ∧ v11 < (w : Int)) <| (fn_X4_growth m12 (m12 15 v2) (m12 15 v11)).bind fun b23 => (fn_X4_area m12 (m12 15 v11)).bind fun b24 => vl_lt ((b23 - b24)) fun v25 => vl_gd (vl_r32 v25) <| vl_gd (vl_r32 v10) <| vl_jn (fun (v28 : Int) (m29 : vl_M) => 
    vl_lt (v11 + 1) fun v31 => fn_X3_findSeeds_L17 w N v2 κ n v28 v31 m29) fun κ30 => if v10 < v25 then (vl_lt (vl_up m12 14 3 v2) fun m32 => vl_lt (vl_up m32 14 4 v11) fun m33 => κ30 v25 m33) else κ30 v10 m12) else κ v10 v11 m12
def fn_X3_findSeeds_L5 (w : Nat) (N : Nat) (κ : Int → Int → vl_M → Option (vl_M)) : Nat → Int → Int → vl_M → Option (vl_M)
  | 0, _, _, _ => none
  | n + 1, v1, v2, m3 =>
    vl_gd (vl_r32 v2) <| vl_gd (vl_r32 (m3 14 2)) <| if v2 < (m3 14 2) then (vl_lt ((v2 + 1)) fun v9 => fn_X3_findSeeds_L17 w N v2 (fun (v13 : Int) (v14 : Int) (m15 : vl_M) => 
    vl_lt (v2 + 1) fun v16 => fn_X3_findSeeds_L5 w N  κ n v13 v16 m15) N v1 v9 m3) else κ v1 v2 m3
def fn_X3_findSeeds (w : Nat) (N : Nat) (m : vl_M) : Option (vl_M) :=
    fn_X3_findSeeds_L5 w N  (fun (v4 : Int) (v5 : Int) (m6 : vl_M) => 
    some m6) N (-2147483648) 0 m
def fn_X3_fitting (m : vl_M) (a1 a2 a3 : Int) : Option (Int) :=
    (fn_X4_growth m a2 a1).bind fun b1 => (fn_X4_growth m a3 a1).bind fun b2 => (fn_J6_compare_7cf53 b1 b2).bind fun b3 => vl_gd (vl_r32 b3) <| vl_jn (fun (v5 : Int) => 
    vl_gd (vl_r32 v5) <| vl_jn (fun (v8 : Int) => 
    vl_gd (vl_r32 v8) <| if 0 < v8 then (some (a3)) else some (a2)) fun κ9 => if v5 = 0 then (vl_gd (0 ≤ a2 ∧ a2 < 807) <| vl_gd (0 ≤ a3 ∧ a3 < 807) <| (fn_J6_compare_7cf53 (m 9 a2) (m 9 a3)).bind fun b16 => κ9 b16) else κ9 v5) fun κ6 => if b3 = 0 then ((fn_X4_area m a2).bind fun b18 => (fn_X4_area m a3).bind fun b19 => (fn_J6_compare_7cf53 b18 b19).bind fun b20 => κ6 b20) else κ6 b3
def fn_X3_mostDecided_L8 (w : Nat) (N : Nat) (m : vl_M) (a1 : Int) (a2 : Int) (κ : Int → Int → Int → Option (Int)) : Nat → Int → Int → Int → Option (Int)
  | 0, _, _, _ => none
  | n + 1, v1, v2, v3 =>
    vl_gd (vl_r32 v3) <| vl_gd (vl_r32 (m 14 2)) <| if v3 < (m 14 2) then (vl_gd (0 ≤ v3 ∧ v3 < (w : Int)) <| (fn_X4_growth m a1 (m 15 v3)).bind fun b11 => (fn_X4_growth m a2 (m 15 v3)).bind fun b12 => vl_gd (vl_r32 (b11 - b12)) <| vl_lt (((Int.natAbs (b11 - b12) : Nat) : Int)) fun v14 => vl_gd (vl_r32 v14) <| vl_gd (vl_r32 v2) <| vl_jn (fun (v17 : Int) (v18 : Int) => 
    vl_lt (v3 + 1) fun v20 => fn_X3_mostDecided_L8 w N m a1 a2 κ n v17 v18 v20) fun κ19 => if v2 < v14 then (κ19 v3 v14) else κ19 v1 v2) else κ v1 v2 v3
def fn_X3_mostDecided (w : Nat) (N : Nat) (m : vl_M) (a1 a2 : Int) : Option (Int) :=
    fn_X3_mostDecided_L8 w N m a1 a2 (fun (v4 : Int) (v5 : Int) (v6 : Int) => 
    some (v4)) N 0 (-1) 0
def fn_X5_leastGrowing_L13 (w : Nat) (N : Nat) (m : vl_M) (a1 : Int) (a2 : Int) (κ : Int → Int → Option (Int)) : Nat → Int → Int → Option (Int)
  | 0, _, _ => none
  | n + 1, v2, v3 =>
    vl_gd (0 ≤ a1 ∧ a1 < 807) <| vl_gd (vl_r32 v3) <| vl_gd (vl_r32 (m 9 a1)) <| if v3 < (m 9 a1) then ((fn_X4_thingAt w m a1 v3).bind fun b10 => (fn_X4_growth m b10 a2).bind fun b11 => (fn_X4_growth m v2 a2).bind fun b12 => (fn_J6_compare_7cf53 b11 b12).bind fun b13 => vl_gd (vl_r32 b13) <| vl_jn (fun (v15 : Int) => 
    vl_lt (v3 + 1) fun v17 => fn_X5_leastGrowing_L13 w N m a1 a2 κ n v15 v17) fun κ16 => if b13 < 0 then (κ16 b10) else if b13 = 0 then ((fn_X4_area m b10).bind fun b18 => (fn_X4_area m v2).bind fun b19 => vl_gd (vl_r32 b18) <| vl_gd (vl_r32 b19) <| if b18 < b19 then (κ16 b10) else κ16 v2) else κ16 v2) else κ v2 v3
def fn_X5_leastGrowing (w : Nat) (N : Nat) (m : vl_M) (a1 a2 : Int) : Option (Int) :=
    (fn_X4_thingAt w m a1 0).bind fun b1 => fn_X5_leastGrowing_L13 w N m a1 a2 (fun (v4 : Int) (v5 : Int) => 
    some (v4)) N b1 1
def fn_X3_share_L46 (w : Nat) (N : Nat) (a1 : Int) (a2 : Int) (κ : Int → vl_M → Option (vl_M)) : Nat → Int → vl_M → Option (vl_M)
  | 0, _, _ => none
  | n + 1, v13, m14 =>
    vl_gd (vl_r32 v13) <| vl_gd (vl_r32 (w : Int)) <| if v13 < (w : Int) then (vl_gd (vl_r32 (m14 14 2)) <| if 0 < (m14 14 2) then ((fn_X3_needsAll m14 a1).bind fun b20 => vl_gd (vl_r32 b20) <| vl_jn (fun (m22 : vl_M) => 
    vl_lt (v13 + 1) fun v24 => fn_X3_share_L46 w N a1 a2 κ n v24 m22) fun κ23 => if b20 = 0 then ((fn_X3_needsAll m14 a2).bind fun b25 => vl_gd (vl_r32 b25) <| if b25 = 0 then ((fn_X3_mostDecided w N m14 a1 a2).bind fun b27 => (fn_X3_takeLeft w N m14 b27).bind <| vl_un fun b28 m29 => (fn_X3_fitting m29 b28 a1 a2).bind fun b30 => (fn_X4_attach w N m29 b30 b28).bind fun m32 => κ23 m32) else (fn_X3_takeLeft w N m14 0).bind <| vl_un fun b33 m34 => (fn_X4_attach w N m34 a2 b33).bind fun m36 => κ23 m36) else (fn_X3_takeLeft w N m14 0).bind <| vl_un fun b38 m39 => (fn_X4_attach w N m39 a1 b38).bind fun m41 => κ23 m41) else κ v13 m14) else κ v13 m14
def fn_X3_share (w : Nat) (N : Nat) (m : vl_M) (a1 a2 : Int) : Option (vl_M) :=
    (fn_X3_pourOut w N m a1).bind fun m2 => (fn_X3_findSeeds w N m2).bind fun m4 => (fn_X3_takeLeft w N m4 (m4 14 4)).bind <| vl_un fun b5 m6 => (fn_X3_takeLeft w N m6 (m6 14 3)).bind <| vl_un fun b7 m8 => (fn_X4_attach w N m8 a1 b7).bind fun m10 => (fn_X4_attach w N m10 a2 b5).bind fun m12 => fn_X3_share_L46 w N a1 a2 (fun (v15 : Int) (m16 : vl_M) => 
    some m16) N 0 m12
def fn_X5_dissolve_L10 (w : Nat) (N : Nat) (a1 : Int) (κ : Int → vl_M → Option (vl_M)) : Nat → Int → vl_M → Option (vl_M)
  | 0, _, _ => none
  | n + 1, v3, m4 =>
    vl_gd (0 ≤ a1 ∧ a1 < 807) <| vl_gd (vl_r32 v3) <| vl_gd (vl_r32 (m4 9 a1)) <| if v3 < (m4 9 a1) then (vl_gd (vl_r32 (m4 11 3)) <| if (m4 11 3) < 160 then (vl_lt (vl_up m4 11 3 ((m4 11 3) + 1)) fun m15 => (fn_X4_thingAt w m15 a1 v3).bind fun b16 => vl_gd (0 ≤ (m4 11 3) ∧ (m4 11 3) < 160) <| vl_lt (vl_up m15 12 (m4 11 3) b16) fun m17 => vl_lt (vl_up m17 11 9 ((m17 11 9) + 1)) fun m20 => vl_lt (v3 + 1) fun v21 => fn_X5_dissolve_L10 w N a1 κ n v21 m20) else κ v3 m4) else κ v3 m4
def fn_X5_dissolve (w : Nat) (N : Nat) (m : vl_M) (a1 : Int) : Option (vl_M) :=
    (fn_X4_detach w N m a1).bind fun m2 => fn_X5_dissolve_L10 w N a1 (fun (v5 : Int) (m6 : vl_M) => 
    (fn_X4_freeNode m6 a1).bind fun m8 => vl_lt (vl_up m8 11 8 ((m8 11 8) + 1)) fun m9 => some m9) N 0 m2
def fn_X5_raiseRoot (w : Nat) (N : Nat) (m : vl_M) (a1 : Int) : Option (vl_M) :=
    vl_gd (0 ≤ (m 11 6) ∧ (m 11 6) < 807) <| (fn_X4_newNode m ((m 2 (m 11 6)) + 1)).bind <| vl_un fun b3 m4 => (fn_X4_attach w N m4 b3 (m4 11 6)).bind fun m6 => (fn_X4_attach w N m6 b3 a1).bind fun m8 => vl_lt (vl_up m8 11 6 b3) fun m9 => some m9
def fn_X5_splitUpwards_L4 (w : Nat) (N : Nat) (κ : Int → Int → vl_M → Option (vl_M)) : Nat → Int → Int → vl_M → Option (vl_M)
  | 0, _, _, _ => none
  | n + 1, v1, v2, m3 =>
    vl_gd (vl_r32 v2) <| if v2 < 40 then (vl_gd (vl_r32 v1) <| if v1 = (-1) then (κ v1 v2 m3) else vl_gd (0 ≤ v1 ∧ v1 < 807) <| vl_gd (vl_r32 (m3 9 v1)) <| vl_gd (vl_r32 (m3 1 0)) <| if (m3 1 0) < (m3 9 v1) then ((fn_X4_newNode m3 (m3 2 v1)).bind <| vl_un fun b13 m14 => vl_lt (vl_up m14 11 7 ((m14 11 7) + 1)) fun m15 => (fn_X3_share w N m15 v1 b13).bind fun m17 => vl_gd (vl_r32 (m17 11 6)) <| vl_jn (fun (m19 : vl_M) => 
    vl_lt ((m19 8 v1)) fun v21 => vl_lt (v2 + 1) fun v22 => fn_X5_splitUpwards_L4 w N  κ n v21 v22 m19) fun κ20 => if v1 = (m17 11 6) then ((fn_X5_raiseRoot w N m17 b13).bind fun m26 => κ20 m26) else (fn_X4_attachBehind w N m17 v1 b13).bind fun m24 => κ20 m24) else κ v1 v2 m3) else κ v1 v2 m3
def fn_X5_splitUpwards (w : Nat) (N : Nat) (m : vl_M) (a1 : Int) : Option (vl_M) :=
    fn_X5_splitUpwards_L4 w N  (fun (v4 : Int) (v5 : Int) (m6 : vl_M) => 
    some m6) N a1 0 m
def fn_X5_thinUpwards_L4 (w : Nat) (N : Nat) (κ : Int → Int → vl_M → Option (vl_M)) : Nat → Int → Int → vl_M → Option (vl_M)
  | 0, _, _, _ => none
  | n + 1, v1, v2, m3 =>
    vl_gd (vl_r32 v2) <| if v2 < 40 then (vl_gd (vl_r32 v1) <| if v1 = (-1) then (κ v1 v2 m3) else vl_gd (0 ≤ v1 ∧ v1 < 807) <| vl_lt ((m3 8 v1)) fun v11 => vl_gd (vl_r32 v11) <| vl_jn (fun (m13 : vl_M) => 
    vl_lt (v2 + 1) fun v15 => fn_X5_thinUpwards_L4 w N  κ n v11 v15 m13) fun κ14 => if v11 = (-1) then ((fn_X4_fitAround w N m3 v1 v1).bind fun m17 => κ14 m17) else vl_gd (vl_r32 (m3 9 v1)) <| vl_gd (vl_r32 (m3 1 1)) <| if (m3 9 v1) < (m3 1 1) then ((fn_X5_dissolve w N m3 v1).bind fun m23 => κ14 m23) else (fn_X4_fitAround w N m3 v1 v1).bind fun m21 => κ14 m21) else κ v1 v2 m3
def fn_X5_thinUpwards (w : Nat) (N : Nat) (m : vl_M) (a1 : Int) : Option (vl_M) :=
    fn_X5_thinUpwards_L4 w N  (fun (v4 : Int) (v5 : Int) (m6 : vl_M) => 
    some m6) N a1 0 m
def fn_X5_put_L7 (w : Nat) (N : Nat) (a1 : Int) (κ : Int → Int → vl_M → Option (vl_M)) : Nat → Int → Int → vl_M → Option (vl_M)
  | 0, _, _, _ => none
  | n + 1, v2, v3, m4 =>
    vl_gd (vl_r32 v3) <| if v3 < 40 then (vl_gd (0 ≤ v2 ∧ v2 < 807) <| vl_gd (0 ≤ a1 ∧ a1 < 807) <| vl_gd (vl_r32 (m4 2 v2)) <| vl_gd (vl_r32 ((m4 2 a1) + 1)) <| if ((m4 2 a1) + 1) < (m4 2 v2) then ((fn_X4_cover m4 v2 a1).bind fun m20 => (fn_X5_leastGrowing w N m20 v2 a1).bind fun b21 => vl_lt (v3 + 1) fun v22 => fn_X5_put_L7 w N a1 κ n b21 v22 m20) else κ v2 v3 m4) else κ v2 v3 m4
def fn_X5_put (w : Nat) (N : Nat) (m : vl_M) (a1 : Int) : Option (vl_M) :=
    vl_lt ((m 11 6)) fun v1 => fn_X5_put_L7 w N a1 (fun (v5 : Int) (v6 : Int) (m7 : vl_M) => 
    (fn_X4_attach w N m7 v5 a1).bind fun m9 => (fn_X5_splitUpwards w N m9 v5).bind fun m11 => some m11) N v1 0 m
def fn_X5_take_L38 (w : Nat) (N : Nat) (κ : Int → vl_M → Option (vl_M)) : Nat → Int → vl_M → Option (vl_M)
  | 0, _, _ => none
  | n + 1, v11, m12 =>
    vl_gd (vl_r32 v11) <| vl_gd (vl_r32 (m12 11 3)) <| if v11 < (m12 11 3) then (vl_gd (0 ≤ v11 ∧ v11 < 160) <| (fn_X5_put w N m12 (m12 12 v11)).bind fun m22 => vl_lt (v11 + 1) fun v23 => fn_X5_take_L38 w N  κ n v23 m22) else κ v11 m12
def fn_X5_take (w : Nat) (N : Nat) (m : vl_M) (a1 : Int) : Option (vl_M) :=
    vl_gd (0 ≤ a1 ∧ a1 < 807) <| vl_lt ((m 8 a1)) fun v3 => (fn_X4_detach w N m a1).bind fun m5 => (fn_X4_freeEntry m5 a1).bind fun m7 => vl_lt (vl_up m7 11 3 0) fun m8 => (fn_X5_thinUpwards w N m8 v3).bind fun m10 => fn_X5_take_L38 w N  (fun (v13 : Int) (m14 : vl_M) => 
    (fn_X5_lowerRoot w N m14).bind fun m16 => some m16) N 0 m10
def fn_X5_numberFrom_L64 (w : Nat) (N : Nat) (self : vl_M → Int → Int → Option (vl_M)) (a1 : Int) (a2 : Int) (κ : Int → vl_M → Option (vl_M)) : Nat → Int → vl_M → Option (vl_M)
  | 0, _, _ => none
  | n + 1, v11, m12 =>
    vl_gd (vl_r32 v11) <| vl_gd (vl_r32 (m12 9 a1)) <| if v11 < (m12 9 a1) then ((fn_X4_thingAt w m12 a1 v11).bind fun b17 => (self m12 b17 (a2 + 1)).bind fun m19 => vl_lt (v11 + 1) fun v20 => fn_X5_numberFrom_L64 w N self a1 a2 κ n v20 m19) else κ v11 m12
def fn_X5_numberFrom (w : Nat) (N : Nat) : Nat → vl_M → Int → Int → Option (vl_M)
  | 0, _, _, _ => none
  | rr + 1, m, a1, a2 =>
    vl_gd (vl_r32 a2) <| if a2 < 40 then (vl_gd (vl_r32 (m 11 5)) <| if (m 11 5) < 404 then (vl_gd (0 ≤ a1 ∧ a1 < 807) <| vl_lt (vl_up m 7 a1 (m 11 5)) fun m3 => vl_lt (vl_up m3 11 5 ((m3 11 5) + 1)) fun m6 => vl_gd (0 ≤ (m3 11 5) ∧ (m3 11 5) < 404) <| vl_lt (vl_up m6 13 (m3 11 5) a1) fun m7 => vl_gd (vl_r32 (m7 2 a1)) <| if (m7 2 a1) = 0 then (some m7) else fn_X5_numberFrom_L64 w N (fn_X5_numberFrom w N rr) a1 a2 (fun (v13 : Int) (m14 : vl_M) => 
    some m14) N 0 m7) else some m) else some m
def fn_X5_renumber (w : Nat) (N : Nat) (m : vl_M) : Option (vl_M) :=
    vl_lt (vl_up m 11 5 0) fun m1 => (fn_X5_numberFrom w N 60 m1 (m1 11 6) 0).bind fun m3 => some m3
def fn_X5_startEmpty (w : Nat) (N : Nat) (m : vl_M) : Option (vl_M) :=
    (fn_X4_forgetNodes m).bind fun m2 => (fn_X4_newNode m2 0).bind <| vl_un fun b3 m4 => vl_lt (vl_up m4 11 6 b3) fun m5 => (fn_X5_renumber w N m5).bind fun m7 => some m7
