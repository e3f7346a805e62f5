def fn_X4_init (w : Nat) (N : Nat) (m : vl_M) (a1 a2 : Int) : Option (vl_M) :=
    vl_lt (vl_z m 2) fun m1 => vl_lt (vl_z m1 3) fun m2 => vl_lt (vl_z m2 4) fun m3 => vl_lt (vl_z m3 5) fun m4 => vl_lt (vl_z m4 6) fun m5 => vl_lt (vl_z m5 7) fun m6 => vl_lt (vl_z m6 8) fun m7 => vl_lt (vl_z m7 9) fun m8 => vl_lt (vl_up m8 1 0 a1) fun m9 => vl_lt (vl_up m9 1 1 a2) fun m10 => vl_lt (vl_up m10 1 10 (a1 + 1)) fun m11 => vl_gd ((404 * (m11 1 10)) = (404 * (w : Int))) <| vl_lt (vl_z m11 10) fun m13 => (fn_X4_forgetEntries m13).bind fun m15 => (fn_X4_forgetNodes m15).bind fun m17 => some m17
def fn_X3_init (w : Nat) (N : Nat) (m : vl_M) : Option (vl_M) :=
    vl_gd ((m 1 10) = (w : Int)) <| vl_lt (vl_z m 15) fun m2 => some m2
def fn_X5_init (w : Nat) (N : Nat) (m : vl_M) : Option (vl_M) :=
    vl_lt (vl_z m 12) fun m1 => vl_lt (vl_z m1 13) fun m2 => vl_lt (vl_z m2 14) fun m3 => (fn_X3_init w N m3 ).bind fun m4 => (fn_X5_startEmpty w N m4).bind fun m6 => some m6
def fn_X1_init (w : Nat) (N : Nat) (m : vl_M) : Option (vl_M) :=
    vl_lt (vl_z m 17) fun m1 => some m1
def fn_X6_init (w : Nat) (N : Nat) (m : vl_M) : Option (vl_M) :=
    some m
def fn_X2_init (w : Nat) (N : Nat) (m : vl_M) : Option (vl_M) :=
    vl_lt (vl_z m 20) fun m1 => vl_lt (vl_z m1 21) fun m2 => vl_lt (vl_up m2 19 6 (-1)) fun m3 => some m3
def fn_X0_init (w : Nat) (N : Nat) (m : vl_M) : Option (vl_M) :=
    some m
def fn_X7_init (w : Nat) (N : Nat) (m : vl_M) (a1 a2 : Int) : Option (vl_M) :=
    vl_gd (vl_r32 a1) <| vl_gd (vl_r32 (min 10 a1)) <| vl_lt ((max 4 (min 10 a1))) fun v3 => vl_lt (vl_z m 1) fun m4 => vl_gd (0 ≤ v3 ∧ v3 < 2147483648) <| vl_gd (vl_r32 (v3 / 2)) <| vl_gd (vl_r32 a2) <| vl_gd (vl_r32 (min (v3 / 2) a2)) <| (fn_X4_init w N m4 v3 (max 2 (min (v3 / 2) a2))).bind fun m9 => vl_lt (vl_z m9 11) fun m10 => (fn_X5_init w N m10 ).bind fun m11 => vl_lt (vl_z m11 16) fun m12 => (fn_X1_init w N m12 ).bind fun m13 => vl_lt (vl_z m13 18) fun m14 => (fn_X6_init w N m14 ).bind fun m15 => vl_lt (vl_z m15 19) fun m16 => (fn_X2_init w N m16 ).bind fun m17 => vl_lt (vl_z m17 22) fun m18 => (fn_X0_init w N m18 ).bind fun m19 => some m19
def fn_X8_init_L282 (N : Nat) (κ : Int → vl_M → Option (vl_M)) : Nat → Int → vl_M → Option (vl_M)
  | 0, _, _ => none
  | n + 1, v36, m37 =>
    vl_gd (vl_r32 v36) <| if v36 < 500 then (vl_gd (0 ≤ v36 ∧ v36 < 500) <| vl_lt (vl_up m37 26 v36 (-2)) fun m44 => vl_lt (v36 + 1) fun v47 => fn_X8_init_L282 N  κ n v47 m44) else κ v36 m37
def fn_X8_init_L256 (N : Nat) (κ : Int → vl_M → Option (vl_M)) : Nat → Int → vl_M → Option (vl_M)
  | 0, _, _ => none
  | n + 1, v32, m33 =>
    vl_gd (vl_r32 v32) <| if 400 < v32 then (κ v32 m33) else vl_gd (0 ≤ v32 ∧ v32 < 401) <| vl_lt (vl_up m33 24 v32 (-2)) fun m50 => vl_lt (v32 + 1) fun v53 => fn_X8_init_L256 N  κ n v53 m50
def fn_X8_init (N : Nat) (m : vl_M) (a1 a2 : Int) : Option (vl_M) :=
    vl_lt (vl_z m 24) fun m1 => vl_lt (vl_z m1 25) fun m2 => vl_lt (vl_z m2 26) fun m3 => vl_lt (vl_z m3 27) fun m4 => vl_lt (vl_z m4 28) fun m5 => vl_lt (vl_z m5 29) fun m6 => vl_lt (vl_z m6 30) fun m7 => vl_lt (vl_z m7 31) fun m8 => vl_lt (vl_z m8 32) fun m9 => vl_lt (vl_z m9 33) fun m10 => vl_lt (vl_z m10 34) fun m11 => vl_lt (vl_z m11 35) fun m12 => vl_lt (vl_z m12 36) fun m13 => vl_lt (vl_z m13 37) fun m14 => vl_lt (vl_z m14 38) fun m15 => vl_lt (vl_z m15 39) fun m16 => vl_lt (vl_z m16 40) fun m17 => vl_lt (vl_z m17 41) fun m18 => vl_lt (vl_z m18 42) fun m19 => vl_lt (vl_z m19 43) fun m20 => vl_lt (vl_z m20 44) fun m21 => vl_lt (vl_z m21 45) fun m22 => vl_lt (vl_z m22 46) fun m23 => vl_gd (vl_r32 a1) <| vl_jn (fun (v25 : Int) => 
    vl_lt (vl_up m23 23 1 v25) fun m27 => vl_gd (vl_r32 a2) <| vl_jn (fun (v29 : Int) => 
    vl_lt (vl_up m27 23 2 v29) fun m31 => fn_X8_init_L256 N  (fun (v34 : Int) (m35 : vl_M) => 
    fn_X8_init_L282 N  (fun (v38 : Int) (m39 : vl_M) => 
    (fn_X8_node N m39 0).bind <| vl_un fun b40 m41 => vl_lt (vl_up m41 23 11 b40) fun m42 => some m42) N 0 m35) N 0 m31) fun κ30 => if a2 < 2 then (κ30 2) else vl_gd (0 ≤ v25 ∧ v25 < 2147483648) <| vl_gd (vl_r32 (v25 / 2)) <| if (v25 / 2) < a2 then (κ30 (v25 / 2)) else κ30 a2) fun κ26 => if a1 < 4 then (κ26 4) else if 10 < a1 then (κ26 10) else κ26 a1
def fn_L_cell (sc : Nat × (Nat → Int32)) (a1 : Int) : Option Int :=
    vl_gd (vl_r32 a1) <| vl_gd (vl_r32 (sc.1 : Int)) <| if a1 < (sc.1 : Int) then (vl_gd (0 ≤ a1 ∧ a1 < (sc.1 : Int)) <| some ((vl_sc sc a1))) else some (0)
def fn_L_start (sc : Nat × (Nat → Int32)) (w N : Nat) (m r : vl_M) : Option Int :=
    vl_lt (vl_z m 0) fun m1 => (fn_L_cell sc 0).bind fun b2 => (fn_L_cell sc 1).bind fun b3 => (fn_X7_init w N m1 b2 b3).bind fun m4 => vl_lt (vl_z r 23) fun m5 => (fn_L_cell sc 0).bind fun b6 => (fn_L_cell sc 1).bind fun b7 => (fn_X8_init N m5 b6 b7).bind fun m8 => fn_L_law sc w N m4 m8
