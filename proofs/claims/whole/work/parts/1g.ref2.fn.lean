def fn_X8_comeBest_L12 (N : Nat) (m : vl_M) (a1 : Int) (a2 : Int) (a3 : Int) (κ : Int → Int → Int → Option (Int × vl_M)) : Nat → Int → Int → Int → Option (Int × vl_M)
  | 0, _, _, _ => none
  | n + 1, v1, v2, v3 =>
    vl_gd (vl_r32 v3) <| vl_gd (vl_r32 a1) <| if v3 < a1 then (vl_gd (0 ≤ v3 ∧ v3 < 11) <| vl_gd (vl_r32 (m 38 v3)) <| vl_jn (fun (v38 : Int) (v39 : Int) => 
    vl_lt (v3 + 1) fun v41 => fn_X8_comeBest_L12 N m a1 a2 a3 κ n v38 v39 v41) fun κ40 => if (m 38 v3) = 0 then ((fn_X8_growth m 1 a2 (m 37 v3)).bind fun b42 => (fn_X8_growth m 2 a2 (m 37 v3)).bind fun b43 => vl_lt ((b42 - b43)) fun v44 => vl_gd (vl_r64 v44) <| vl_jn (fun (v46 : Int) => 
    vl_gd (vl_r64 v46) <| vl_gd (vl_r64 v2) <| if v2 < v46 then (κ40 v3 v46) else κ40 v1 v2) fun κ47 => if v44 < 0 then (κ47 (-v44)) else κ47 v44) else κ40 v1 v2) else κ v1 v2 v3
def fn_X8_comeBest (N : Nat) (m : vl_M) (a1 a2 a3 : Int) : Option (Int × vl_M) :=
    fn_X8_comeBest_L12 N m a1 a2 a3 (fun (v4 : Int) (v5 : Int) (v6 : Int) => 
    vl_gd (0 ≤ v4 ∧ v4 < 11) <| (fn_X8_growth m 1 a2 (m 37 v4)).bind fun b9 => (fn_X8_growth m 2 a2 (m 37 v4)).bind fun b10 => vl_lt ((b9 - b10)) fun v11 => vl_gd (vl_r64 v11) <| vl_jn (fun (v13 : Int) => 
    vl_gd (vl_r64 v13) <| vl_jn (fun (v16 : Int) => 
    vl_gd (vl_r64 v16) <| vl_jn (fun (v19 : Int) => 
    (fn_X8_come N m v4 v19 a2 a3).bind <| vl_un fun b21 m22 => some (b21, m22)) fun κ20 => if 0 < v16 then (κ20 2) else κ20 1) fun κ17 => if v13 = 0 then (vl_gd (0 ≤ 0 ∧ 0 < 2) <| vl_gd (0 ≤ 1 ∧ 1 < 2) <| vl_gd (vl_r32 ((m 41 0) - (m 41 1))) <| κ17 ((m 41 0) - (m 41 1))) else κ17 v13) fun κ14 => if v11 = 0 then ((fn_X8_partArea m 1).bind fun b30 => (fn_X8_partArea m 2).bind fun b31 => κ14 (b30 - b31)) else κ14 v11) N (-2) (-1) 0
def fn_X8_pack_L167 (N : Nat) (κ : Int → Int → Int → vl_M → Option (Int × vl_M)) : Nat → Int → Int → Int → vl_M → Option (Int × vl_M)
  | 0, _, _, _, _ => none
  | n + 1, v24, v25, v26, m27 =>
    (fn_X8_layer N m27 v25 v26).bind <| vl_un fun b38 m39 => vl_lt ((v24 + b38)) fun v40 => vl_lt (v25 + 1) fun v41 => vl_gd (vl_r32 b38) <| if 1 < b38 then (fn_X8_pack_L167 N  κ n v40 v41 b38 m39) else κ v40 v41 b38 m39
def fn_X8_pack_L118 (N : Nat) (v5 : Int) (v19 : Int) (κ : Int → vl_M → Option (Int × vl_M)) : Nat → Int → vl_M → Option (Int × vl_M)
  | 0, _, _ => none
  | n + 1, v20, m21 =>
    vl_gd (vl_r32 v20) <| if v20 < v5 then ((fn_X8_lesser v5 (v20 + (v19 * (m21 23 1)))).bind fun b45 => (fn_X8_sort N m21 v20 b45 1).bind fun m47 => vl_lt ((v20 + (v19 * (m47 23 1)))) fun v48 => fn_X8_pack_L118 N v5 v19 κ n v48 m47) else κ v20 m21
def fn_X8_pack_L102 (N : Nat) (m14 : vl_M) (v5 : Int) (v17 : Int) (κ : Int → Option (Int × vl_M)) : Nat → Int → Option (Int × vl_M)
  | 0, _ => none
  | n + 1, v18 =>
    vl_gd (vl_r32 (v18 * v18)) <| vl_gd (vl_r32 v17) <| if (v18 * v18) < v17 then (vl_lt (v18 + 1) fun v52 => fn_X8_pack_L102 N m14 v5 v17 κ n v52) else κ v18
def fn_X8_pack_L43 (N : Nat) (v5 : Int) (κ : Int → vl_M → Option (Int × vl_M)) : Nat → Int → vl_M → Option (Int × vl_M)
  | 0, _, _ => none
  | n + 1, v8, m9 =>
    vl_gd (vl_r32 v8) <| if v8 < 500 then (vl_gd (0 ≤ v8 ∧ v8 < 500) <| vl_lt (vl_up m9 26 v8 (-2)) fun m59 => vl_lt (v8 + 1) fun v62 => fn_X8_pack_L43 N v5 κ n v62 m59) else κ v8 m9
def fn_X8_pack_L9 (N : Nat) (κ : Int → Int → vl_M → Option (Int × vl_M)) : Nat → Int → Int → vl_M → Option (Int × vl_M)
  | 0, _, _, _ => none
  | n + 1, v2, v3, m4 =>
    vl_gd (vl_r32 v3) <| if v3 < 400 then (vl_gd (0 ≤ v3 ∧ v3 < 401) <| vl_gd (vl_r32 (m4 24 v3)) <| vl_jn (fun (v68 : Int) (m69 : vl_M) => 
    vl_lt (v3 + 1) fun v71 => fn_X8_pack_L9 N  κ n v68 v71 m69) fun κ70 => if (m4 24 v3) < 0 then (κ70 v2 m4) else vl_gd (0 ≤ v2 ∧ v2 < 400) <| vl_lt (vl_up m4 45 v2 v3) fun m72 => vl_lt (v2 + 1) fun v75 => κ70 v75 m72) else κ v2 v3 m4
def fn_X8_pack (N : Nat) (m : vl_M) : Option (Int × vl_M) :=
    vl_lt (vl_up m 23 20 0) fun m1 => fn_X8_pack_L9 N  (fun (v5 : Int) (v6 : Int) (m7 : vl_M) => 
    fn_X8_pack_L43 N v5 (fun (v10 : Int) (m11 : vl_M) => 
    vl_gd (vl_r32 v5) <| if v5 = 0 then ((fn_X8_node N m11 0).bind <| vl_un fun b54 m55 => vl_lt (vl_up m55 23 11 b54) fun m56 => some (1, m56)) else (fn_X8_sort N m11 0 v5 0).bind fun m14 => vl_gd (0 ≤ ((v5 + (m14 23 1)) - 1) ∧ ((v5 + (m14 23 1)) - 1) < 2147483648) <| vl_gd (0 < (m14 23 1) ∧ (m14 23 1) < 2147483648) <| vl_lt ((((v5 + (m14 23 1)) - 1) / (m14 23 1))) fun v17 => fn_X8_pack_L102 N m14 v5 v17 (fun (v19 : Int) => 
    fn_X8_pack_L118 N v5 v19 (fun (v22 : Int) (m23 : vl_M) => 
    fn_X8_pack_L167 N  (fun (v28 : Int) (v29 : Int) (v30 : Int) (m31 : vl_M) => 
    vl_gd (0 ≤ 0 ∧ 0 < 400) <| vl_lt (vl_up m31 23 11 (m31 45 0)) fun m34 => vl_gd (0 ≤ (m34 23 11) ∧ (m34 23 11) < 500) <| vl_lt (vl_up m34 30 (m34 23 11) (-2)) fun m35 => some (v28, m35)) N 0 0 v5 m23) N 0 m14) N 1) N 0 m7) N 0 0 m1
def fn_X8_split_L505 (N : Nat) (b32 : Int) (v44 : Int) (v46 : Int) (κ : Int → vl_M → Option (vl_M)) : Nat → Int → vl_M → Option (vl_M)
  | 0, _, _ => none
  | n + 1, v50, m51 =>
    vl_gd (vl_r32 v50) <| vl_gd (vl_r32 v46) <| if v46 < v50 then (vl_gd (0 ≤ (((11 * v44) + v50) - 1) ∧ (((11 * v44) + v50) - 1) < 5500) <| vl_gd (0 ≤ ((11 * v44) + v50) ∧ ((11 * v44) + v50) < 5500) <| vl_lt (vl_up m51 28 ((11 * v44) + v50) (m51 28 (((11 * v44) + v50) - 1))) fun m67 => vl_lt (v50 + (-1)) fun v70 => fn_X8_split_L505 N b32 v44 v46 κ n v70 m67) else κ v50 m51
def fn_X8_split_L364 (N : Nat) (a1 : Int) (v5 : Int) (b32 : Int) (κ : Int → vl_M → Option (vl_M)) : Nat → Int → vl_M → Option (vl_M)
  | 0, _, _ => none
  | n + 1, v35, m36 =>
    vl_gd (vl_r32 v35) <| vl_gd (vl_r32 v5) <| if v35 < v5 then (vl_gd (0 ≤ v35 ∧ v35 < 11) <| vl_gd (0 ≤ (m36 39 v35) ∧ (m36 39 v35) < 11) <| vl_gd (vl_r32 (m36 38 (m36 39 v35))) <| vl_jn (fun (v89 : Int) => 
    (fn_X8_hold m36 v89 (m36 37 (m36 39 v35))).bind fun m92 => vl_lt (v35 + 1) fun v93 => fn_X8_split_L364 N a1 v5 b32 κ n v93 m92) fun κ90 => if (m36 38 (m36 39 v35)) = 1 then (κ90 a1) else κ90 b32) else κ v35 m36
def fn_X8_split_L286 (N : Nat) (a1 : Int) (v4 : Int) (v5 : Int) (v105 : Int) (κ : Int → Int → vl_M → Option (vl_M)) : Nat → Int → Int → vl_M → Option (vl_M)
  | 0, _, _, _ => none
  | n + 1, v107, v108, m109 =>
    vl_gd (vl_r32 v108) <| if v108 < v5 then (vl_gd (0 ≤ v108 ∧ v108 < 11) <| vl_gd (vl_r32 (m109 38 v108)) <| vl_jn (fun (v117 : Int) (m118 : vl_M) => 
    vl_lt (v108 + 1) fun v120 => fn_X8_split_L286 N a1 v4 v5 v105 κ n v117 v120 m118) fun κ119 => if (m109 38 v108) = 0 then ((fn_X8_come N m109 v108 v105 v4 v107).bind <| vl_un fun b121 m122 => κ119 b121 m122) else κ119 v107 m109) else κ v107 v108 m109
def fn_X8_split_L216 (N : Nat) (a1 : Int) (v4 : Int) (v5 : Int) (κ : Int → vl_M → Option (vl_M)) : Nat → Int → vl_M → Option (vl_M)
  | 0, _, _ => none
  | n + 1, v28, m29 =>
    vl_gd (vl_r32 v28) <| vl_gd (vl_r32 v5) <| if v28 < v5 then (vl_gd (vl_r32 (((m29 41 0) + v5) - v28)) <| vl_gd (vl_r32 (m29 23 2)) <| vl_jn (fun (v100 : Int) (m101 : vl_M) => 
    vl_gd (vl_r32 (((m101 41 0) + v5) - v100)) <| vl_gd (vl_r32 (m101 23 2)) <| vl_jn (fun (v105 : Int) => 
    fn_X8_split_L286 N a1 v4 v5 v105 (fun (v110 : Int) (v111 : Int) (m112 : vl_M) => 
    fn_X8_split_L216 N a1 v4 v5 κ n v110 m112) N v100 0 m101) fun κ106 => if (((m101 41 0) + v5) - v100) = (m101 23 2) then (κ106 1) else κ106 2) fun κ102 => if (((m29 41 0) + v5) - v28) = (m29 23 2) then (κ102 v28 m29) else vl_gd (vl_r32 (((m29 41 1) + v5) - v28)) <| if (((m29 41 1) + v5) - v28) = (m29 23 2) then (κ102 v28 m29) else (fn_X8_comeBest N m29 v5 v4 v28).bind <| vl_un fun b127 m128 => fn_X8_split_L216 N a1 v4 v5 κ n b127 m128) else κ v28 m29
def fn_X8_split_L89 (N : Nat) (m9 : vl_M) (a1 : Int) (v4 : Int) (v5 : Int) (v13 : Int) (κ : Int → Int → Int → Int → Option (vl_M)) : Nat → Int → Int → Int → Int → Option (vl_M)
  | 0, _, _, _, _ => none
  | n + 1, v135, v136, v137, v138 =>
    vl_gd (vl_r32 v138) <| if v138 < v5 then (vl_gd (0 ≤ v13 ∧ v13 < 11) <| vl_gd (0 ≤ v138 ∧ v138 < 11) <| (fn_X8_areaBoth m9 v4 (m9 37 v13) v4 (m9 37 v138)).bind fun b149 => (fn_X8_areaOf m9 v4 (m9 37 v13)).bind fun b150 => (fn_X8_areaOf m9 v4 (m9 37 v138)).bind fun b151 => vl_lt (((b149 - b150) - b151)) fun v152 => vl_gd (vl_r64 v152) <| vl_gd (vl_r64 v137) <| vl_jn (fun (v155 : Int) (v156 : Int) (v157 : Int) => 
    vl_lt (v138 + 1) fun v159 => fn_X8_split_L89 N m9 a1 v4 v5 v13 κ n v155 v156 v157 v159) fun κ158 => if v137 < v152 then (κ158 v13 v138 v152) else κ158 v135 v136 v137) else κ v135 v136 v137 v138
def fn_X8_split_L77 (N : Nat) (m9 : vl_M) (a1 : Int) (v4 : Int) (v5 : Int) (κ : Int → Int → Int → Int → Option (vl_M)) : Nat → Int → Int → Int → Int → Option (vl_M)
  | 0, _, _, _, _ => none
  | n + 1, v10, v11, v12, v13 =>
    vl_gd (vl_r32 v13) <| vl_gd (vl_r32 v5) <| if v13 < v5 then (vl_lt ((v13 + 1)) fun v134 => fn_X8_split_L89 N m9 a1 v4 v5 v13 (fun (v139 : Int) (v140 : Int) (v141 : Int) (v142 : Int) => 
    vl_lt (v13 + 1) fun v143 => fn_X8_split_L77 N m9 a1 v4 v5 κ n v139 v140 v141 v143) N v10 v11 v12 v134) else κ v10 v11 v12 v13
def fn_X8_split_L29 (N : Nat) (a1 : Int) (v4 : Int) (v5 : Int) (κ : Int → vl_M → Option (vl_M)) : Nat → Int → vl_M → Option (vl_M)
  | 0, _, _ => none
  | n + 1, v6, m7 =>
    vl_gd (vl_r32 v6) <| vl_gd (vl_r32 v5) <| if v6 < v5 then ((fn_X8_heldBy m7 a1 v6).bind fun b165 => vl_gd (0 ≤ v6 ∧ v6 < 11) <| vl_lt (vl_up m7 37 v6 b165) fun m166 => vl_lt (vl_up m166 38 v6 0) fun m169 => vl_lt (v6 + 1) fun v170 => fn_X8_split_L29 N a1 v4 v5 κ n v170 m169) else κ v6 m7
def fn_X8_split (N : Nat) (m : vl_M) (a1 : Int) : Option (vl_M) :=
    vl_lt (vl_up m 23 12 ((m 23 12) + 1)) fun m1 => vl_gd (0 ≤ a1 ∧ a1 < 500) <| vl_lt (((m1 26 a1) - 1)) fun v4 => vl_lt ((m1 27 a1)) fun v5 => fn_X8_split_L29 N a1 v4 v5 (fun (v8 : Int) (m9 : vl_M) => 
    fn_X8_split_L77 N m9 a1 v4 v5 (fun (v14 : Int) (v15 : Int) (v16 : Int) (v17 : Int) => 
    vl_gd (0 ≤ 0 ∧ 0 < 2) <| vl_lt (vl_up m9 41 0 0) fun m18 => vl_gd (0 ≤ 1 ∧ 1 < 2) <| vl_lt (vl_up m18 41 1 0) fun m21 => (fn_X8_come N m21 v14 1 v4 0).bind <| vl_un fun b24 m25 => (fn_X8_come N m25 v15 2 v4 b24).bind <| vl_un fun b26 m27 => fn_X8_split_L216 N a1 v4 v5 (fun (v30 : Int) (m31 : vl_M) => 
    (fn_X8_node N m31 (m31 26 a1)).bind <| vl_un fun b32 m33 => vl_lt (vl_up m33 27 a1 0) fun m34 => fn_X8_split_L364 N a1 v5 b32 (fun (v37 : Int) (m38 : vl_M) => 
    (fn_X8_measure N m38 a1).bind fun m40 => (fn_X8_measure N m40 b32).bind fun m42 => vl_gd (vl_r32 (m42 23 11)) <| if a1 = (m42 23 11) then ((fn_X8_node N m42 ((m42 26 a1) + 1)).bind <| vl_un fun b72 m73 => vl_lt (vl_up m73 23 11 b72) fun m74 => (fn_X8_hold m74 (m74 23 11) a1).bind fun m76 => (fn_X8_hold m76 (m76 23 11) b32).bind fun m78 => (fn_X8_measure N m78 (m78 23 11)).bind fun m80 => some m80) else vl_lt ((m42 30 a1)) fun v44 => (fn_X8_placeIn N m42 v44 a1).bind fun b45 => vl_lt ((b45 + 1)) fun v46 => vl_gd (0 ≤ v44 ∧ v44 < 500) <| vl_lt ((m42 27 v44)) fun v49 => fn_X8_split_L505 N b32 v44 v46 (fun (v52 : Int) (m53 : vl_M) => 
    vl_gd (0 ≤ ((11 * v44) + v46) ∧ ((11 * v44) + v46) < 5500) <| vl_lt (vl_up m53 28 ((11 * v44) + v46) b32) fun m54 => vl_lt (vl_up m54 27 v44 ((m54 27 v44) + 1)) fun m57 => vl_gd (0 ≤ b32 ∧ b32 < 500) <| vl_lt (vl_up m57 30 b32 v44) fun m58 => (fn_X8_measureUp N m58 v44).bind fun m62 => some m62) N v49 m42) N 0 m34) N b26 m27) N 0 1 (-9223372036854775808) 0) N 0 m1
def fn_X8_put_L39 (N : Nat) (κ : Int → vl_M → Option (vl_M)) : Nat → Int → vl_M → Option (vl_M)
  | 0, _, _ => none
  | n + 1, v8, m9 =>
    vl_gd (vl_r32 v8) <| if v8 < 0 then (κ v8 m9) else vl_gd (0 ≤ v8 ∧ v8 < 500) <| vl_lt ((m9 30 v8)) fun v15 => vl_gd (vl_r32 (m9 27 v8)) <| vl_gd (vl_r32 (m9 23 1)) <| vl_jn (fun (m18 : vl_M) => 
    fn_X8_put_L39 N  κ n v15 m18) fun κ19 => if (m9 23 1) < (m9 27 v8) then ((fn_X8_split N m9 v8).bind fun m21 => κ19 m21) else κ19 m9
def fn_X8_put_L5 (N : Nat) (m : vl_M) (a1 : Int) (a2 : Int) (κ : Int → Option (vl_M)) : Nat → Int → Option (vl_M)
  | 0, _ => none
  | n + 1, v2 =>
    vl_gd (0 ≤ v2 ∧ v2 < 500) <| vl_gd (vl_r32 (m 26 v2)) <| vl_gd (vl_r32 (a1 + 1)) <| if (a1 + 1) < (m 26 v2) then ((fn_X8_choose N m v2 a1 a2).bind fun b28 => fn_X8_put_L5 N m a1 a2 κ n b28) else κ v2
def fn_X8_put (N : Nat) (m : vl_M) (a1 a2 : Int) : Option (vl_M) :=
    vl_lt ((m 23 11)) fun v1 => fn_X8_put_L5 N m a1 a2 (fun (v3 : Int) => 
    (fn_X8_hold m v3 a2).bind fun m5 => (fn_X8_measureUp N m5 v3).bind fun m7 => fn_X8_put_L39 N  (fun (v10 : Int) (m11 : vl_M) => 
    some m11) N v3 m7) N v1
def fn_X8_insert_L48 (N : Nat) (m : vl_M) (a1 : Int) (a2 : Int) (a3 : Int) (a4 : Int) (a5 : Int) (κ : Int → Option (Int × vl_M)) : Nat → Int → Option (Int × vl_M)
  | 0, _ => none
  | n + 1, v6 =>
    vl_gd (0 ≤ v6 ∧ v6 < 401) <| vl_gd (vl_r32 (m 24 v6)) <| if (m 24 v6) < 0 then (κ v6) else vl_lt (v6 + 1) fun v30 => fn_X8_insert_L48 N m a1 a2 a3 a4 a5 κ n v30
def fn_X8_insert (N : Nat) (m : vl_M) (a1 a2 a3 a4 a5 : Int) : Option (Int × vl_M) :=
    (fn_X8_isEntry a1 a2 a3 a4 a5).bind fun b1 => vl_gd (vl_r32 b1) <| if b1 = 0 then (some ((-1), m)) else (fn_X8_find N m a1 a2 a3 a4 a5).bind fun b3 => vl_gd (vl_r32 b3) <| if b3 < 0 then (vl_gd (vl_r32 (m 23 5)) <| if (m 23 5) = 400 then (some ((-3), m)) else fn_X8_insert_L48 N m a1 a2 a3 a4 a5 (fun (v7 : Int) => 
    vl_gd (0 ≤ v7 ∧ v7 < 401) <| vl_lt (vl_up m 24 v7 a1) fun m8 => vl_gd (0 ≤ (4 * v7) ∧ (4 * v7) < 1604) <| vl_lt (vl_up m8 25 (4 * v7) a2) fun m11 => vl_gd (0 ≤ ((4 * v7) + 1) ∧ ((4 * v7) + 1) < 1604) <| vl_lt (vl_up m11 25 ((4 * v7) + 1) a3) fun m14 => vl_gd (0 ≤ ((4 * v7) + 2) ∧ ((4 * v7) + 2) < 1604) <| vl_lt (vl_up m14 25 ((4 * v7) + 2) a4) fun m17 => vl_gd (0 ≤ ((4 * v7) + 3) ∧ ((4 * v7) + 3) < 1604) <| vl_lt (vl_up m17 25 ((4 * v7) + 3) a5) fun m20 => vl_lt (vl_up m20 23 5 ((m20 23 5) + 1)) fun m23 => vl_lt (vl_up m23 23 20 0) fun m24 => (fn_X8_put N m24 (-1) v7).bind fun m26 => some ((m26 23 5), m26)) N 0) else some ((-2), m)
def fn_X8_remove_L276 (N : Nat) (κ : vl_M → Option (Int × vl_M)) : Nat → vl_M → Option (Int × vl_M)
  | 0, _ => none
  | n + 1, m23 =>
    vl_gd (0 ≤ (m23 23 11) ∧ (m23 23 11) < 500) <| vl_gd (vl_r32 (m23 26 (m23 23 11))) <| if 0 < (m23 26 (m23 23 11)) then (vl_gd (vl_r32 (m23 27 (m23 23 11))) <| if (m23 27 (m23 23 11)) = 1 then ((fn_X8_heldBy m23 (m23 23 11) 0).bind fun b29 => vl_lt (vl_up m23 26 (m23 23 11) (-2)) fun m30 => vl_lt (vl_up m30 23 11 b29) fun m31 => vl_gd (0 ≤ (m31 23 11) ∧ (m31 23 11) < 500) <| vl_lt (vl_up m31 30 (m31 23 11) (-2)) fun m32 => fn_X8_remove_L276 N  κ n m32) else κ m23) else κ m23
def fn_X8_remove_L243 (N : Nat) (κ : Int → vl_M → Option (Int × vl_M)) : Nat → Int → vl_M → Option (Int × vl_M)
  | 0, _, _ => none
  | n + 1, v19, m20 =>
    vl_gd (vl_r32 v19) <| vl_gd (vl_r32 (m20 23 17)) <| if v19 < (m20 23 17) then (vl_gd (0 ≤ v19 ∧ v19 < 64) <| (fn_X8_put N m20 (m20 32 v19) (m20 31 v19)).bind fun m42 => vl_lt (v19 + 1) fun v43 => fn_X8_remove_L243 N  κ n v43 m42) else κ v19 m20
def fn_X8_remove_L121 (N : Nat) (v14 : Int) (v48 : Int) (κ : Int → vl_M → Option (Int × vl_M)) : Nat → Int → vl_M → Option (Int × vl_M)
  | 0, _, _ => none
  | n + 1, v58, m59 =>
    vl_gd (vl_r32 v58) <| vl_gd (vl_r32 (m59 27 v14)) <| if v58 < (m59 27 v14) then ((fn_X8_heldBy m59 v14 v58).bind fun b68 => vl_gd (0 ≤ (m59 23 17) ∧ (m59 23 17) < 64) <| vl_lt (vl_up m59 31 (m59 23 17) b68) fun m69 => vl_gd (0 ≤ (m69 23 17) ∧ (m69 23 17) < 64) <| vl_lt (vl_up m69 32 (m69 23 17) ((m69 26 v14) - 1)) fun m72 => vl_lt (vl_up m72 23 17 ((m72 23 17) + 1)) fun m75 => vl_lt (v58 + 1) fun v76 => fn_X8_remove_L121 N v14 v48 κ n v76 m75) else κ v58 m59
def fn_X8_remove_L81 (N : Nat) (κ : Int → vl_M → Option (Int × vl_M)) : Nat → Int → vl_M → Option (Int × vl_M)
  | 0, _, _ => none
  | n + 1, v14, m15 =>
    vl_gd (vl_r32 v14) <| if v14 < 0 then (κ v14 m15) else vl_gd (0 ≤ v14 ∧ v14 < 500) <| vl_lt ((m15 30 v14)) fun v48 => vl_gd (vl_r32 (m15 23 11)) <| vl_jn (fun (m50 : vl_M) => 
    fn_X8_remove_L81 N  κ n v48 m50) fun κ51 => if v14 = (m15 23 11) then ((fn_X8_measure N m15 v14).bind fun m53 => κ51 m53) else vl_gd (vl_r32 (m15 27 v14)) <| vl_gd (vl_r32 (m15 23 2)) <| if (m15 27 v14) < (m15 23 2) then (fn_X8_remove_L121 N v14 v48 (fun (v60 : Int) (m61 : vl_M) => 
    (fn_X8_takeFrom N m61 v48 v14).bind fun m63 => vl_lt (vl_up m63 26 v14 (-2)) fun m64 => vl_lt (vl_up m64 23 13 ((m64 23 13) + 1)) fun m65 => κ51 m65) N 0 m15) else (fn_X8_measure N m15 v14).bind fun m57 => κ51 m57
def fn_X8_remove (N : Nat) (m : vl_M) (a1 a2 a3 a4 a5 : Int) : Option (Int × vl_M) :=
    (fn_X8_isEntry a1 a2 a3 a4 a5).bind fun b1 => vl_gd (vl_r32 b1) <| if b1 = 0 then (some ((-1), m)) else (fn_X8_find N m a1 a2 a3 a4 a5).bind fun b3 => vl_gd (vl_r32 b3) <| if b3 < 0 then (some ((-2), m)) else vl_lt (vl_up m 23 20 0) fun m5 => (fn_X8_leafOf N m5 b3).bind fun b6 => (fn_X8_takeFrom N m5 b6 b3).bind fun m8 => vl_gd (0 ≤ b3 ∧ b3 < 401) <| vl_lt (vl_up m8 24 b3 (-2)) fun m9 => vl_lt (vl_up m9 23 5 ((m9 23 5) - 1)) fun m12 => vl_lt (vl_up m12 23 17 0) fun m13 => fn_X8_remove_L81 N  (fun (v16 : Int) (m17 : vl_M) => 
    vl_lt (vl_up m17 23 14 ((m17 23 14) + (m17 23 17))) fun m18 => fn_X8_remove_L243 N  (fun (v21 : Int) (m22 : vl_M) => 
    fn_X8_remove_L276 N  (fun (m24 : vl_M) => 
    some ((m24 23 5), m24)) N m22) N 0 m18) N b6 m13
def fn_X8_walk_L22 (N : Nat) (self : vl_M → Int → Option (vl_M)) (a1 : Int) (κ : Int → vl_M → Option (vl_M)) : Nat → Int → vl_M → Option (vl_M)
  | 0, _, _ => none
  | n + 1, v5, m6 =>
    vl_gd (0 ≤ a1 ∧ a1 < 500) <| vl_gd (vl_r32 (m6 26 a1)) <| if 0 < (m6 26 a1) then (vl_gd (vl_r32 v5) <| vl_gd (vl_r32 (m6 27 a1)) <| if v5 < (m6 27 a1) then ((fn_X8_heldBy m6 a1 v5).bind fun b14 => (self m6 b14).bind fun m16 => vl_lt (v5 + 1) fun v17 => fn_X8_walk_L22 N self a1 κ n v17 m16) else κ v5 m6) else κ v5 m6
def fn_X8_walk (N : Nat) : Nat → vl_M → Int → Option (vl_M)
  | 0, _, _ => none
  | rr + 1, m, a1 =>
    vl_gd (0 ≤ (m 23 19) ∧ (m 23 19) < 500) <| vl_lt (vl_up m 33 (m 23 19) a1) fun m1 => vl_lt (vl_up m1 23 19 ((m1 23 19) + 1)) fun m4 => fn_X8_walk_L22 N (fn_X8_walk N rr) a1 (fun (v7 : Int) (m8 : vl_M) => 
    some m8) N 0 m4
def fn_X8_findOrder_L15 (N : Nat) (κ : Int → vl_M → Option (vl_M)) : Nat → Int → vl_M → Option (vl_M)
  | 0, _, _ => none
  | n + 1, v4, m5 =>
    vl_gd (vl_r32 v4) <| vl_gd (vl_r32 (m5 23 19)) <| if v4 < (m5 23 19) then (vl_gd (0 ≤ v4 ∧ v4 < 500) <| vl_gd (0 ≤ (m5 33 v4) ∧ (m5 33 v4) < 500) <| vl_lt (vl_up m5 44 (m5 33 v4) v4) fun m12 => vl_lt (v4 + 1) fun v15 => fn_X8_findOrder_L15 N  κ n v15 m12) else κ v4 m5
def fn_X8_findOrder (N : Nat) (m : vl_M) : Option (vl_M) :=
    vl_lt (vl_up m 23 19 0) fun m1 => (fn_X8_walk N 60 m1 (m1 23 11)).bind fun m3 => fn_X8_findOrder_L15 N  (fun (v6 : Int) (m7 : vl_M) => 
    some m7) N 0 m3
def fn_X8_pairsOf_L38 (N : Nat) (self : vl_M → Int → Int → Option (Int)) (m : vl_M) (a1 : Int) (a2 : Int) (v2 : Int) (κ : Int → Int → Option (Int)) : Nat → Int → Int → Option (Int)
  | 0, _, _ => none
  | n + 1, v13, v14 =>
    vl_gd (0 ≤ a2 ∧ a2 < 500) <| vl_gd (vl_r32 v14) <| vl_gd (vl_r32 (m 27 a2)) <| if v14 < (m 27 a2) then ((fn_X8_heldBy m a1 v2).bind fun b22 => (fn_X8_heldBy m a2 v14).bind fun b23 => vl_gd (vl_r32 b22) <| vl_gd (vl_r32 b23) <| vl_jn (fun (v26 : Int) => 
    vl_lt ((v13 + v26)) fun v28 => vl_lt (v14 + 1) fun v29 => fn_X8_pairsOf_L38 N self m a1 a2 v2 κ n v28 v29) fun κ27 => if b22 = b23 then ((self m b22 b23).bind fun b30 => κ27 b30) else vl_gd (0 ≤ b22 ∧ b22 < 500) <| vl_gd (0 ≤ b23 ∧ b23 < 500) <| (fn_X8_meet m (m 26 b22) b22 (m 26 b23) b23).bind fun b35 => vl_gd (vl_r32 b35) <| if b35 = 0 then (κ27 0) else (self m b22 b23).bind fun b37 => κ27 b37) else κ v13 v14
def fn_X8_pairsOf_L5 (N : Nat) (self : vl_M → Int → Int → Option (Int)) (m : vl_M) (a1 : Int) (a2 : Int) (κ : Int → Int → Option (Int)) : Nat → Int → Int → Option (Int)
  | 0, _, _ => none
  | n + 1, v1, v2 =>
    vl_gd (0 ≤ a1 ∧ a1 < 500) <| vl_gd (vl_r32 (m 26 a1)) <| if 0 < (m 26 a1) then (vl_gd (vl_r32 v2) <| vl_gd (vl_r32 (m 27 a1)) <| if v2 < (m 27 a1) then (vl_gd (vl_r32 a2) <| vl_jn (fun (v11 : Int) => 
    fn_X8_pairsOf_L38 N self m a1 a2 v2 (fun (v15 : Int) (v16 : Int) => 
    vl_lt (v2 + 1) fun v17 => fn_X8_pairsOf_L5 N self m a1 a2 κ n v15 v17) N v1 v11) fun κ12 => if a1 = a2 then (κ12 v2) else κ12 0) else κ v1 v2) else κ v1 v2
def fn_X8_pairsOf (N : Nat) : Nat → vl_M → Int → Int → Option (Int)
  | 0, _, _, _ => none
  | rr + 1, m, a1, a2 =>
    fn_X8_pairsOf_L5 N (fn_X8_pairsOf N rr) m a1 a2 (fun (v3 : Int) (v4 : Int) => 
    some (v3)) N 1 0
def fn_X8_audit_L118 (N : Nat) (m2 : vl_M) (v25 : Int) (v4 : Int) (v14 : Int) (κ : Int → Option (Int × vl_M)) : Nat → Int → Option (Int × vl_M)
  | 0, _ => none
  | n + 1, v26 =>
    vl_gd (vl_r32 v26) <| if v26 < (m2 27 v14) then ((fn_X8_heldBy m2 v14 v26).bind fun b30 => vl_jn (fun (u_κ31 : Unit) => 
    (fn_X8_areaBoth m2 (m2 26 v14) v14 ((m2 26 v14) - 1) b30).bind fun b32 => (fn_X8_areaOf m2 (m2 26 v14) v14).bind fun b33 => vl_gd (vl_r64 b32) <| vl_gd (vl_r64 b33) <| if b32 = b33 then (vl_lt (v26 + 1) fun v36 => fn_X8_audit_L118 N m2 v25 v4 v14 κ n v36) else some (0, m2)) fun κ31 => if 0 < (m2 26 v14) then (vl_gd (0 ≤ b30 ∧ b30 < 500) <| vl_gd (vl_r32 (m2 26 b30)) <| vl_gd (vl_r32 ((m2 26 v14) - 1)) <| if (m2 26 b30) = ((m2 26 v14) - 1) then (vl_gd (vl_r32 (m2 30 b30)) <| if (m2 30 b30) = v14 then (κ31 ()) else some (0, m2)) else some (0, m2)) else κ31 ()) else κ v26
def fn_X8_audit_L8 (N : Nat) (m2 : vl_M) (κ : Int → Int → Option (Int × vl_M)) : Nat → Int → Int → Option (Int × vl_M)
  | 0, _, _ => none
  | n + 1, v3, v4 =>
    vl_gd (vl_r32 v4) <| vl_gd (vl_r32 (m2 23 19)) <| if v4 < (m2 23 19) then (vl_gd (0 ≤ v4 ∧ v4 < 500) <| vl_lt ((m2 33 v4)) fun v14 => vl_gd (0 ≤ v14 ∧ v14 < 500) <| vl_gd (vl_r32 (m2 27 v14)) <| vl_gd (vl_r32 (m2 23 1)) <| vl_jn (fun (v19 : Int) => 
    vl_gd (vl_r32 v19) <| if v19 = 0 then (some (0, m2)) else vl_gd (vl_r32 (m2 26 v14)) <| vl_jn (fun (v23 : Int) => 
    vl_lt ((v3 + v23)) fun v25 => fn_X8_audit_L118 N m2 v25 v4 v14 (fun (v27 : Int) => 
    vl_lt (v4 + 1) fun v28 => fn_X8_audit_L8 N m2 κ n v25 v28) N 0) fun κ24 => if (m2 26 v14) = 0 then (κ24 (m2 27 v14)) else κ24 0) fun κ20 => if (m2 23 1) < (m2 27 v14) then (κ20 0) else vl_gd (vl_r32 (m2 23 11)) <| if v14 = (m2 23 11) then (vl_gd (vl_r32 (m2 26 v14)) <| if (m2 26 v14) = 0 then (κ20 1) else if (m2 27 v14) < 2 then (κ20 0) else κ20 1) else vl_gd (vl_r32 (m2 23 2)) <| if (m2 27 v14) < (m2 23 2) then (κ20 0) else κ20 1) else κ v3 v4
def fn_X8_audit (N : Nat) (m : vl_M) : Option (Int × vl_M) :=
    (fn_X8_findOrder N m).bind fun m2 => fn_X8_audit_L8 N m2 (fun (v5 : Int) (v6 : Int) => 
    vl_gd (vl_r32 v5) <| vl_gd (vl_r32 (m2 23 5)) <| if v5 = (m2 23 5) then (some (1, m2)) else some (0, m2)) N 0 0
def fn_X8_count (N : Nat) (m : vl_M) (a1 : Int) : Option (Int × vl_M) :=
    vl_gd (vl_r32 a1) <| if a1 = 0 then (some ((m 23 5), m)) else if a1 = 1 then (vl_gd (0 ≤ (m 23 11) ∧ (m 23 11) < 500) <| some (((m 26 (m 23 11)) + 1), m)) else if a1 = 2 then ((fn_X8_findOrder N m).bind fun m8 => some ((m8 23 19), m8)) else if a1 = 3 then (some ((m 23 12), m)) else if a1 = 4 then (some ((m 23 13), m)) else if a1 = 5 then (some ((m 23 14), m)) else if a1 = 6 then (some ((m 23 1), m)) else if a1 = 7 then (some ((m 23 2), m)) else some ((-1), m)
def fn_X8_held (N : Nat) (m : vl_M) (a1 a2 a3 : Int) : Option (Int × vl_M) :=
    (fn_X8_findOrder N m).bind fun m2 => vl_gd (vl_r32 a1) <| if a1 < 0 then (some ((-1), m2)) else vl_gd (vl_r32 (m2 23 19)) <| if a1 < (m2 23 19) then (vl_gd (vl_r32 a2) <| if a2 < 0 then (some ((-1), m2)) else vl_gd (0 ≤ a1 ∧ a1 < 500) <| vl_gd (0 ≤ (m2 33 a1) ∧ (m2 33 a1) < 500) <| vl_gd (vl_r32 (m2 27 (m2 33 a1))) <| if a2 < (m2 27 (m2 33 a1)) then (vl_gd (vl_r32 a3) <| if a3 < 0 then (some ((-1), m2)) else if 4 < a3 then (some ((-1), m2)) else vl_lt ((m2 33 a1)) fun v12 => (fn_X8_heldBy m2 v12 a2).bind fun b13 => if 0 < a3 then (vl_gd (0 ≤ v12 ∧ v12 < 500) <| (fn_X8_side m2 ((m2 26 v12) - 1) b13 (a3 - 1)).bind fun b24 => some (b24, m2)) else vl_gd (0 ≤ v12 ∧ v12 < 500) <| vl_gd (vl_r32 (m2 26 v12)) <| if (m2 26 v12) = 0 then (vl_gd (0 ≤ b13 ∧ b13 < 401) <| some ((m2 24 b13), m2)) else vl_gd (0 ≤ b13 ∧ b13 < 500) <| some ((m2 44 b13), m2)) else some ((-1), m2)) else some ((-1), m2)
def fn_X8_nearest_L228 (N : Nat) (a1 : Int) (a2 : Int) (v17 : Int) (v25 : Int) (v26 : Int) (κ : Int → vl_M → Option (Int × vl_M)) : Nat → Int → vl_M → Option (Int × vl_M)
  | 0, _, _ => none
  | n + 1, v36, m37 =>
    vl_gd (0 ≤ v25 ∧ v25 < 500) <| vl_gd (vl_r32 v36) <| vl_gd (vl_r32 (m37 27 v25)) <| if v36 < (m37 27 v25) then ((fn_X8_heldBy m37 v25 v36).bind fun b44 => vl_gd (0 ≤ (m37 23 37) ∧ (m37 23 37) < 1000) <| vl_lt (vl_up m37 42 (m37 23 37) b44) fun m45 => vl_gd (0 ≤ (m45 23 37) ∧ (m45 23 37) < 1000) <| vl_lt (vl_up m45 43 (m45 23 37) (v26 - 1)) fun m48 => vl_lt (vl_up m48 23 37 ((m48 23 37) + 1)) fun m51 => vl_lt (v36 + 1) fun v52 => fn_X8_nearest_L228 N a1 a2 v17 v25 v26 κ n v52 m51) else κ v36 m37
def fn_X8_nearest_L76 (N : Nat) (m18 : vl_M) (a1 : Int) (a2 : Int) (v17 : Int) (κ : Int → Int → Option (Int × vl_M)) : Nat → Int → Int → Option (Int × vl_M)
  | 0, _, _ => none
  | n + 1, v19, v20 =>
    vl_gd (vl_r32 v20) <| vl_gd (vl_r32 (m18 23 37)) <| if v20 < (m18 23 37) then ((fn_X8_isNearer N m18 v20 v19 a1 a2).bind fun b65 => vl_gd (vl_r32 b65) <| vl_jn (fun (v67 : Int) => 
    vl_lt (v20 + 1) fun v69 => fn_X8_nearest_L76 N m18 a1 a2 v17 κ n v67 v69) fun κ68 => if b65 = 0 then (κ68 v19) else κ68 v20) else κ v19 v20
def fn_X8_nearest_L70 (N : Nat) (a1 : Int) (a2 : Int) : Nat → Int → vl_M → Option (Int × vl_M)
  | 0, _, _ => none
  | n + 1, v17, m18 =>
    fn_X8_nearest_L76 N m18 a1 a2 v17 (fun (v21 : Int) (v22 : Int) => 
    vl_gd (0 ≤ v21 ∧ v21 < 1000) <| vl_lt ((m18 42 v21)) fun v25 => vl_lt ((m18 43 v21)) fun v26 => vl_lt (vl_up m18 23 37 ((m18 23 37) - 1)) fun m27 => vl_gd (0 ≤ (m27 23 37) ∧ (m27 23 37) < 1000) <| vl_lt (vl_up m27 42 v21 (m27 42 (m27 23 37))) fun m30 => vl_gd (0 ≤ (m30 23 37) ∧ (m30 23 37) < 1000) <| vl_lt (vl_up m30 43 v21 (m30 43 (m30 23 37))) fun m33 => vl_gd (vl_r32 v26) <| if v26 < 0 then (vl_gd (vl_r32 v17) <| if v17 = 0 then (vl_lt (vl_up m33 23 28 1) fun m56 => (fn_X8_far m56 (-1) v25 a1 a2).bind fun b57 => vl_lt (vl_up m56 23 29 b57) fun m58 => vl_gd (0 ≤ v25 ∧ v25 < 401) <| some ((m58 24 v25), m58)) else vl_lt (v17 + (-1)) fun v55 => fn_X8_nearest_L70 N a1 a2  n v55 m33) else vl_lt (vl_up m33 23 27 ((m33 23 27) + 1)) fun m35 => fn_X8_nearest_L228 N a1 a2 v17 v25 v26 (fun (v38 : Int) (m39 : vl_M) => 
    fn_X8_nearest_L70 N a1 a2  n v17 m39) N 0 m35) N 0 1
def fn_X8_nearest (N : Nat) (m : vl_M) (a1 a2 a3 : Int) : Option (Int × vl_M) :=
    (fn_X8_isPlace a1).bind fun b1 => vl_gd (vl_r32 b1) <| if b1 = 0 then (some ((-1), m)) else (fn_X8_isPlace a2).bind fun b3 => vl_gd (vl_r32 b3) <| if b3 = 0 then (some ((-1), m)) else vl_gd (vl_r32 a3) <| if a3 < 0 then (some ((-1), m)) else vl_gd (vl_r32 (m 23 5)) <| if a3 < (m 23 5) then ((fn_X8_findOrder N m).bind fun m8 => vl_lt (vl_up m8 23 27 0) fun m9 => vl_lt (vl_up m9 23 37 1) fun m10 => vl_gd (0 ≤ 0 ∧ 0 < 1000) <| vl_lt (vl_up m10 42 0 (m10 23 11)) fun m11 => vl_gd (0 ≤ (m11 23 11) ∧ (m11 23 11) < 500) <| vl_lt (vl_up m11 43 0 (m11 26 (m11 23 11))) fun m16 => fn_X8_nearest_L70 N a1 a2  N a3 m16) else some ((-1), m)
def fn_X8_node_ (N : Nat) (m : vl_M) (a1 a2 : Int) : Option (Int × vl_M) :=
    (fn_X8_findOrder N m).bind fun m2 => vl_gd (vl_r32 a1) <| if a1 < 0 then (some ((-1), m2)) else vl_gd (vl_r32 (m2 23 19)) <| if a1 < (m2 23 19) then (vl_gd (vl_r32 a2) <| if a2 < 0 then (some ((-1), m2)) else if 6 < a2 then (some ((-1), m2)) else vl_gd (0 ≤ a1 ∧ a1 < 500) <| vl_lt ((m2 33 a1)) fun v8 => vl_jn (fun (u_κ9 : Unit) => 
    if a2 = 0 then (vl_gd (0 ≤ v8 ∧ v8 < 500) <| some ((m2 26 v8), m2)) else if a2 = 1 then (vl_gd (0 ≤ v8 ∧ v8 < 500) <| some ((m2 27 v8), m2)) else vl_gd (vl_r32 v8) <| vl_gd (vl_r32 (m2 23 11)) <| if v8 = (m2 23 11) then (some ((-2), m2)) else vl_gd (0 ≤ v8 ∧ v8 < 500) <| vl_gd (0 ≤ (m2 30 v8) ∧ (m2 30 v8) < 500) <| some ((m2 44 (m2 30 v8)), m2)) fun κ9 => if 1 < a2 then (if a2 < 6 then (vl_gd (0 ≤ v8 ∧ v8 < 500) <| vl_gd (vl_r32 (m2 27 v8)) <| if (m2 27 v8) = 0 then (some ((-1), m2)) else vl_gd (0 ≤ (((4 * v8) + a2) - 2) ∧ (((4 * v8) + a2) - 2) < 2000) <| some ((m2 29 (((4 * v8) + a2) - 2)), m2)) else κ9 ()) else κ9 ()) else some ((-1), m2)
def fn_X8_visited (N : Nat) (m : vl_M) (a1 : Int) : Option (Int) :=
    vl_gd (vl_r32 a1) <| if a1 = 0 then (vl_gd (vl_r32 (m 23 20)) <| if (m 23 20) = 0 then (some (-1)) else some (m 23 26)) else if a1 = 1 then (some (m 23 27)) else if a1 = 2 then ((fn_X8_pairsOf N 60 m (m 23 11) (m 23 11)).bind fun b7 => some (b7)) else some (-1)
