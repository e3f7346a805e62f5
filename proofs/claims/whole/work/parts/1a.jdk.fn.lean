def fn_J6_compare_7cf53 (a0 a1 : Int) : Option (Int) :=
    vl_gd (vl_r32 a0) <| vl_gd (vl_r32 a1) <| if a0 < a1 then (some (-1)) else if a0 = a1 then (some (0)) else some (1)
