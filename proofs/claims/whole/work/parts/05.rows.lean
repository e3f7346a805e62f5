section VLR
variable {nc : Nat} {S : vl_Sh} {sc : Nat × (Nat → Int32)} {K : vl_K} {d : Nat} {Post : Int → vl_M → vl_M → Prop} {pc : Nat} {lv : List (Nat × Value)} {st : List Value} {μ ρ : vl_M}
theorem vl_r32_toInt {x : Int} (h : vl_r32 x) : (Int32.ofInt x).toInt = x := Int32.toInt_ofInt_of_le h.1 h.2
theorem vl_r64_toInt {x : Int} (h : vl_r64 x) : (Int64.ofInt x).toInt = x := Int64.toInt_ofInt_of_le h.1 h.2
theorem vl_eq32 {x y : Int} (hx : vl_r32 x) (hy : vl_r32 y) : Int32.ofInt x = Int32.ofInt y ↔ x = y := by
  rw [← Int32.toInt_inj, vl_r32_toInt hx, vl_r32_toInt hy]
theorem vl_lt32 {x y : Int} (hx : vl_r32 x) (hy : vl_r32 y) : Int32.ofInt x < Int32.ofInt y ↔ x < y := by
  rw [Int32.lt_iff_toInt_lt, vl_r32_toInt hx, vl_r32_toInt hy]
theorem vl_le32 {x y : Int} (hx : vl_r32 x) (hy : vl_r32 y) : Int32.ofInt x ≤ Int32.ofInt y ↔ x ≤ y := by
  rw [Int32.le_iff_toInt_le, vl_r32_toInt hx, vl_r32_toInt hy]
theorem vl_eq64 {x y : Int} (hx : vl_r64 x) (hy : vl_r64 y) : Int64.ofInt x = Int64.ofInt y ↔ x = y := by
  rw [← Int64.toInt_inj, vl_r64_toInt hx, vl_r64_toInt hy]
theorem vl_lt64 {x y : Int} (hx : vl_r64 x) (hy : vl_r64 y) : Int64.ofInt x < Int64.ofInt y ↔ x < y := by
  rw [Int64.lt_iff_toInt_lt, vl_r64_toInt hx, vl_r64_toInt hy]
theorem vl_z32 : (0 : Int32) = Int32.ofInt 0 := rfl
theorem vl_r0 : vl_r32 0 := by decide
theorem vl_r64_of {x : Int} (h : vl_r32 x) : vl_r64 x := ⟨by have := h.1; omega, by have := h.2; omega⟩
theorem vl_r32_in {i : Int} {n : Nat} (h : 0 ≤ i ∧ i < (n : Int)) (hn : n ≤ 2147483648) : vl_r32 i := ⟨by omega, by omega⟩
theorem vl_inn {i : Int} {n : Nat} (hr : vl_r32 i) (h : 0 ≤ i ∧ i < (n : Int)) : vp_in (Int32.ofInt i) n ∧ (((Int32.ofInt i).toNatClampNeg : Nat) : Int) = i := by
  have e : (Int32.ofInt i).toNatClampNeg = i.toNat := by
    rw [← Int32.toNat_toInt, vl_r32_toInt hr]
  refine ⟨?_, by rw [e]; omega⟩
  rintro (q | q)
  · rw [vl_z32, vl_lt32 hr vl_r0] at q; omega
  · rw [e] at q; omega

theorem vl_go {pc' : Nat} {st' : List Value}
  (h : ∀ (p : Program) (l : Launch) (e : Env) (R : Room) (s : State) (m : MethodId) (args : Array Value) (below : List Frame) (meth : Method) (c : Code) (H : Heap) (locs : List Loc) (cells slots : Nat) (Q : State → Prop) (ad : Nat → Nat) (ls : Array Slot), vl_Cx K d p R s m args meth c → lv_has ls K.2.2.1 (lv.map (fun q => (q.1, vl_rz ad q.2))) → W p l e R s m args below meth c H locs cells slots Q (F0 m pc' ls (st'.map (vl_rz ad))) → W p l e R s m args below meth c H locs cells slots Q (F0 m pc ls (st.map (vl_rz ad))))
  (k : vl_V nc S sc K d Post pc' lv st' μ ρ) : vl_V nc S sc K d Post pc lv st μ ρ :=
  fun p l e R s m args below meth c H locs cells slots Q D cA ad A ls hC hcs hR hl hret => h p l e R s m args below meth c H locs cells slots Q ad ls hC hl (k p l e R s m args below meth c H locs cells slots Q D cA ad A ls hC hcs hR hl hret)
theorem vl_iconst {n : Int} (hd : decode K.2.1 pc = .ok (.iconst n, 1)) (k : vl_V nc S sc K d Post (pc + 1) lv (vl_iv n :: st) μ ρ) : vl_V nc S sc K d Post pc lv (st) μ ρ :=
  vl_go (fun p l e R s m args below meth c H locs cells slots Q ad ls hC hl w => lv_iconst hC.1 hC.2.1 hd rfl w) k
theorem vl_bipush {n : Int} (hv : (Int8.ofInt n).toInt32 = Int32.ofInt n) (hd : decode K.2.1 pc = .ok (.bipush n, 2)) (k : vl_V nc S sc K d Post (pc + 2) lv (vl_iv n :: st) μ ρ) : vl_V nc S sc K d Post pc lv (st) μ ρ :=
  vl_go (fun p l e R s m args below meth c H locs cells slots Q ad ls hC hl w => lv_bipush hC.1 hC.2.1 hd hv w) k
theorem vl_sipush {n : Int} (hv : (Int16.ofInt n).toInt32 = Int32.ofInt n) (hd : decode K.2.1 pc = .ok (.sipush n, 3)) (k : vl_V nc S sc K d Post (pc + 3) lv (vl_iv n :: st) μ ρ) : vl_V nc S sc K d Post pc lv (st) μ ρ :=
  vl_go (fun p l e R s m args below meth c H locs cells slots Q ad ls hC hl w => lv_sipush hC.1 hC.2.1 hd hv w) k
theorem vl_lconst {n : Fin 2} {x : Int} (hv : Int64.ofNat (n : Nat) = Int64.ofInt x) (hd : decode K.2.1 pc = .ok (.lconst n, 1)) (k : vl_V nc S sc K d Post (pc + 1) lv (vl_jv x :: st) μ ρ) : vl_V nc S sc K d Post pc lv (st) μ ρ :=
  vl_go (fun p l e R s m args below meth c H locs cells slots Q ad ls hC hl w => lv_lconst hC.1 hC.2.1 hd hv w) k
theorem vl_iload_n (q : Nat) {k0 : Fin 4} {x : Int} (hk : lv[q]? = some ((k0 : Nat), vl_iv x)) (hd : decode K.2.1 pc = .ok (.iload_n k0, 1)) (k : vl_V nc S sc K d Post (pc + 1) lv (vl_iv x :: st) μ ρ) : vl_V nc S sc K d Post pc lv (st) μ ρ :=
  vl_go (fun p l e R s m args below meth c H locs cells slots Q ad ls hC hl w => lv_iload_n hC.1 hC.2.1 hd rfl (lv_at hl q (by rw [List.getElem?_map, hk]; rfl)) w) k
theorem vl_iload (q : Nat) {i : Nat} {x : Int} (hk : lv[q]? = some (i, vl_iv x)) (hd : decode K.2.1 pc = .ok (.iload i, 2)) (k : vl_V nc S sc K d Post (pc + 2) lv (vl_iv x :: st) μ ρ) : vl_V nc S sc K d Post pc lv (st) μ ρ :=
  vl_go (fun p l e R s m args below meth c H locs cells slots Q ad ls hC hl w => lv_iload hC.1 hC.2.1 hd (lv_at hl q (by rw [List.getElem?_map, hk]; rfl)) w) k
theorem vl_lload_n (q : Nat) {k0 : Fin 4} {x : Int} (hk : lv[q]? = some ((k0 : Nat), vl_jv x)) (hd : decode K.2.1 pc = .ok (.lload_n k0, 1)) (k : vl_V nc S sc K d Post (pc + 1) lv (vl_jv x :: st) μ ρ) : vl_V nc S sc K d Post pc lv (st) μ ρ :=
  vl_go (fun p l e R s m args below meth c H locs cells slots Q ad ls hC hl w => lv_lload_n hC.1 hC.2.1 hd rfl (lv_at hl q (by rw [List.getElem?_map, hk]; rfl)) w) k
theorem vl_lload (q : Nat) {i : Nat} {x : Int} (hk : lv[q]? = some (i, vl_jv x)) (hd : decode K.2.1 pc = .ok (.lload i, 2)) (k : vl_V nc S sc K d Post (pc + 2) lv (vl_jv x :: st) μ ρ) : vl_V nc S sc K d Post pc lv (st) μ ρ :=
  vl_go (fun p l e R s m args below meth c H locs cells slots Q ad ls hC hl w => lv_lload hC.1 hC.2.1 hd (lv_at hl q (by rw [List.getElem?_map, hk]; rfl)) w) k
theorem vl_aload_n (q : Nat) {k0 : Fin 4} {h : Nat} (hk : lv[q]? = some ((k0 : Nat), .ref h)) (hd : decode K.2.1 pc = .ok (.aload_n k0, 1)) (k : vl_V nc S sc K d Post (pc + 1) lv (.ref h :: st) μ ρ) : vl_V nc S sc K d Post pc lv (st) μ ρ :=
  vl_go (fun p l e R s m args below meth c H locs cells slots Q ad ls hC hl w => lv_aload_n hC.1 hC.2.1 hd rfl (lv_at hl q (by rw [List.getElem?_map, hk]; rfl)) w) k
theorem vl_aload (q : Nat) {i : Nat} {h : Nat} (hk : lv[q]? = some (i, .ref h)) (hd : decode K.2.1 pc = .ok (.aload i, 2)) (k : vl_V nc S sc K d Post (pc + 2) lv (.ref h :: st) μ ρ) : vl_V nc S sc K d Post pc lv (st) μ ρ :=
  vl_go (fun p l e R s m args below meth c H locs cells slots Q ad ls hC hl w => lv_aload hC.1 hC.2.1 hd (lv_at hl q (by rw [List.getElem?_map, hk]; rfl)) w) k
theorem vl_iadd {x y : Int} (hd : decode K.2.1 pc = .ok (.iadd, 1)) (k : vl_V nc S sc K d Post (pc + 1) lv (vl_iv (x + y) :: st) μ ρ) : vl_V nc S sc K d Post pc lv (vl_iv y :: vl_iv x :: st) μ ρ :=
  vl_go (fun p l e R s m args below meth c H locs cells slots Q ad ls hC hl w => lv_iadd hC.1 hC.2.1 hd (by rw [← Int32.ofInt_add]; exact w)) k
theorem vl_isub {x y : Int} (hd : decode K.2.1 pc = .ok (.isub, 1)) (k : vl_V nc S sc K d Post (pc + 1) lv (vl_iv (x - y) :: st) μ ρ) : vl_V nc S sc K d Post pc lv (vl_iv y :: vl_iv x :: st) μ ρ :=
  vl_go (fun p l e R s m args below meth c H locs cells slots Q ad ls hC hl w => lv_isub hC.1 hC.2.1 hd (by rw [← Int32.ofInt_sub]; exact w)) k
theorem vl_imul {x y : Int} (hd : decode K.2.1 pc = .ok (.imul, 1)) (k : vl_V nc S sc K d Post (pc + 1) lv (vl_iv (x * y) :: st) μ ρ) : vl_V nc S sc K d Post pc lv (vl_iv y :: vl_iv x :: st) μ ρ :=
  vl_go (fun p l e R s m args below meth c H locs cells slots Q ad ls hC hl w => lv_imul hC.1 hC.2.1 hd (by rw [← Int32.ofInt_mul]; exact w)) k
theorem vl_ladd {x y : Int} (hd : decode K.2.1 pc = .ok (.ladd, 1)) (k : vl_V nc S sc K d Post (pc + 1) lv (vl_jv (x + y) :: st) μ ρ) : vl_V nc S sc K d Post pc lv (vl_jv y :: vl_jv x :: st) μ ρ :=
  vl_go (fun p l e R s m args below meth c H locs cells slots Q ad ls hC hl w => lv_ladd hC.1 hC.2.1 hd (by rw [← Int64.ofInt_add]; exact w)) k
theorem vl_lsub {x y : Int} (hd : decode K.2.1 pc = .ok (.lsub, 1)) (k : vl_V nc S sc K d Post (pc + 1) lv (vl_jv (x - y) :: st) μ ρ) : vl_V nc S sc K d Post pc lv (vl_jv y :: vl_jv x :: st) μ ρ :=
  vl_go (fun p l e R s m args below meth c H locs cells slots Q ad ls hC hl w => lv_lsub hC.1 hC.2.1 hd (by rw [← Int64.ofInt_sub]; exact w)) k
theorem vl_lmul {x y : Int} (hd : decode K.2.1 pc = .ok (.lmul, 1)) (k : vl_V nc S sc K d Post (pc + 1) lv (vl_jv (x * y) :: st) μ ρ) : vl_V nc S sc K d Post pc lv (vl_jv y :: vl_jv x :: st) μ ρ :=
  vl_go (fun p l e R s m args below meth c H locs cells slots Q ad ls hC hl w => lv_lmul hC.1 hC.2.1 hd (by rw [← Int64.ofInt_mul]; exact w)) k
theorem vl_ineg {x : Int} (hd : decode K.2.1 pc = .ok (.ineg, 1)) (k : vl_V nc S sc K d Post (pc + 1) lv (vl_iv (-x) :: st) μ ρ) : vl_V nc S sc K d Post pc lv (vl_iv x :: st) μ ρ :=
  vl_go (fun p l e R s m args below meth c H locs cells slots Q ad ls hC hl w => lv_ineg hC.1 hC.2.1 hd (by rw [← Int32.ofInt_neg]; exact w)) k
theorem vl_lneg {x : Int} (hd : decode K.2.1 pc = .ok (.lneg, 1)) (k : vl_V nc S sc K d Post (pc + 1) lv (vl_jv (-x) :: st) μ ρ) : vl_V nc S sc K d Post pc lv (vl_jv x :: st) μ ρ :=
  vl_go (fun p l e R s m args below meth c H locs cells slots Q ad ls hC hl w => lv_lneg hC.1 hC.2.1 hd (by rw [← Int64.ofInt_neg]; exact w)) k
theorem vl_div32 {x y : Int} (hx : 0 ≤ x ∧ x < 2147483648) (hy : 0 < y ∧ y < 2147483648) : Int32.ofInt x / Int32.ofInt y = Int32.ofInt (x / y) := by
  have rx : vl_r32 x := ⟨by omega, hx.2⟩
  have ry : vl_r32 y := ⟨by omega, hy.2⟩
  have h1 : 0 ≤ x / y := Int.ediv_nonneg hx.1 (Int.le_of_lt hy.1)
  have h2 : x / y ≤ x := Int.ediv_le_self y hx.1
  have rz : vl_r32 (x / y) := ⟨by omega, by omega⟩
  rw [← Int32.toInt_inj, Int32.toInt_div_of_ne_right _ _ (fun q => by
    have := congrArg Int32.toInt q
    rw [vl_r32_toInt ry] at this
    have e : (-1 : Int32).toInt = -1 := rfl
    omega), vl_r32_toInt rx, vl_r32_toInt ry, vl_r32_toInt rz, Int.tdiv_eq_ediv_of_nonneg hx.1]
theorem vl_idiv {x y : Int} (hx : 0 ≤ x ∧ x < 2147483648) (hy : 0 < y ∧ y < 2147483648) (hd : decode K.2.1 pc = .ok (.idiv, 1)) (k : vl_V nc S sc K d Post (pc + 1) lv (vl_iv (x / y) :: st) μ ρ) : vl_V nc S sc K d Post pc lv (vl_iv y :: vl_iv x :: st) μ ρ :=
  vl_go (fun p l e R s m args below meth c H locs cells slots Q ad ls hC hl w => lv_idiv hC.1 hC.2.1 hd (fun q => by rw [vl_z32, vl_eq32 ⟨by omega, hy.2⟩ vl_r0] at q; omega) (by rw [vl_div32 hx hy]; exact w)) k
theorem vl_i2l {x : Int} (hx : vl_r32 x) (hd : decode K.2.1 pc = .ok (.i2l, 1)) (k : vl_V nc S sc K d Post (pc + 1) lv (vl_jv x :: st) μ ρ) : vl_V nc S sc K d Post pc lv (vl_iv x :: st) μ ρ :=
  vl_go (fun p l e R s m args below meth c H locs cells slots Q ad ls hC hl w => lv_i2l hC.1 hC.2.1 hd (Int32.toInt64_ofInt hx.1 (Int.le_of_lt_add_one hx.2)) w) k
theorem vl_l2i {x : Int} (hd : decode K.2.1 pc = .ok (.l2i, 1)) (k : vl_V nc S sc K d Post (pc + 1) lv (vl_iv x :: st) μ ρ) : vl_V nc S sc K d Post pc lv (vl_jv x :: st) μ ρ :=
  vl_go (fun p l e R s m args below meth c H locs cells slots Q ad ls hC hl w => lv_l2i hC.1 hC.2.1 hd Int64.toInt32_ofInt w) k
theorem vl_cat (ad : Nat → Nat) (v : Value) : (vl_rz ad v).category = v.category := by cases v <;> rfl
theorem vl_dup {v : Value} (hv : v.category = 1) (hd : decode K.2.1 pc = .ok (.dup, 1)) (k : vl_V nc S sc K d Post (pc + 1) lv (v :: v :: st) μ ρ) : vl_V nc S sc K d Post pc lv (v :: st) μ ρ :=
  vl_go (fun p l e R s m args below meth c H locs cells slots Q ad ls hC hl w => lv_dup hC.1 hC.2.1 hd (by rw [vl_cat]; exact hv) w) k
theorem vl_pop {v : Value} (hv : v.category = 1) (hd : decode K.2.1 pc = .ok (.pop, 1)) (k : vl_V nc S sc K d Post (pc + 1) lv (st) μ ρ) : vl_V nc S sc K d Post pc lv (v :: st) μ ρ :=
  vl_go (fun p l e R s m args below meth c H locs cells slots Q ad ls hC hl w => lv_pop hC.1 hC.2.1 hd (by rw [vl_cat]; exact hv) w) k
theorem vl_dup_x1 {v u : Value} (hv : v.category = 1) (hu : u.category = 1) (hd : decode K.2.1 pc = .ok (.dup_x1, 1)) (k : vl_V nc S sc K d Post (pc + 1) lv (v :: u :: v :: st) μ ρ) : vl_V nc S sc K d Post pc lv (v :: u :: st) μ ρ :=
  vl_go (fun p l e R s m args below meth c H locs cells slots Q ad ls hC hl w => lv_dup_x1 hC.1 hC.2.1 hd (by rw [vl_cat]; exact hv) (by rw [vl_cat]; exact hu) w) k
theorem vl_dup2 {v u : Value} (hv : v.category = 1) (hu : u.category = 1) (hd : decode K.2.1 pc = .ok (.dup2, 1)) (k : vl_V nc S sc K d Post (pc + 1) lv (v :: u :: v :: u :: st) μ ρ) : vl_V nc S sc K d Post pc lv (v :: u :: st) μ ρ :=
  vl_go (fun p l e R s m args below meth c H locs cells slots Q ad ls hC hl w => lv_dup2_11 hC.1 hC.2.1 hd (by rw [vl_cat]; exact hv) (by rw [vl_cat]; exact hu) w) k
theorem vl_goto {off : Int} {tgt : Nat} (hd : decode K.2.1 pc = .ok (.goto off, 3)) (ht : (pc : Int) + off = (tgt : Int)) (k : vl_V nc S sc K d Post tgt lv st μ ρ) : vl_V nc S sc K d Post pc lv st μ ρ :=
  vl_go (fun p l e R s m args below meth c H locs cells slots Q ad ls hC hl w => lv_goto hC.1 hC.2.1 hd ht w) k
theorem vl_wk (ks : List Nat) {lv' : List (Nat × Value)} (h : lv_pick lv ks = lv') (k : vl_V nc S sc K d Post pc lv' st μ ρ) : vl_V nc S sc K d Post pc lv st μ ρ :=
  fun p l e R s m args below meth c H locs cells slots Q D cA ad A ls hC hcs hR hl hret => k p l e R s m args below meth c H locs cells slots Q D cA ad A ls hC hcs hR (by
    refine ⟨hl.1, hl.2.1, fun q hq => ?_⟩
    obtain ⟨q0, h0, rfl⟩ := List.mem_map.mp hq
    rw [← h] at h0
    obtain ⟨i, -, hi⟩ := List.mem_filterMap.mp h0
    exact hl.2.2 _ (List.mem_map.mpr ⟨q0, List.mem_of_getElem? hi, rfl⟩)) hret
theorem vl_mapf (ad : Nat → Nat) (lv : List (Nat × Value)) (f : Nat × Value → Bool) (hf : ∀ q, f (q.1, vl_rz ad q.2) = f q) : (lv.map (fun q => (q.1, vl_rz ad q.2))).filter f = (lv.filter f).map (fun q => (q.1, vl_rz ad q.2)) := by
  induction lv with
  | nil => rfl
  | cons a t ih =>
    simp only [List.map_cons, List.filter_cons, hf, ih]
    split <;> rfl
theorem vl_istore_n {α : Type} {P : α → Prop} {E : Int → Option α} {i : Nat} {x : Int} {k0 : Fin 4} (hi : (k0 : Nat) = i) (lv' : Int → List (Nat × Value)) (hd : decode K.2.1 pc = .ok (.istore_n k0, 1)) (hn : i < K.2.2.1) (hlv : ∀ x, (i, vl_iv x) :: lv.filter (fun q => !(q.1 == i) && !(q.1 + 1 == i && q.2.category == 2)) = lv' x) (hE : vl_ok P (vl_lt x E)) (k : ∀ x, vl_ok P (E x) → vl_V nc S sc K d Post (pc + 1) (lv' x) st μ ρ) : vl_V nc S sc K d Post pc lv (vl_iv x :: st) μ ρ :=
  fun p l e R s m args below meth c H locs cells slots Q D cA ad A ls hC hcs hR hl hret => lv_istore_n hC.1 hC.2.1 hd hi hl hn rfl (fun ls' hl' => k x hE p l e R s m args below meth c H locs cells slots Q D cA ad A ls' hC hcs hR (by
    rw [vl_mapf ad lv _ (fun q => by simp only [vl_cat])] at hl'
    rw [← hlv x]
    exact hl') hret)
theorem vl_istore_n0 {i : Nat} {x : Int} {k0 : Fin 4} (hi : (k0 : Nat) = i) {lv' : List (Nat × Value)} (hd : decode K.2.1 pc = .ok (.istore_n k0, 1)) (hn : i < K.2.2.1) (hlv : (i, vl_iv x) :: lv.filter (fun q => !(q.1 == i) && !(q.1 + 1 == i && q.2.category == 2)) = lv') (k : vl_V nc S sc K d Post (pc + 1) lv' st μ ρ) : vl_V nc S sc K d Post pc lv (vl_iv x :: st) μ ρ :=
  fun p l e R s m args below meth c H locs cells slots Q D cA ad A ls hC hcs hR hl hret => lv_istore_n hC.1 hC.2.1 hd hi hl hn rfl (fun ls' hl' => k p l e R s m args below meth c H locs cells slots Q D cA ad A ls' hC hcs hR (by
    rw [vl_mapf ad lv _ (fun q => by simp only [vl_cat])] at hl'
    rw [← hlv]
    exact hl') hret)
theorem vl_istore {α : Type} {P : α → Prop} {E : Int → Option α} {i : Nat} {x : Int}  (lv' : Int → List (Nat × Value)) (hd : decode K.2.1 pc = .ok (.istore i, 2)) (hn : i < K.2.2.1) (hlv : ∀ x, (i, vl_iv x) :: lv.filter (fun q => !(q.1 == i) && !(q.1 + 1 == i && q.2.category == 2)) = lv' x) (hE : vl_ok P (vl_lt x E)) (k : ∀ x, vl_ok P (E x) → vl_V nc S sc K d Post (pc + 2) (lv' x) st μ ρ) : vl_V nc S sc K d Post pc lv (vl_iv x :: st) μ ρ :=
  fun p l e R s m args below meth c H locs cells slots Q D cA ad A ls hC hcs hR hl hret => lv_istore hC.1 hC.2.1 hd hl hn rfl (fun ls' hl' => k x hE p l e R s m args below meth c H locs cells slots Q D cA ad A ls' hC hcs hR (by
    rw [vl_mapf ad lv _ (fun q => by simp only [vl_cat])] at hl'
    rw [← hlv x]
    exact hl') hret)
theorem vl_istore0 {i : Nat} {x : Int}  {lv' : List (Nat × Value)} (hd : decode K.2.1 pc = .ok (.istore i, 2)) (hn : i < K.2.2.1) (hlv : (i, vl_iv x) :: lv.filter (fun q => !(q.1 == i) && !(q.1 + 1 == i && q.2.category == 2)) = lv') (k : vl_V nc S sc K d Post (pc + 2) lv' st μ ρ) : vl_V nc S sc K d Post pc lv (vl_iv x :: st) μ ρ :=
  fun p l e R s m args below meth c H locs cells slots Q D cA ad A ls hC hcs hR hl hret => lv_istore hC.1 hC.2.1 hd hl hn rfl (fun ls' hl' => k p l e R s m args below meth c H locs cells slots Q D cA ad A ls' hC hcs hR (by
    rw [vl_mapf ad lv _ (fun q => by simp only [vl_cat])] at hl'
    rw [← hlv]
    exact hl') hret)
theorem vl_lstore_n {α : Type} {P : α → Prop} {E : Int → Option α} {i : Nat} {x : Int} {k0 : Fin 4} (hi : (k0 : Nat) = i) (lv' : Int → List (Nat × Value)) (hd : decode K.2.1 pc = .ok (.lstore_n k0, 1)) (hn : i + 1 < K.2.2.1) (hlv : ∀ x, (i, vl_jv x) :: lv.filter (fun q => !(q.1 == i) && (!(q.1 == i + 1) && !(q.1 + 1 == i && q.2.category == 2))) = lv' x) (hE : vl_ok P (vl_lt x E)) (k : ∀ x, vl_ok P (E x) → vl_V nc S sc K d Post (pc + 1) (lv' x) st μ ρ) : vl_V nc S sc K d Post pc lv (vl_jv x :: st) μ ρ :=
  fun p l e R s m args below meth c H locs cells slots Q D cA ad A ls hC hcs hR hl hret => lv_lstore_n hC.1 hC.2.1 hd hi hl hn rfl (fun ls' hl' => k x hE p l e R s m args below meth c H locs cells slots Q D cA ad A ls' hC hcs hR (by
    rw [vl_mapf ad lv _ (fun q => by simp only [vl_cat])] at hl'
    rw [← hlv x]
    exact hl') hret)
theorem vl_lstore_n0 {i : Nat} {x : Int} {k0 : Fin 4} (hi : (k0 : Nat) = i) {lv' : List (Nat × Value)} (hd : decode K.2.1 pc = .ok (.lstore_n k0, 1)) (hn : i + 1 < K.2.2.1) (hlv : (i, vl_jv x) :: lv.filter (fun q => !(q.1 == i) && (!(q.1 == i + 1) && !(q.1 + 1 == i && q.2.category == 2))) = lv') (k : vl_V nc S sc K d Post (pc + 1) lv' st μ ρ) : vl_V nc S sc K d Post pc lv (vl_jv x :: st) μ ρ :=
  fun p l e R s m args below meth c H locs cells slots Q D cA ad A ls hC hcs hR hl hret => lv_lstore_n hC.1 hC.2.1 hd hi hl hn rfl (fun ls' hl' => k p l e R s m args below meth c H locs cells slots Q D cA ad A ls' hC hcs hR (by
    rw [vl_mapf ad lv _ (fun q => by simp only [vl_cat])] at hl'
    rw [← hlv]
    exact hl') hret)
theorem vl_lstore {α : Type} {P : α → Prop} {E : Int → Option α} {i : Nat} {x : Int}  (lv' : Int → List (Nat × Value)) (hd : decode K.2.1 pc = .ok (.lstore i, 2)) (hn : i + 1 < K.2.2.1) (hlv : ∀ x, (i, vl_jv x) :: lv.filter (fun q => !(q.1 == i) && (!(q.1 == i + 1) && !(q.1 + 1 == i && q.2.category == 2))) = lv' x) (hE : vl_ok P (vl_lt x E)) (k : ∀ x, vl_ok P (E x) → vl_V nc S sc K d Post (pc + 2) (lv' x) st μ ρ) : vl_V nc S sc K d Post pc lv (vl_jv x :: st) μ ρ :=
  fun p l e R s m args below meth c H locs cells slots Q D cA ad A ls hC hcs hR hl hret => lv_lstore hC.1 hC.2.1 hd hl hn rfl (fun ls' hl' => k x hE p l e R s m args below meth c H locs cells slots Q D cA ad A ls' hC hcs hR (by
    rw [vl_mapf ad lv _ (fun q => by simp only [vl_cat])] at hl'
    rw [← hlv x]
    exact hl') hret)
theorem vl_lstore0 {i : Nat} {x : Int}  {lv' : List (Nat × Value)} (hd : decode K.2.1 pc = .ok (.lstore i, 2)) (hn : i + 1 < K.2.2.1) (hlv : (i, vl_jv x) :: lv.filter (fun q => !(q.1 == i) && (!(q.1 == i + 1) && !(q.1 + 1 == i && q.2.category == 2))) = lv') (k : vl_V nc S sc K d Post (pc + 2) lv' st μ ρ) : vl_V nc S sc K d Post pc lv (vl_jv x :: st) μ ρ :=
  fun p l e R s m args below meth c H locs cells slots Q D cA ad A ls hC hcs hR hl hret => lv_lstore hC.1 hC.2.1 hd hl hn rfl (fun ls' hl' => k p l e R s m args below meth c H locs cells slots Q D cA ad A ls' hC hcs hR (by
    rw [vl_mapf ad lv _ (fun q => by simp only [vl_cat])] at hl'
    rw [← hlv]
    exact hl') hret)
theorem vl_astore_n {i : Nat} {x : Nat} {k0 : Fin 4} (hi : (k0 : Nat) = i) {lv' : List (Nat × Value)} (hd : decode K.2.1 pc = .ok (.astore_n k0, 1)) (hn : i < K.2.2.1) (hlv : (i, Value.ref x) :: lv.filter (fun q => !(q.1 == i) && !(q.1 + 1 == i && q.2.category == 2)) = lv') (k : vl_V nc S sc K d Post (pc + 1) lv' st μ ρ) : vl_V nc S sc K d Post pc lv (.ref x :: st) μ ρ :=
  fun p l e R s m args below meth c H locs cells slots Q D cA ad A ls hC hcs hR hl hret => lv_astore_n hC.1 hC.2.1 hd hi hl hn rfl (fun ls' hl' => k p l e R s m args below meth c H locs cells slots Q D cA ad A ls' hC hcs hR (by
    rw [vl_mapf ad lv _ (fun q => by simp only [vl_cat])] at hl'
    rw [← hlv]
    exact hl') hret)
theorem vl_astore {i : Nat} {x : Nat}  {lv' : List (Nat × Value)} (hd : decode K.2.1 pc = .ok (.astore i, 2)) (hn : i < K.2.2.1) (hlv : (i, Value.ref x) :: lv.filter (fun q => !(q.1 == i) && !(q.1 + 1 == i && q.2.category == 2)) = lv') (k : vl_V nc S sc K d Post (pc + 2) lv' st μ ρ) : vl_V nc S sc K d Post pc lv (.ref x :: st) μ ρ :=
  fun p l e R s m args below meth c H locs cells slots Q D cA ad A ls hC hcs hR hl hret => lv_astore hC.1 hC.2.1 hd hl hn rfl (fun ls' hl' => k p l e R s m args below meth c H locs cells slots Q D cA ad A ls' hC hcs hR (by
    rw [vl_mapf ad lv _ (fun q => by simp only [vl_cat])] at hl'
    rw [← hlv]
    exact hl') hret)
theorem vl_iinc {α : Type} {P : α → Prop} {E : Int → Option α} (q : Nat) {i : Nat} {n : Int} {x : Int} (lv' : Int → List (Nat × Value)) (hd : decode K.2.1 pc = .ok (.iinc i n, 3)) (hk : lv[q]? = some (i, vl_iv x)) (hn : i < K.2.2.1) (hlv : ∀ x, (i, vl_iv x) :: lv.filter (fun q => !(q.1 == i) && !(q.1 + 1 == i && q.2.category == 2)) = lv' x) (hE : vl_ok P (vl_lt (x + n) E)) (k : ∀ x, vl_ok P (E x) → vl_V nc S sc K d Post (pc + 3) (lv' x) st μ ρ) : vl_V nc S sc K d Post pc lv st μ ρ :=
  fun p l e R s m args below meth c H locs cells slots Q D cA ad A ls hC hcs hR hl hret => lv_iinc hC.1 hC.2.1 hd hl (by rw [List.getElem?_map, hk]; rfl) (by rw [← Int32.ofInt_add]) hn rfl (fun ls' hl' => k (x + n) hE p l e R s m args below meth c H locs cells slots Q D cA ad A ls' hC hcs hR (by
    rw [vl_mapf ad lv _ (fun q => by simp only [vl_cat])] at hl'
    rw [← hlv (x + n)]
    exact hl') hret)
theorem vl_icmp_eq {α : Type} {P : α → Prop} {A B : Option α} {x y : Int} {off : Int} {tgt : Nat} (hd : decode K.2.1 pc = .ok (.if_icmp .eq off, 3)) (ht : (pc : Int) + off = (tgt : Int)) (hx : vl_r32 x) (hy : vl_r32 y) (hE : vl_ok P (if x = y then A else B)) (kt : x = y → vl_ok P A → vl_V nc S sc K d Post tgt lv st μ ρ) (kf : ¬ (x = y) → vl_ok P B → vl_V nc S sc K d Post (pc + 3) lv st μ ρ) : vl_V nc S sc K d Post pc lv (vl_iv y :: vl_iv x :: st) μ ρ :=
  fun p l e R s m args below meth c H locs cells slots Q D cA ad A_1 ls hC hcs hR hl hret => lv_icmp_eq hC.1 hC.2.1 hd ht
    (fun q => kt ((vl_eq32 hx hy).mp q) (by rw [if_pos ((vl_eq32 hx hy).mp q)] at hE; exact hE) p l e R s m args below meth c H locs cells slots Q D cA ad A_1 ls hC hcs hR hl hret)
    (fun q => kf (fun z => q ((vl_eq32 hx hy).mpr z)) (by rw [if_neg (fun z => q ((vl_eq32 hx hy).mpr z))] at hE; exact hE) p l e R s m args below meth c H locs cells slots Q D cA ad A_1 ls hC hcs hR hl hret)
theorem vl_icmp_ne {α : Type} {P : α → Prop} {A B : Option α} {x y : Int} {off : Int} {tgt : Nat} (hd : decode K.2.1 pc = .ok (.if_icmp .ne off, 3)) (ht : (pc : Int) + off = (tgt : Int)) (hx : vl_r32 x) (hy : vl_r32 y) (hE : vl_ok P (if x = y then A else B)) (kt : ¬ (x = y) → vl_ok P B → vl_V nc S sc K d Post tgt lv st μ ρ) (kf : x = y → vl_ok P A → vl_V nc S sc K d Post (pc + 3) lv st μ ρ) : vl_V nc S sc K d Post pc lv (vl_iv y :: vl_iv x :: st) μ ρ :=
  fun p l e R s m args below meth c H locs cells slots Q D cA ad A_1 ls hC hcs hR hl hret => lv_icmp_ne hC.1 hC.2.1 hd ht
    (fun q => kt (fun z => q ((vl_eq32 hx hy).mpr z)) (by rw [if_neg (fun z => q ((vl_eq32 hx hy).mpr z))] at hE; exact hE) p l e R s m args below meth c H locs cells slots Q D cA ad A_1 ls hC hcs hR hl hret)
    (fun q => kf ((vl_eq32 hx hy).mp q) (by rw [if_pos ((vl_eq32 hx hy).mp q)] at hE; exact hE) p l e R s m args below meth c H locs cells slots Q D cA ad A_1 ls hC hcs hR hl hret)
theorem vl_icmp_lt {α : Type} {P : α → Prop} {A B : Option α} {x y : Int} {off : Int} {tgt : Nat} (hd : decode K.2.1 pc = .ok (.if_icmp .lt off, 3)) (ht : (pc : Int) + off = (tgt : Int)) (hx : vl_r32 x) (hy : vl_r32 y) (hE : vl_ok P (if x < y then A else B)) (kt : x < y → vl_ok P A → vl_V nc S sc K d Post tgt lv st μ ρ) (kf : ¬ (x < y) → vl_ok P B → vl_V nc S sc K d Post (pc + 3) lv st μ ρ) : vl_V nc S sc K d Post pc lv (vl_iv y :: vl_iv x :: st) μ ρ :=
  fun p l e R s m args below meth c H locs cells slots Q D cA ad A_1 ls hC hcs hR hl hret => lv_icmp_lt hC.1 hC.2.1 hd ht
    (fun q => kt ((vl_lt32 hx hy).mp q) (by rw [if_pos ((vl_lt32 hx hy).mp q)] at hE; exact hE) p l e R s m args below meth c H locs cells slots Q D cA ad A_1 ls hC hcs hR hl hret)
    (fun q => kf (fun z => q ((vl_lt32 hx hy).mpr z)) (by rw [if_neg (fun z => q ((vl_lt32 hx hy).mpr z))] at hE; exact hE) p l e R s m args below meth c H locs cells slots Q D cA ad A_1 ls hC hcs hR hl hret)
theorem vl_icmp_ge {α : Type} {P : α → Prop} {A B : Option α} {x y : Int} {off : Int} {tgt : Nat} (hd : decode K.2.1 pc = .ok (.if_icmp .ge off, 3)) (ht : (pc : Int) + off = (tgt : Int)) (hx : vl_r32 x) (hy : vl_r32 y) (hE : vl_ok P (if x < y then A else B)) (kt : ¬ (x < y) → vl_ok P B → vl_V nc S sc K d Post tgt lv st μ ρ) (kf : x < y → vl_ok P A → vl_V nc S sc K d Post (pc + 3) lv st μ ρ) : vl_V nc S sc K d Post pc lv (vl_iv y :: vl_iv x :: st) μ ρ :=
  fun p l e R s m args below meth c H locs cells slots Q D cA ad A_1 ls hC hcs hR hl hret => lv_icmp_ge hC.1 hC.2.1 hd ht
    (fun q => kt (Int.not_lt.mpr ((vl_le32 hy hx).mp q)) (by rw [if_neg (Int.not_lt.mpr ((vl_le32 hy hx).mp q))] at hE; exact hE) p l e R s m args below meth c H locs cells slots Q D cA ad A_1 ls hC hcs hR hl hret)
    (fun q => kf (Int.not_le.mp (fun z => q ((vl_le32 hy hx).mpr z))) (by rw [if_pos (Int.not_le.mp (fun z => q ((vl_le32 hy hx).mpr z)))] at hE; exact hE) p l e R s m args below meth c H locs cells slots Q D cA ad A_1 ls hC hcs hR hl hret)
theorem vl_icmp_gt {α : Type} {P : α → Prop} {A B : Option α} {x y : Int} {off : Int} {tgt : Nat} (hd : decode K.2.1 pc = .ok (.if_icmp .gt off, 3)) (ht : (pc : Int) + off = (tgt : Int)) (hx : vl_r32 x) (hy : vl_r32 y) (hE : vl_ok P (if y < x then A else B)) (kt : y < x → vl_ok P A → vl_V nc S sc K d Post tgt lv st μ ρ) (kf : ¬ (y < x) → vl_ok P B → vl_V nc S sc K d Post (pc + 3) lv st μ ρ) : vl_V nc S sc K d Post pc lv (vl_iv y :: vl_iv x :: st) μ ρ :=
  fun p l e R s m args below meth c H locs cells slots Q D cA ad A_1 ls hC hcs hR hl hret => lv_icmp_gt hC.1 hC.2.1 hd ht
    (fun q => kt ((vl_lt32 hy hx).mp q) (by rw [if_pos ((vl_lt32 hy hx).mp q)] at hE; exact hE) p l e R s m args below meth c H locs cells slots Q D cA ad A_1 ls hC hcs hR hl hret)
    (fun q => kf (fun z => q ((vl_lt32 hy hx).mpr z)) (by rw [if_neg (fun z => q ((vl_lt32 hy hx).mpr z))] at hE; exact hE) p l e R s m args below meth c H locs cells slots Q D cA ad A_1 ls hC hcs hR hl hret)
theorem vl_icmp_le {α : Type} {P : α → Prop} {A B : Option α} {x y : Int} {off : Int} {tgt : Nat} (hd : decode K.2.1 pc = .ok (.if_icmp .le off, 3)) (ht : (pc : Int) + off = (tgt : Int)) (hx : vl_r32 x) (hy : vl_r32 y) (hE : vl_ok P (if y < x then A else B)) (kt : ¬ (y < x) → vl_ok P B → vl_V nc S sc K d Post tgt lv st μ ρ) (kf : y < x → vl_ok P A → vl_V nc S sc K d Post (pc + 3) lv st μ ρ) : vl_V nc S sc K d Post pc lv (vl_iv y :: vl_iv x :: st) μ ρ :=
  fun p l e R s m args below meth c H locs cells slots Q D cA ad A_1 ls hC hcs hR hl hret => lv_icmp_le hC.1 hC.2.1 hd ht
    (fun q => kt (Int.not_lt.mpr ((vl_le32 hx hy).mp q)) (by rw [if_neg (Int.not_lt.mpr ((vl_le32 hx hy).mp q))] at hE; exact hE) p l e R s m args below meth c H locs cells slots Q D cA ad A_1 ls hC hcs hR hl hret)
    (fun q => kf (Int.not_le.mp (fun z => q ((vl_le32 hx hy).mpr z))) (by rw [if_pos (Int.not_le.mp (fun z => q ((vl_le32 hx hy).mpr z)))] at hE; exact hE) p l e R s m args below meth c H locs cells slots Q D cA ad A_1 ls hC hcs hR hl hret)
theorem vl_if_eq {α : Type} {P : α → Prop} {A B : Option α} {x : Int} {off : Int} {tgt : Nat} (hd : decode K.2.1 pc = .ok (.ifCond .eq off, 3)) (ht : (pc : Int) + off = (tgt : Int)) (hx : vl_r32 x) (hE : vl_ok P (if x = 0 then A else B)) (kt : x = 0 → vl_ok P A → vl_V nc S sc K d Post tgt lv st μ ρ) (kf : ¬ (x = 0) → vl_ok P B → vl_V nc S sc K d Post (pc + 3) lv st μ ρ) : vl_V nc S sc K d Post pc lv (vl_iv x :: st) μ ρ :=
  fun p l e R s m args below meth c H locs cells slots Q D cA ad A_1 ls hC hcs hR hl hret => lv_if_eq hC.1 hC.2.1 hd ht
    (fun q => kt ((vl_eq32 hx vl_r0).mp q) (by rw [if_pos ((vl_eq32 hx vl_r0).mp q)] at hE; exact hE) p l e R s m args below meth c H locs cells slots Q D cA ad A_1 ls hC hcs hR hl hret)
    (fun q => kf (fun z => q ((vl_eq32 hx vl_r0).mpr z)) (by rw [if_neg (fun z => q ((vl_eq32 hx vl_r0).mpr z))] at hE; exact hE) p l e R s m args below meth c H locs cells slots Q D cA ad A_1 ls hC hcs hR hl hret)
theorem vl_if_ne {α : Type} {P : α → Prop} {A B : Option α} {x : Int} {off : Int} {tgt : Nat} (hd : decode K.2.1 pc = .ok (.ifCond .ne off, 3)) (ht : (pc : Int) + off = (tgt : Int)) (hx : vl_r32 x) (hE : vl_ok P (if x = 0 then A else B)) (kt : ¬ (x = 0) → vl_ok P B → vl_V nc S sc K d Post tgt lv st μ ρ) (kf : x = 0 → vl_ok P A → vl_V nc S sc K d Post (pc + 3) lv st μ ρ) : vl_V nc S sc K d Post pc lv (vl_iv x :: st) μ ρ :=
  fun p l e R s m args below meth c H locs cells slots Q D cA ad A_1 ls hC hcs hR hl hret => lv_if_ne hC.1 hC.2.1 hd ht
    (fun q => kt (fun z => q ((vl_eq32 hx vl_r0).mpr z)) (by rw [if_neg (fun z => q ((vl_eq32 hx vl_r0).mpr z))] at hE; exact hE) p l e R s m args below meth c H locs cells slots Q D cA ad A_1 ls hC hcs hR hl hret)
    (fun q => kf ((vl_eq32 hx vl_r0).mp q) (by rw [if_pos ((vl_eq32 hx vl_r0).mp q)] at hE; exact hE) p l e R s m args below meth c H locs cells slots Q D cA ad A_1 ls hC hcs hR hl hret)
theorem vl_if_lt {α : Type} {P : α → Prop} {A B : Option α} {x : Int} {off : Int} {tgt : Nat} (hd : decode K.2.1 pc = .ok (.ifCond .lt off, 3)) (ht : (pc : Int) + off = (tgt : Int)) (hx : vl_r32 x) (hE : vl_ok P (if x < 0 then A else B)) (kt : x < 0 → vl_ok P A → vl_V nc S sc K d Post tgt lv st μ ρ) (kf : ¬ (x < 0) → vl_ok P B → vl_V nc S sc K d Post (pc + 3) lv st μ ρ) : vl_V nc S sc K d Post pc lv (vl_iv x :: st) μ ρ :=
  fun p l e R s m args below meth c H locs cells slots Q D cA ad A_1 ls hC hcs hR hl hret => lv_if_lt hC.1 hC.2.1 hd ht
    (fun q => kt ((vl_lt32 hx vl_r0).mp q) (by rw [if_pos ((vl_lt32 hx vl_r0).mp q)] at hE; exact hE) p l e R s m args below meth c H locs cells slots Q D cA ad A_1 ls hC hcs hR hl hret)
    (fun q => kf (fun z => q ((vl_lt32 hx vl_r0).mpr z)) (by rw [if_neg (fun z => q ((vl_lt32 hx vl_r0).mpr z))] at hE; exact hE) p l e R s m args below meth c H locs cells slots Q D cA ad A_1 ls hC hcs hR hl hret)
theorem vl_if_ge {α : Type} {P : α → Prop} {A B : Option α} {x : Int} {off : Int} {tgt : Nat} (hd : decode K.2.1 pc = .ok (.ifCond .ge off, 3)) (ht : (pc : Int) + off = (tgt : Int)) (hx : vl_r32 x) (hE : vl_ok P (if x < 0 then A else B)) (kt : ¬ (x < 0) → vl_ok P B → vl_V nc S sc K d Post tgt lv st μ ρ) (kf : x < 0 → vl_ok P A → vl_V nc S sc K d Post (pc + 3) lv st μ ρ) : vl_V nc S sc K d Post pc lv (vl_iv x :: st) μ ρ :=
  fun p l e R s m args below meth c H locs cells slots Q D cA ad A_1 ls hC hcs hR hl hret => lv_if_ge hC.1 hC.2.1 hd ht
    (fun q => kt (Int.not_lt.mpr ((vl_le32 vl_r0 hx).mp q)) (by rw [if_neg (Int.not_lt.mpr ((vl_le32 vl_r0 hx).mp q))] at hE; exact hE) p l e R s m args below meth c H locs cells slots Q D cA ad A_1 ls hC hcs hR hl hret)
    (fun q => kf (Int.not_le.mp (fun z => q ((vl_le32 vl_r0 hx).mpr z))) (by rw [if_pos (Int.not_le.mp (fun z => q ((vl_le32 vl_r0 hx).mpr z)))] at hE; exact hE) p l e R s m args below meth c H locs cells slots Q D cA ad A_1 ls hC hcs hR hl hret)
theorem vl_if_gt {α : Type} {P : α → Prop} {A B : Option α} {x : Int} {off : Int} {tgt : Nat} (hd : decode K.2.1 pc = .ok (.ifCond .gt off, 3)) (ht : (pc : Int) + off = (tgt : Int)) (hx : vl_r32 x) (hE : vl_ok P (if 0 < x then A else B)) (kt : 0 < x → vl_ok P A → vl_V nc S sc K d Post tgt lv st μ ρ) (kf : ¬ (0 < x) → vl_ok P B → vl_V nc S sc K d Post (pc + 3) lv st μ ρ) : vl_V nc S sc K d Post pc lv (vl_iv x :: st) μ ρ :=
  fun p l e R s m args below meth c H locs cells slots Q D cA ad A_1 ls hC hcs hR hl hret => lv_if_gt hC.1 hC.2.1 hd ht
    (fun q => kt ((vl_lt32 vl_r0 hx).mp q) (by rw [if_pos ((vl_lt32 vl_r0 hx).mp q)] at hE; exact hE) p l e R s m args below meth c H locs cells slots Q D cA ad A_1 ls hC hcs hR hl hret)
    (fun q => kf (fun z => q ((vl_lt32 vl_r0 hx).mpr z)) (by rw [if_neg (fun z => q ((vl_lt32 vl_r0 hx).mpr z))] at hE; exact hE) p l e R s m args below meth c H locs cells slots Q D cA ad A_1 ls hC hcs hR hl hret)
theorem vl_if_le {α : Type} {P : α → Prop} {A B : Option α} {x : Int} {off : Int} {tgt : Nat} (hd : decode K.2.1 pc = .ok (.ifCond .le off, 3)) (ht : (pc : Int) + off = (tgt : Int)) (hx : vl_r32 x) (hE : vl_ok P (if 0 < x then A else B)) (kt : ¬ (0 < x) → vl_ok P B → vl_V nc S sc K d Post tgt lv st μ ρ) (kf : 0 < x → vl_ok P A → vl_V nc S sc K d Post (pc + 3) lv st μ ρ) : vl_V nc S sc K d Post pc lv (vl_iv x :: st) μ ρ :=
  fun p l e R s m args below meth c H locs cells slots Q D cA ad A_1 ls hC hcs hR hl hret => lv_if_le hC.1 hC.2.1 hd ht
    (fun q => kt (Int.not_lt.mpr ((vl_le32 hx vl_r0).mp q)) (by rw [if_neg (Int.not_lt.mpr ((vl_le32 hx vl_r0).mp q))] at hE; exact hE) p l e R s m args below meth c H locs cells slots Q D cA ad A_1 ls hC hcs hR hl hret)
    (fun q => kf (Int.not_le.mp (fun z => q ((vl_le32 hx vl_r0).mpr z))) (by rw [if_pos (Int.not_le.mp (fun z => q ((vl_le32 hx vl_r0).mpr z)))] at hE; exact hE) p l e R s m args below meth c H locs cells slots Q D cA ad A_1 ls hC hcs hR hl hret)
end VLR
