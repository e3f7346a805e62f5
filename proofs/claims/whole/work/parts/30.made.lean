/-- from here the method ends with Post; it may make bc cells of bs slots -/
def vl_U (bc bs nc : Nat) (S : vl_Sh) (sc : Nat × (Nat → Int32)) (K : vl_K) (d : Nat) (Post : Int → Nat → vl_Sh → vl_M → vl_M → Prop) (pc : Nat) (lv : List (Nat × Value)) (st : List Value) (μ ρ : vl_M) : Prop :=
  ∀ (p : Program) (l : Launch) (e : Env) (R : Room) (s : State) (m : MethodId) (args : Array Value) (below : List Frame) (meth : Method) (c : Code) (H : Heap) (locs : List Loc) (cells slots : Nat) (Q : State → Prop) (D : va_G) (cA : ClassId) (ad : Nat → Nat) (A : Nat → Prop) (ls : Array Slot),
    vl_Cx K d p R s m args meth c → cells + bc ≤ R.cells ∧ slots + bs ≤ R.slots ∧ (∀ q, s.heap.size ≤ q → A q) ∧ (K.1.name = "<init>" → meth.name = "<init>") → vl_Rl nc S sc D cA ad A s μ ρ H locs → lv_has ls K.2.2.1 (lv.map (fun q => (q.1, vl_rz ad q.2))) →
    (∀ (r : Int) (nc' : Nat) (S' : vl_Sh) (μ' ρ' : vl_M) (H' : Heap) (locs' : List Loc) (pc' : Nat) (ls' : Array Slot) (ad' : Nat → Nat) (cells' slots' : Nat), (∀ h, h < nc ∨ 100 ≤ h → ad' h = ad h) → cells' ≤ cells + bc ∧ slots' ≤ slots + bs → Post r nc' S' μ' ρ' → vl_Rl nc' S' sc D cA ad' A s μ' ρ' H' locs' → vl_Rt K pc' r → W p l e R s m args below meth c H' locs' cells' slots' Q (F0 m pc' ls' (vl_rv K.2.2.2 r).toList)) →
    W p l e R s m args below meth c H locs cells slots Q (F0 m pc ls (st.map (vl_rz ad)))
section VUR
variable {bc bs nc : Nat} {S : vl_Sh} {sc : Nat × (Nat → Int32)} {K : vl_K} {d : Nat} {Post : Int → Nat → vl_Sh → vl_M → vl_M → Prop} {pc : Nat} {lv : List (Nat × Value)} {st st0 : List Value} {μ ρ : vl_M}
theorem vu_go {pc' : Nat} {st' : List Value}
  (h : ∀ (p : Program) (l : Launch) (e : Env) (R : Room) (s : State) (m : MethodId) (args : Array Value) (below : List Frame) (meth : Method) (c : Code) (H : Heap) (locs : List Loc) (cells slots : Nat) (Q : State → Prop) (ad : Nat → Nat) (ls : Array Slot), vl_Cx K d p R s m args meth c → lv_has ls K.2.2.1 (lv.map (fun q => (q.1, vl_rz ad q.2))) → W p l e R s m args below meth c H locs cells slots Q (F0 m pc' ls (st'.map (vl_rz ad))) → W p l e R s m args below meth c H locs cells slots Q (F0 m pc ls (st.map (vl_rz ad))))
  (k : vl_U bc bs nc S sc K d Post pc' lv st' μ ρ) : vl_U bc bs nc S sc K d Post pc lv st μ ρ :=
  fun p l e R s m args below meth c H locs cells slots Q D cA ad A ls hC hcs hR hl hret => h p l e R s m args below meth c H locs cells slots Q ad ls hC hl (k p l e R s m args below meth c H locs cells slots Q D cA ad A ls hC hcs hR hl hret)
theorem vu_iconst {n : Int} (hd : decode K.2.1 pc = .ok (.iconst n, 1)) (k : vl_U bc bs nc S sc K d Post (pc + 1) lv (vl_iv n :: st) μ ρ) : vl_U bc bs nc S sc K d Post pc lv (st) μ ρ :=
  vu_go (fun p l e R s m args below meth c H locs cells slots Q ad ls hC hl w => lv_iconst hC.1 hC.2.1 hd rfl w) k
theorem vu_bipush {n : Int} (hv : (Int8.ofInt n).toInt32 = Int32.ofInt n) (hd : decode K.2.1 pc = .ok (.bipush n, 2)) (k : vl_U bc bs nc S sc K d Post (pc + 2) lv (vl_iv n :: st) μ ρ) : vl_U bc bs nc S sc K d Post pc lv (st) μ ρ :=
  vu_go (fun p l e R s m args below meth c H locs cells slots Q ad ls hC hl w => lv_bipush hC.1 hC.2.1 hd hv w) k
theorem vu_sipush {n : Int} (hv : (Int16.ofInt n).toInt32 = Int32.ofInt n) (hd : decode K.2.1 pc = .ok (.sipush n, 3)) (k : vl_U bc bs nc S sc K d Post (pc + 3) lv (vl_iv n :: st) μ ρ) : vl_U bc bs nc S sc K d Post pc lv (st) μ ρ :=
  vu_go (fun p l e R s m args below meth c H locs cells slots Q ad ls hC hl w => lv_sipush hC.1 hC.2.1 hd hv w) k
theorem vu_lconst {n : Fin 2} {x : Int} (hv : Int64.ofNat (n : Nat) = Int64.ofInt x) (hd : decode K.2.1 pc = .ok (.lconst n, 1)) (k : vl_U bc bs nc S sc K d Post (pc + 1) lv (vl_jv x :: st) μ ρ) : vl_U bc bs nc S sc K d Post pc lv (st) μ ρ :=
  vu_go (fun p l e R s m args below meth c H locs cells slots Q ad ls hC hl w => lv_lconst hC.1 hC.2.1 hd hv w) k
theorem vu_iload_n (q : Nat) {k0 : Fin 4} {x : Int} (hk : lv[q]? = some ((k0 : Nat), vl_iv x)) (hd : decode K.2.1 pc = .ok (.iload_n k0, 1)) (k : vl_U bc bs nc S sc K d Post (pc + 1) lv (vl_iv x :: st) μ ρ) : vl_U bc bs nc S sc K d Post pc lv (st) μ ρ :=
  vu_go (fun p l e R s m args below meth c H locs cells slots Q ad ls hC hl w => lv_iload_n hC.1 hC.2.1 hd rfl (lv_at hl q (by rw [List.getElem?_map, hk]; rfl)) w) k
theorem vu_iload (q : Nat) {i : Nat} {x : Int} (hk : lv[q]? = some (i, vl_iv x)) (hd : decode K.2.1 pc = .ok (.iload i, 2)) (k : vl_U bc bs nc S sc K d Post (pc + 2) lv (vl_iv x :: st) μ ρ) : vl_U bc bs nc S sc K d Post pc lv (st) μ ρ :=
  vu_go (fun p l e R s m args below meth c H locs cells slots Q ad ls hC hl w => lv_iload hC.1 hC.2.1 hd (lv_at hl q (by rw [List.getElem?_map, hk]; rfl)) w) k
theorem vu_lload_n (q : Nat) {k0 : Fin 4} {x : Int} (hk : lv[q]? = some ((k0 : Nat), vl_jv x)) (hd : decode K.2.1 pc = .ok (.lload_n k0, 1)) (k : vl_U bc bs nc S sc K d Post (pc + 1) lv (vl_jv x :: st) μ ρ) : vl_U bc bs nc S sc K d Post pc lv (st) μ ρ :=
  vu_go (fun p l e R s m args below meth c H locs cells slots Q ad ls hC hl w => lv_lload_n hC.1 hC.2.1 hd rfl (lv_at hl q (by rw [List.getElem?_map, hk]; rfl)) w) k
theorem vu_lload (q : Nat) {i : Nat} {x : Int} (hk : lv[q]? = some (i, vl_jv x)) (hd : decode K.2.1 pc = .ok (.lload i, 2)) (k : vl_U bc bs nc S sc K d Post (pc + 2) lv (vl_jv x :: st) μ ρ) : vl_U bc bs nc S sc K d Post pc lv (st) μ ρ :=
  vu_go (fun p l e R s m args below meth c H locs cells slots Q ad ls hC hl w => lv_lload hC.1 hC.2.1 hd (lv_at hl q (by rw [List.getElem?_map, hk]; rfl)) w) k
theorem vu_aload_n (q : Nat) {k0 : Fin 4} {h : Nat} (hk : lv[q]? = some ((k0 : Nat), .ref h)) (hd : decode K.2.1 pc = .ok (.aload_n k0, 1)) (k : vl_U bc bs nc S sc K d Post (pc + 1) lv (.ref h :: st) μ ρ) : vl_U bc bs nc S sc K d Post pc lv (st) μ ρ :=
  vu_go (fun p l e R s m args below meth c H locs cells slots Q ad ls hC hl w => lv_aload_n hC.1 hC.2.1 hd rfl (lv_at hl q (by rw [List.getElem?_map, hk]; rfl)) w) k
theorem vu_aload (q : Nat) {i : Nat} {h : Nat} (hk : lv[q]? = some (i, .ref h)) (hd : decode K.2.1 pc = .ok (.aload i, 2)) (k : vl_U bc bs nc S sc K d Post (pc + 2) lv (.ref h :: st) μ ρ) : vl_U bc bs nc S sc K d Post pc lv (st) μ ρ :=
  vu_go (fun p l e R s m args below meth c H locs cells slots Q ad ls hC hl w => lv_aload hC.1 hC.2.1 hd (lv_at hl q (by rw [List.getElem?_map, hk]; rfl)) w) k
theorem vu_iadd {x y : Int} (hd : decode K.2.1 pc = .ok (.iadd, 1)) (k : vl_U bc bs nc S sc K d Post (pc + 1) lv (vl_iv (x + y) :: st) μ ρ) : vl_U bc bs nc S sc K d Post pc lv (vl_iv y :: vl_iv x :: st) μ ρ :=
  vu_go (fun p l e R s m args below meth c H locs cells slots Q ad ls hC hl w => lv_iadd hC.1 hC.2.1 hd (by rw [← Int32.ofInt_add]; exact w)) k
theorem vu_isub {x y : Int} (hd : decode K.2.1 pc = .ok (.isub, 1)) (k : vl_U bc bs nc S sc K d Post (pc + 1) lv (vl_iv (x - y) :: st) μ ρ) : vl_U bc bs nc S sc K d Post pc lv (vl_iv y :: vl_iv x :: st) μ ρ :=
  vu_go (fun p l e R s m args below meth c H locs cells slots Q ad ls hC hl w => lv_isub hC.1 hC.2.1 hd (by rw [← Int32.ofInt_sub]; exact w)) k
theorem vu_imul {x y : Int} (hd : decode K.2.1 pc = .ok (.imul, 1)) (k : vl_U bc bs nc S sc K d Post (pc + 1) lv (vl_iv (x * y) :: st) μ ρ) : vl_U bc bs nc S sc K d Post pc lv (vl_iv y :: vl_iv x :: st) μ ρ :=
  vu_go (fun p l e R s m args below meth c H locs cells slots Q ad ls hC hl w => lv_imul hC.1 hC.2.1 hd (by rw [← Int32.ofInt_mul]; exact w)) k
theorem vu_ladd {x y : Int} (hd : decode K.2.1 pc = .ok (.ladd, 1)) (k : vl_U bc bs nc S sc K d Post (pc + 1) lv (vl_jv (x + y) :: st) μ ρ) : vl_U bc bs nc S sc K d Post pc lv (vl_jv y :: vl_jv x :: st) μ ρ :=
  vu_go (fun p l e R s m args below meth c H locs cells slots Q ad ls hC hl w => lv_ladd hC.1 hC.2.1 hd (by rw [← Int64.ofInt_add]; exact w)) k
theorem vu_lsub {x y : Int} (hd : decode K.2.1 pc = .ok (.lsub, 1)) (k : vl_U bc bs nc S sc K d Post (pc + 1) lv (vl_jv (x - y) :: st) μ ρ) : vl_U bc bs nc S sc K d Post pc lv (vl_jv y :: vl_jv x :: st) μ ρ :=
  vu_go (fun p l e R s m args below meth c H locs cells slots Q ad ls hC hl w => lv_lsub hC.1 hC.2.1 hd (by rw [← Int64.ofInt_sub]; exact w)) k
theorem vu_lmul {x y : Int} (hd : decode K.2.1 pc = .ok (.lmul, 1)) (k : vl_U bc bs nc S sc K d Post (pc + 1) lv (vl_jv (x * y) :: st) μ ρ) : vl_U bc bs nc S sc K d Post pc lv (vl_jv y :: vl_jv x :: st) μ ρ :=
  vu_go (fun p l e R s m args below meth c H locs cells slots Q ad ls hC hl w => lv_lmul hC.1 hC.2.1 hd (by rw [← Int64.ofInt_mul]; exact w)) k
theorem vu_ineg {x : Int} (hd : decode K.2.1 pc = .ok (.ineg, 1)) (k : vl_U bc bs nc S sc K d Post (pc + 1) lv (vl_iv (-x) :: st) μ ρ) : vl_U bc bs nc S sc K d Post pc lv (vl_iv x :: st) μ ρ :=
  vu_go (fun p l e R s m args below meth c H locs cells slots Q ad ls hC hl w => lv_ineg hC.1 hC.2.1 hd (by rw [← Int32.ofInt_neg]; exact w)) k
theorem vu_lneg {x : Int} (hd : decode K.2.1 pc = .ok (.lneg, 1)) (k : vl_U bc bs nc S sc K d Post (pc + 1) lv (vl_jv (-x) :: st) μ ρ) : vl_U bc bs nc S sc K d Post pc lv (vl_jv x :: st) μ ρ :=
  vu_go (fun p l e R s m args below meth c H locs cells slots Q ad ls hC hl w => lv_lneg hC.1 hC.2.1 hd (by rw [← Int64.ofInt_neg]; exact w)) k
theorem vu_idiv {x y : Int} (hx : 0 ≤ x ∧ x < 2147483648) (hy : 0 < y ∧ y < 2147483648) (hd : decode K.2.1 pc = .ok (.idiv, 1)) (k : vl_U bc bs nc S sc K d Post (pc + 1) lv (vl_iv (x / y) :: st) μ ρ) : vl_U bc bs nc S sc K d Post pc lv (vl_iv y :: vl_iv x :: st) μ ρ :=
  vu_go (fun p l e R s m args below meth c H locs cells slots Q ad ls hC hl w => lv_idiv hC.1 hC.2.1 hd (fun q => by rw [vl_z32, vl_eq32 ⟨by omega, hy.2⟩ vl_r0] at q; omega) (by rw [vl_div32 hx hy]; exact w)) k
theorem vu_i2l {x : Int} (hx : vl_r32 x) (hd : decode K.2.1 pc = .ok (.i2l, 1)) (k : vl_U bc bs nc S sc K d Post (pc + 1) lv (vl_jv x :: st) μ ρ) : vl_U bc bs nc S sc K d Post pc lv (vl_iv x :: st) μ ρ :=
  vu_go (fun p l e R s m args below meth c H locs cells slots Q ad ls hC hl w => lv_i2l hC.1 hC.2.1 hd (Int32.toInt64_ofInt hx.1 (Int.le_of_lt_add_one hx.2)) w) k
theorem vu_l2i {x : Int} (hd : decode K.2.1 pc = .ok (.l2i, 1)) (k : vl_U bc bs nc S sc K d Post (pc + 1) lv (vl_iv x :: st) μ ρ) : vl_U bc bs nc S sc K d Post pc lv (vl_jv x :: st) μ ρ :=
  vu_go (fun p l e R s m args below meth c H locs cells slots Q ad ls hC hl w => lv_l2i hC.1 hC.2.1 hd Int64.toInt32_ofInt w) k
theorem vu_dup {v : Value} (hv : v.category = 1) (hd : decode K.2.1 pc = .ok (.dup, 1)) (k : vl_U bc bs nc S sc K d Post (pc + 1) lv (v :: v :: st) μ ρ) : vl_U bc bs nc S sc K d Post pc lv (v :: st) μ ρ :=
  vu_go (fun p l e R s m args below meth c H locs cells slots Q ad ls hC hl w => lv_dup hC.1 hC.2.1 hd (by rw [vl_cat]; exact hv) w) k
theorem vu_pop {v : Value} (hv : v.category = 1) (hd : decode K.2.1 pc = .ok (.pop, 1)) (k : vl_U bc bs nc S sc K d Post (pc + 1) lv (st) μ ρ) : vl_U bc bs nc S sc K d Post pc lv (v :: st) μ ρ :=
  vu_go (fun p l e R s m args below meth c H locs cells slots Q ad ls hC hl w => lv_pop hC.1 hC.2.1 hd (by rw [vl_cat]; exact hv) w) k
theorem vu_dup_x1 {v u : Value} (hv : v.category = 1) (hu : u.category = 1) (hd : decode K.2.1 pc = .ok (.dup_x1, 1)) (k : vl_U bc bs nc S sc K d Post (pc + 1) lv (v :: u :: v :: st) μ ρ) : vl_U bc bs nc S sc K d Post pc lv (v :: u :: st) μ ρ :=
  vu_go (fun p l e R s m args below meth c H locs cells slots Q ad ls hC hl w => lv_dup_x1 hC.1 hC.2.1 hd (by rw [vl_cat]; exact hv) (by rw [vl_cat]; exact hu) w) k
theorem vu_dup2 {v u : Value} (hv : v.category = 1) (hu : u.category = 1) (hd : decode K.2.1 pc = .ok (.dup2, 1)) (k : vl_U bc bs nc S sc K d Post (pc + 1) lv (v :: u :: v :: u :: st) μ ρ) : vl_U bc bs nc S sc K d Post pc lv (v :: u :: st) μ ρ :=
  vu_go (fun p l e R s m args below meth c H locs cells slots Q ad ls hC hl w => lv_dup2_11 hC.1 hC.2.1 hd (by rw [vl_cat]; exact hv) (by rw [vl_cat]; exact hu) w) k
theorem vu_goto {off : Int} {tgt : Nat} (hd : decode K.2.1 pc = .ok (.goto off, 3)) (ht : (pc : Int) + off = (tgt : Int)) (k : vl_U bc bs nc S sc K d Post tgt lv st μ ρ) : vl_U bc bs nc S sc K d Post pc lv st μ ρ :=
  vu_go (fun p l e R s m args below meth c H locs cells slots Q ad ls hC hl w => lv_goto hC.1 hC.2.1 hd ht w) k
theorem vu_wk (ks : List Nat) {lv' : List (Nat × Value)} (h : lv_pick lv ks = lv') (k : vl_U bc bs nc S sc K d Post pc lv' st μ ρ) : vl_U bc bs nc S sc K d Post pc lv st μ ρ :=
  fun p l e R s m args below meth c H locs cells slots Q D cA ad A ls hC hcs hR hl hret => k p l e R s m args below meth c H locs cells slots Q D cA ad A ls hC hcs hR (by
    refine ⟨hl.1, hl.2.1, fun q hq => ?_⟩
    obtain ⟨q0, h0, rfl⟩ := List.mem_map.mp hq
    rw [← h] at h0
    obtain ⟨i, -, hi⟩ := List.mem_filterMap.mp h0
    exact hl.2.2 _ (List.mem_map.mpr ⟨q0, List.mem_of_getElem? hi, rfl⟩)) hret
theorem vu_istore_n {α : Type} {P : α → Prop} {E : Int → Option α} {i : Nat} {x : Int} {k0 : Fin 4} (hi : (k0 : Nat) = i) (lv' : Int → List (Nat × Value)) (hd : decode K.2.1 pc = .ok (.istore_n k0, 1)) (hn : i < K.2.2.1) (hlv : ∀ x, (i, vl_iv x) :: lv.filter (fun q => !(q.1 == i) && !(q.1 + 1 == i && q.2.category == 2)) = lv' x) (hE : vl_ok P (vl_lt x E)) (k : ∀ x, vl_ok P (E x) → vl_U bc bs nc S sc K d Post (pc + 1) (lv' x) st μ ρ) : vl_U bc bs nc S sc K d Post pc lv (vl_iv x :: st) μ ρ :=
  fun p l e R s m args below meth c H locs cells slots Q D cA ad A ls hC hcs hR hl hret => lv_istore_n hC.1 hC.2.1 hd hi hl hn rfl (fun ls' hl' => k x hE p l e R s m args below meth c H locs cells slots Q D cA ad A ls' hC hcs hR (by
    rw [vl_mapf ad lv _ (fun q => by simp only [vl_cat])] at hl'
    rw [← hlv x]
    exact hl') hret)
theorem vu_istore_n0 {i : Nat} {x : Int} {k0 : Fin 4} (hi : (k0 : Nat) = i) {lv' : List (Nat × Value)} (hd : decode K.2.1 pc = .ok (.istore_n k0, 1)) (hn : i < K.2.2.1) (hlv : (i, vl_iv x) :: lv.filter (fun q => !(q.1 == i) && !(q.1 + 1 == i && q.2.category == 2)) = lv') (k : vl_U bc bs nc S sc K d Post (pc + 1) lv' st μ ρ) : vl_U bc bs nc S sc K d Post pc lv (vl_iv x :: st) μ ρ :=
  fun p l e R s m args below meth c H locs cells slots Q D cA ad A ls hC hcs hR hl hret => lv_istore_n hC.1 hC.2.1 hd hi hl hn rfl (fun ls' hl' => k p l e R s m args below meth c H locs cells slots Q D cA ad A ls' hC hcs hR (by
    rw [vl_mapf ad lv _ (fun q => by simp only [vl_cat])] at hl'
    rw [← hlv]
    exact hl') hret)
theorem vu_istore {α : Type} {P : α → Prop} {E : Int → Option α} {i : Nat} {x : Int}  (lv' : Int → List (Nat × Value)) (hd : decode K.2.1 pc = .ok (.istore i, 2)) (hn : i < K.2.2.1) (hlv : ∀ x, (i, vl_iv x) :: lv.filter (fun q => !(q.1 == i) && !(q.1 + 1 == i && q.2.category == 2)) = lv' x) (hE : vl_ok P (vl_lt x E)) (k : ∀ x, vl_ok P (E x) → vl_U bc bs nc S sc K d Post (pc + 2) (lv' x) st μ ρ) : vl_U bc bs nc S sc K d Post pc lv (vl_iv x :: st) μ ρ :=
  fun p l e R s m args below meth c H locs cells slots Q D cA ad A ls hC hcs hR hl hret => lv_istore hC.1 hC.2.1 hd hl hn rfl (fun ls' hl' => k x hE p l e R s m args below meth c H locs cells slots Q D cA ad A ls' hC hcs hR (by
    rw [vl_mapf ad lv _ (fun q => by simp only [vl_cat])] at hl'
    rw [← hlv x]
    exact hl') hret)
theorem vu_istore0 {i : Nat} {x : Int}  {lv' : List (Nat × Value)} (hd : decode K.2.1 pc = .ok (.istore i, 2)) (hn : i < K.2.2.1) (hlv : (i, vl_iv x) :: lv.filter (fun q => !(q.1 == i) && !(q.1 + 1 == i && q.2.category == 2)) = lv') (k : vl_U bc bs nc S sc K d Post (pc + 2) lv' st μ ρ) : vl_U bc bs nc S sc K d Post pc lv (vl_iv x :: st) μ ρ :=
  fun p l e R s m args below meth c H locs cells slots Q D cA ad A ls hC hcs hR hl hret => lv_istore hC.1 hC.2.1 hd hl hn rfl (fun ls' hl' => k p l e R s m args below meth c H locs cells slots Q D cA ad A ls' hC hcs hR (by
    rw [vl_mapf ad lv _ (fun q => by simp only [vl_cat])] at hl'
    rw [← hlv]
    exact hl') hret)
theorem vu_astore_n {i : Nat} {x : Nat} {k0 : Fin 4} (hi : (k0 : Nat) = i) {lv' : List (Nat × Value)} (hd : decode K.2.1 pc = .ok (.astore_n k0, 1)) (hn : i < K.2.2.1) (hlv : (i, Value.ref x) :: lv.filter (fun q => !(q.1 == i) && !(q.1 + 1 == i && q.2.category == 2)) = lv') (k : vl_U bc bs nc S sc K d Post (pc + 1) lv' st μ ρ) : vl_U bc bs nc S sc K d Post pc lv (.ref x :: st) μ ρ :=
  fun p l e R s m args below meth c H locs cells slots Q D cA ad A ls hC hcs hR hl hret => lv_astore_n hC.1 hC.2.1 hd hi hl hn rfl (fun ls' hl' => k p l e R s m args below meth c H locs cells slots Q D cA ad A ls' hC hcs hR (by
    rw [vl_mapf ad lv _ (fun q => by simp only [vl_cat])] at hl'
    rw [← hlv]
    exact hl') hret)
theorem vu_astore {i : Nat} {x : Nat}  {lv' : List (Nat × Value)} (hd : decode K.2.1 pc = .ok (.astore i, 2)) (hn : i < K.2.2.1) (hlv : (i, Value.ref x) :: lv.filter (fun q => !(q.1 == i) && !(q.1 + 1 == i && q.2.category == 2)) = lv') (k : vl_U bc bs nc S sc K d Post (pc + 2) lv' st μ ρ) : vl_U bc bs nc S sc K d Post pc lv (.ref x :: st) μ ρ :=
  fun p l e R s m args below meth c H locs cells slots Q D cA ad A ls hC hcs hR hl hret => lv_astore hC.1 hC.2.1 hd hl hn rfl (fun ls' hl' => k p l e R s m args below meth c H locs cells slots Q D cA ad A ls' hC hcs hR (by
    rw [vl_mapf ad lv _ (fun q => by simp only [vl_cat])] at hl'
    rw [← hlv]
    exact hl') hret)
theorem vu_iinc {α : Type} {P : α → Prop} {E : Int → Option α} (q : Nat) {i : Nat} {n : Int} {x : Int} (lv' : Int → List (Nat × Value)) (hd : decode K.2.1 pc = .ok (.iinc i n, 3)) (hk : lv[q]? = some (i, vl_iv x)) (hn : i < K.2.2.1) (hlv : ∀ x, (i, vl_iv x) :: lv.filter (fun q => !(q.1 == i) && !(q.1 + 1 == i && q.2.category == 2)) = lv' x) (hE : vl_ok P (vl_lt (x + n) E)) (k : ∀ x, vl_ok P (E x) → vl_U bc bs nc S sc K d Post (pc + 3) (lv' x) st μ ρ) : vl_U bc bs nc S sc K d Post pc lv st μ ρ :=
  fun p l e R s m args below meth c H locs cells slots Q D cA ad A ls hC hcs hR hl hret => lv_iinc hC.1 hC.2.1 hd hl (by rw [List.getElem?_map, hk]; rfl) (by rw [← Int32.ofInt_add]) hn rfl (fun ls' hl' => k (x + n) hE p l e R s m args below meth c H locs cells slots Q D cA ad A ls' hC hcs hR (by
    rw [vl_mapf ad lv _ (fun q => by simp only [vl_cat])] at hl'
    rw [← hlv (x + n)]
    exact hl') hret)
theorem vu_icmp_eq {α : Type} {P : α → Prop} {A B : Option α} {x y : Int} {off : Int} {tgt : Nat} (hd : decode K.2.1 pc = .ok (.if_icmp .eq off, 3)) (ht : (pc : Int) + off = (tgt : Int)) (hx : vl_r32 x) (hy : vl_r32 y) (hE : vl_ok P (if x = y then A else B)) (kt : x = y → vl_ok P A → vl_U bc bs nc S sc K d Post tgt lv st μ ρ) (kf : ¬ (x = y) → vl_ok P B → vl_U bc bs nc S sc K d Post (pc + 3) lv st μ ρ) : vl_U bc bs nc S sc K d Post pc lv (vl_iv y :: vl_iv x :: st) μ ρ :=
  fun p l e R s m args below meth c H locs cells slots Q D cA ad A_1 ls hC hcs hR hl hret => lv_icmp_eq hC.1 hC.2.1 hd ht
    (fun q => kt ((vl_eq32 hx hy).mp q) (by rw [if_pos ((vl_eq32 hx hy).mp q)] at hE; exact hE) p l e R s m args below meth c H locs cells slots Q D cA ad A_1 ls hC hcs hR hl hret)
    (fun q => kf (fun z => q ((vl_eq32 hx hy).mpr z)) (by rw [if_neg (fun z => q ((vl_eq32 hx hy).mpr z))] at hE; exact hE) p l e R s m args below meth c H locs cells slots Q D cA ad A_1 ls hC hcs hR hl hret)
theorem vu_icmp_ne {α : Type} {P : α → Prop} {A B : Option α} {x y : Int} {off : Int} {tgt : Nat} (hd : decode K.2.1 pc = .ok (.if_icmp .ne off, 3)) (ht : (pc : Int) + off = (tgt : Int)) (hx : vl_r32 x) (hy : vl_r32 y) (hE : vl_ok P (if x = y then A else B)) (kt : ¬ (x = y) → vl_ok P B → vl_U bc bs nc S sc K d Post tgt lv st μ ρ) (kf : x = y → vl_ok P A → vl_U bc bs nc S sc K d Post (pc + 3) lv st μ ρ) : vl_U bc bs nc S sc K d Post pc lv (vl_iv y :: vl_iv x :: st) μ ρ :=
  fun p l e R s m args below meth c H locs cells slots Q D cA ad A_1 ls hC hcs hR hl hret => lv_icmp_ne hC.1 hC.2.1 hd ht
    (fun q => kt (fun z => q ((vl_eq32 hx hy).mpr z)) (by rw [if_neg (fun z => q ((vl_eq32 hx hy).mpr z))] at hE; exact hE) p l e R s m args below meth c H locs cells slots Q D cA ad A_1 ls hC hcs hR hl hret)
    (fun q => kf ((vl_eq32 hx hy).mp q) (by rw [if_pos ((vl_eq32 hx hy).mp q)] at hE; exact hE) p l e R s m args below meth c H locs cells slots Q D cA ad A_1 ls hC hcs hR hl hret)
theorem vu_icmp_lt {α : Type} {P : α → Prop} {A B : Option α} {x y : Int} {off : Int} {tgt : Nat} (hd : decode K.2.1 pc = .ok (.if_icmp .lt off, 3)) (ht : (pc : Int) + off = (tgt : Int)) (hx : vl_r32 x) (hy : vl_r32 y) (hE : vl_ok P (if x < y then A else B)) (kt : x < y → vl_ok P A → vl_U bc bs nc S sc K d Post tgt lv st μ ρ) (kf : ¬ (x < y) → vl_ok P B → vl_U bc bs nc S sc K d Post (pc + 3) lv st μ ρ) : vl_U bc bs nc S sc K d Post pc lv (vl_iv y :: vl_iv x :: st) μ ρ :=
  fun p l e R s m args below meth c H locs cells slots Q D cA ad A_1 ls hC hcs hR hl hret => lv_icmp_lt hC.1 hC.2.1 hd ht
    (fun q => kt ((vl_lt32 hx hy).mp q) (by rw [if_pos ((vl_lt32 hx hy).mp q)] at hE; exact hE) p l e R s m args below meth c H locs cells slots Q D cA ad A_1 ls hC hcs hR hl hret)
    (fun q => kf (fun z => q ((vl_lt32 hx hy).mpr z)) (by rw [if_neg (fun z => q ((vl_lt32 hx hy).mpr z))] at hE; exact hE) p l e R s m args below meth c H locs cells slots Q D cA ad A_1 ls hC hcs hR hl hret)
theorem vu_icmp_ge {α : Type} {P : α → Prop} {A B : Option α} {x y : Int} {off : Int} {tgt : Nat} (hd : decode K.2.1 pc = .ok (.if_icmp .ge off, 3)) (ht : (pc : Int) + off = (tgt : Int)) (hx : vl_r32 x) (hy : vl_r32 y) (hE : vl_ok P (if x < y then A else B)) (kt : ¬ (x < y) → vl_ok P B → vl_U bc bs nc S sc K d Post tgt lv st μ ρ) (kf : x < y → vl_ok P A → vl_U bc bs nc S sc K d Post (pc + 3) lv st μ ρ) : vl_U bc bs nc S sc K d Post pc lv (vl_iv y :: vl_iv x :: st) μ ρ :=
  fun p l e R s m args below meth c H locs cells slots Q D cA ad A_1 ls hC hcs hR hl hret => lv_icmp_ge hC.1 hC.2.1 hd ht
    (fun q => kt (Int.not_lt.mpr ((vl_le32 hy hx).mp q)) (by rw [if_neg (Int.not_lt.mpr ((vl_le32 hy hx).mp q))] at hE; exact hE) p l e R s m args below meth c H locs cells slots Q D cA ad A_1 ls hC hcs hR hl hret)
    (fun q => kf (Int.not_le.mp (fun z => q ((vl_le32 hy hx).mpr z))) (by rw [if_pos (Int.not_le.mp (fun z => q ((vl_le32 hy hx).mpr z)))] at hE; exact hE) p l e R s m args below meth c H locs cells slots Q D cA ad A_1 ls hC hcs hR hl hret)
theorem vu_icmp_gt {α : Type} {P : α → Prop} {A B : Option α} {x y : Int} {off : Int} {tgt : Nat} (hd : decode K.2.1 pc = .ok (.if_icmp .gt off, 3)) (ht : (pc : Int) + off = (tgt : Int)) (hx : vl_r32 x) (hy : vl_r32 y) (hE : vl_ok P (if y < x then A else B)) (kt : y < x → vl_ok P A → vl_U bc bs nc S sc K d Post tgt lv st μ ρ) (kf : ¬ (y < x) → vl_ok P B → vl_U bc bs nc S sc K d Post (pc + 3) lv st μ ρ) : vl_U bc bs nc S sc K d Post pc lv (vl_iv y :: vl_iv x :: st) μ ρ :=
  fun p l e R s m args below meth c H locs cells slots Q D cA ad A_1 ls hC hcs hR hl hret => lv_icmp_gt hC.1 hC.2.1 hd ht
    (fun q => kt ((vl_lt32 hy hx).mp q) (by rw [if_pos ((vl_lt32 hy hx).mp q)] at hE; exact hE) p l e R s m args below meth c H locs cells slots Q D cA ad A_1 ls hC hcs hR hl hret)
    (fun q => kf (fun z => q ((vl_lt32 hy hx).mpr z)) (by rw [if_neg (fun z => q ((vl_lt32 hy hx).mpr z))] at hE; exact hE) p l e R s m args below meth c H locs cells slots Q D cA ad A_1 ls hC hcs hR hl hret)
theorem vu_icmp_le {α : Type} {P : α → Prop} {A B : Option α} {x y : Int} {off : Int} {tgt : Nat} (hd : decode K.2.1 pc = .ok (.if_icmp .le off, 3)) (ht : (pc : Int) + off = (tgt : Int)) (hx : vl_r32 x) (hy : vl_r32 y) (hE : vl_ok P (if y < x then A else B)) (kt : ¬ (y < x) → vl_ok P B → vl_U bc bs nc S sc K d Post tgt lv st μ ρ) (kf : y < x → vl_ok P A → vl_U bc bs nc S sc K d Post (pc + 3) lv st μ ρ) : vl_U bc bs nc S sc K d Post pc lv (vl_iv y :: vl_iv x :: st) μ ρ :=
  fun p l e R s m args below meth c H locs cells slots Q D cA ad A_1 ls hC hcs hR hl hret => lv_icmp_le hC.1 hC.2.1 hd ht
    (fun q => kt (Int.not_lt.mpr ((vl_le32 hx hy).mp q)) (by rw [if_neg (Int.not_lt.mpr ((vl_le32 hx hy).mp q))] at hE; exact hE) p l e R s m args below meth c H locs cells slots Q D cA ad A_1 ls hC hcs hR hl hret)
    (fun q => kf (Int.not_le.mp (fun z => q ((vl_le32 hx hy).mpr z))) (by rw [if_pos (Int.not_le.mp (fun z => q ((vl_le32 hx hy).mpr z)))] at hE; exact hE) p l e R s m args below meth c H locs cells slots Q D cA ad A_1 ls hC hcs hR hl hret)
theorem vu_if_eq {α : Type} {P : α → Prop} {A B : Option α} {x : Int} {off : Int} {tgt : Nat} (hd : decode K.2.1 pc = .ok (.ifCond .eq off, 3)) (ht : (pc : Int) + off = (tgt : Int)) (hx : vl_r32 x) (hE : vl_ok P (if x = 0 then A else B)) (kt : x = 0 → vl_ok P A → vl_U bc bs nc S sc K d Post tgt lv st μ ρ) (kf : ¬ (x = 0) → vl_ok P B → vl_U bc bs nc S sc K d Post (pc + 3) lv st μ ρ) : vl_U bc bs nc S sc K d Post pc lv (vl_iv x :: st) μ ρ :=
  fun p l e R s m args below meth c H locs cells slots Q D cA ad A_1 ls hC hcs hR hl hret => lv_if_eq hC.1 hC.2.1 hd ht
    (fun q => kt ((vl_eq32 hx vl_r0).mp q) (by rw [if_pos ((vl_eq32 hx vl_r0).mp q)] at hE; exact hE) p l e R s m args below meth c H locs cells slots Q D cA ad A_1 ls hC hcs hR hl hret)
    (fun q => kf (fun z => q ((vl_eq32 hx vl_r0).mpr z)) (by rw [if_neg (fun z => q ((vl_eq32 hx vl_r0).mpr z))] at hE; exact hE) p l e R s m args below meth c H locs cells slots Q D cA ad A_1 ls hC hcs hR hl hret)
theorem vu_if_ne {α : Type} {P : α → Prop} {A B : Option α} {x : Int} {off : Int} {tgt : Nat} (hd : decode K.2.1 pc = .ok (.ifCond .ne off, 3)) (ht : (pc : Int) + off = (tgt : Int)) (hx : vl_r32 x) (hE : vl_ok P (if x = 0 then A else B)) (kt : ¬ (x = 0) → vl_ok P B → vl_U bc bs nc S sc K d Post tgt lv st μ ρ) (kf : x = 0 → vl_ok P A → vl_U bc bs nc S sc K d Post (pc + 3) lv st μ ρ) : vl_U bc bs nc S sc K d Post pc lv (vl_iv x :: st) μ ρ :=
  fun p l e R s m args below meth c H locs cells slots Q D cA ad A_1 ls hC hcs hR hl hret => lv_if_ne hC.1 hC.2.1 hd ht
    (fun q => kt (fun z => q ((vl_eq32 hx vl_r0).mpr z)) (by rw [if_neg (fun z => q ((vl_eq32 hx vl_r0).mpr z))] at hE; exact hE) p l e R s m args below meth c H locs cells slots Q D cA ad A_1 ls hC hcs hR hl hret)
    (fun q => kf ((vl_eq32 hx vl_r0).mp q) (by rw [if_pos ((vl_eq32 hx vl_r0).mp q)] at hE; exact hE) p l e R s m args below meth c H locs cells slots Q D cA ad A_1 ls hC hcs hR hl hret)
theorem vu_if_lt {α : Type} {P : α → Prop} {A B : Option α} {x : Int} {off : Int} {tgt : Nat} (hd : decode K.2.1 pc = .ok (.ifCond .lt off, 3)) (ht : (pc : Int) + off = (tgt : Int)) (hx : vl_r32 x) (hE : vl_ok P (if x < 0 then A else B)) (kt : x < 0 → vl_ok P A → vl_U bc bs nc S sc K d Post tgt lv st μ ρ) (kf : ¬ (x < 0) → vl_ok P B → vl_U bc bs nc S sc K d Post (pc + 3) lv st μ ρ) : vl_U bc bs nc S sc K d Post pc lv (vl_iv x :: st) μ ρ :=
  fun p l e R s m args below meth c H locs cells slots Q D cA ad A_1 ls hC hcs hR hl hret => lv_if_lt hC.1 hC.2.1 hd ht
    (fun q => kt ((vl_lt32 hx vl_r0).mp q) (by rw [if_pos ((vl_lt32 hx vl_r0).mp q)] at hE; exact hE) p l e R s m args below meth c H locs cells slots Q D cA ad A_1 ls hC hcs hR hl hret)
    (fun q => kf (fun z => q ((vl_lt32 hx vl_r0).mpr z)) (by rw [if_neg (fun z => q ((vl_lt32 hx vl_r0).mpr z))] at hE; exact hE) p l e R s m args below meth c H locs cells slots Q D cA ad A_1 ls hC hcs hR hl hret)
theorem vu_if_ge {α : Type} {P : α → Prop} {A B : Option α} {x : Int} {off : Int} {tgt : Nat} (hd : decode K.2.1 pc = .ok (.ifCond .ge off, 3)) (ht : (pc : Int) + off = (tgt : Int)) (hx : vl_r32 x) (hE : vl_ok P (if x < 0 then A else B)) (kt : ¬ (x < 0) → vl_ok P B → vl_U bc bs nc S sc K d Post tgt lv st μ ρ) (kf : x < 0 → vl_ok P A → vl_U bc bs nc S sc K d Post (pc + 3) lv st μ ρ) : vl_U bc bs nc S sc K d Post pc lv (vl_iv x :: st) μ ρ :=
  fun p l e R s m args below meth c H locs cells slots Q D cA ad A_1 ls hC hcs hR hl hret => lv_if_ge hC.1 hC.2.1 hd ht
    (fun q => kt (Int.not_lt.mpr ((vl_le32 vl_r0 hx).mp q)) (by rw [if_neg (Int.not_lt.mpr ((vl_le32 vl_r0 hx).mp q))] at hE; exact hE) p l e R s m args below meth c H locs cells slots Q D cA ad A_1 ls hC hcs hR hl hret)
    (fun q => kf (Int.not_le.mp (fun z => q ((vl_le32 vl_r0 hx).mpr z))) (by rw [if_pos (Int.not_le.mp (fun z => q ((vl_le32 vl_r0 hx).mpr z)))] at hE; exact hE) p l e R s m args below meth c H locs cells slots Q D cA ad A_1 ls hC hcs hR hl hret)
theorem vu_if_gt {α : Type} {P : α → Prop} {A B : Option α} {x : Int} {off : Int} {tgt : Nat} (hd : decode K.2.1 pc = .ok (.ifCond .gt off, 3)) (ht : (pc : Int) + off = (tgt : Int)) (hx : vl_r32 x) (hE : vl_ok P (if 0 < x then A else B)) (kt : 0 < x → vl_ok P A → vl_U bc bs nc S sc K d Post tgt lv st μ ρ) (kf : ¬ (0 < x) → vl_ok P B → vl_U bc bs nc S sc K d Post (pc + 3) lv st μ ρ) : vl_U bc bs nc S sc K d Post pc lv (vl_iv x :: st) μ ρ :=
  fun p l e R s m args below meth c H locs cells slots Q D cA ad A_1 ls hC hcs hR hl hret => lv_if_gt hC.1 hC.2.1 hd ht
    (fun q => kt ((vl_lt32 vl_r0 hx).mp q) (by rw [if_pos ((vl_lt32 vl_r0 hx).mp q)] at hE; exact hE) p l e R s m args below meth c H locs cells slots Q D cA ad A_1 ls hC hcs hR hl hret)
    (fun q => kf (fun z => q ((vl_lt32 vl_r0 hx).mpr z)) (by rw [if_neg (fun z => q ((vl_lt32 vl_r0 hx).mpr z))] at hE; exact hE) p l e R s m args below meth c H locs cells slots Q D cA ad A_1 ls hC hcs hR hl hret)
theorem vu_if_le {α : Type} {P : α → Prop} {A B : Option α} {x : Int} {off : Int} {tgt : Nat} (hd : decode K.2.1 pc = .ok (.ifCond .le off, 3)) (ht : (pc : Int) + off = (tgt : Int)) (hx : vl_r32 x) (hE : vl_ok P (if 0 < x then A else B)) (kt : ¬ (0 < x) → vl_ok P B → vl_U bc bs nc S sc K d Post tgt lv st μ ρ) (kf : 0 < x → vl_ok P A → vl_U bc bs nc S sc K d Post (pc + 3) lv st μ ρ) : vl_U bc bs nc S sc K d Post pc lv (vl_iv x :: st) μ ρ :=
  fun p l e R s m args below meth c H locs cells slots Q D cA ad A_1 ls hC hcs hR hl hret => lv_if_le hC.1 hC.2.1 hd ht
    (fun q => kt (Int.not_lt.mpr ((vl_le32 hx vl_r0).mp q)) (by rw [if_neg (Int.not_lt.mpr ((vl_le32 hx vl_r0).mp q))] at hE; exact hE) p l e R s m args below meth c H locs cells slots Q D cA ad A_1 ls hC hcs hR hl hret)
    (fun q => kf (Int.not_le.mp (fun z => q ((vl_le32 hx vl_r0).mpr z))) (by rw [if_pos (Int.not_le.mp (fun z => q ((vl_le32 hx vl_r0).mpr z)))] at hE; exact hE) p l e R s m args below meth c H locs cells slots Q D cA ad A_1 ls hC hcs hR hl hret)
/-- a field is read: int, long, a cell -/
theorem vu_get {T : u_T} {N ci h k0 c0 index : Nat} {cs : List Nat} {C : String} {v : Value} (hin : ∀ w ∈ u_ws C T N, w ∈ vl_tbl) (hh : h < nc) (hS : S h = .inr (ci, cs)) (hc : vwCl[ci]? = some (C, T, N)) (hk : k0 < N) (hlink : Cond.fieldLink K.1.cls index (T k0).1 (T k0).2.1 (T k0).2.2.1 ∈ vl_tbl) (hk0 : cs[k0]? = some c0)
    (hd : decode K.2.1 pc = .ok (.getfield index, 3)) (hv : ∀ ad, vl_fv ad (vl_g μ ρ h (k0 : Int)) c0 = vl_rz ad v) (k : vl_U bc bs nc S sc K d Post (pc + 3) lv (v :: st) μ ρ) : vl_U bc bs nc S sc K d Post pc lv (.ref h :: st) μ ρ :=
  fun p l e R s m args below meth c H locs cells slots Q D cA ad A ls hC hcs hR hl hret =>
    va_get (D := D) (v := vl_rz ad v) hC.1 hC.2.1 hC.2.2.2.2.1 hin hC.2.2.2.1 hR.2.2.1 hR.1 h (vl_ws_obj hh hS) hc k0 hk (hC.2.2.2.2.1 _ hlink) (fun _ h9 => h9) (by rw [List.getElem?_mapIdx, hk0]; exact congrArg some (hv ad)) hd
      (k p l e R s m args below meth c H locs cells slots Q D cA ad A ls hC hcs hR hl hret)
theorem vu_getIc {T : u_T} {N ci h k0 index : Nat} {cs : List Nat} {C : String} (hin : ∀ w ∈ u_ws C T N, w ∈ vl_tbl) (hh : h < nc) (h3 : h < 23) (hS : S h = .inr (ci, cs)) (hc : vwCl[ci]? = some (C, T, N)) (hk : k0 < N) (hlink : Cond.fieldLink K.1.cls index (T k0).1 (T k0).2.1 (T k0).2.2.1 ∈ vl_tbl) (hk0 : cs[k0]? = some 0) {ki : Int} (hki : ((k0 : Nat) : Int) = ki)
    (hd : decode K.2.1 pc = .ok (.getfield index, 3)) (k : vl_U bc bs nc S sc K d Post (pc + 3) lv (vl_iv (μ h ki) :: st) μ ρ) : vl_U bc bs nc S sc K d Post pc lv (.ref h :: st) μ ρ := by
  subst hki
  exact vu_get hin hh hS hc hk hlink hk0 hd (fun ad => by rw [vl_g_c h3]; rfl) k
theorem vu_getIr {T : u_T} {N ci h k0 index : Nat} {cs : List Nat} {C : String} (hin : ∀ w ∈ u_ws C T N, w ∈ vl_tbl) (hh : h < nc) (h3 : 23 ≤ h) (hS : S h = .inr (ci, cs)) (hc : vwCl[ci]? = some (C, T, N)) (hk : k0 < N) (hlink : Cond.fieldLink K.1.cls index (T k0).1 (T k0).2.1 (T k0).2.2.1 ∈ vl_tbl) (hk0 : cs[k0]? = some 0) {ki : Int} (hki : ((k0 : Nat) : Int) = ki)
    (hd : decode K.2.1 pc = .ok (.getfield index, 3)) (k : vl_U bc bs nc S sc K d Post (pc + 3) lv (vl_iv (ρ h ki) :: st) μ ρ) : vl_U bc bs nc S sc K d Post pc lv (.ref h :: st) μ ρ := by
  subst hki
  exact vu_get hin hh hS hc hk hlink hk0 hd (fun ad => by rw [vl_g_r h3]; rfl) k
theorem vu_getR {T : u_T} {N ci h k0 h2 index : Nat} {cs : List Nat} {C : String} (hin : ∀ w ∈ u_ws C T N, w ∈ vl_tbl) (hh : h < nc) (hS : S h = .inr (ci, cs)) (hc : vwCl[ci]? = some (C, T, N)) (hk : k0 < N) (hlink : Cond.fieldLink K.1.cls index (T k0).1 (T k0).2.1 (T k0).2.2.1 ∈ vl_tbl) (hk0 : cs[k0]? = some (h2 + 3))
    (hd : decode K.2.1 pc = .ok (.getfield index, 3)) (k : vl_U bc bs nc S sc K d Post (pc + 3) lv (.ref h2 :: st) μ ρ) : vl_U bc bs nc S sc K d Post pc lv (.ref h :: st) μ ρ :=
  vu_get hin hh hS hc hk hlink hk0 hd (fun ad => rfl) k
/-- a field is written -/
theorem vu_put {α : Type} {P : α → Prop} {T : u_T} {ty0 : Nat → FieldType} {N ci h k0 c0 index : Nat} {cs : List Nat} {C : String} {v : Value} {x : Int} {μ' ρ' : vl_M} {E : Option α} (hin : ∀ w ∈ u_ws C T N, w ∈ vl_tbl) (hty : ∀ k, k < N → parseFieldDescriptor (T k).2.2.1 = some (ty0 k)) (hnm : ∀ a, a < N → ∀ b, b < N → a ≠ b → (T a).2.1 ≠ (T b).2.1) (hh : h < nc) (hS : S h = .inr (ci, cs)) (hc : vwCl[ci]? = some (C, T, N)) (hk : k0 < N) (hlink : Cond.fieldLink K.1.cls index (T k0).1 (T k0).2.1 (T k0).2.2.1 ∈ vl_tbl) (hfin : (T k0).2.2.2 = false) (hk0 : cs[k0]? = some c0)
    (hn : narrow (ty0 k0) v = v) (hfit : fits (ty0 k0) v = true) (hv : ∀ ad, vl_fv ad x c0 = v ∧ vl_rz ad v = v) (hd : decode K.2.1 pc = .ok (.putfield index, 3)) (hg : ∀ (k : Nat) (j : Int), vl_g μ' ρ' k j = if k = h ∧ j = (k0 : Int) then x else vl_g μ ρ k j) (hE : vl_ok P E) (k : vl_ok P E → vl_U bc bs nc S sc K d Post (pc + 3) lv st μ' ρ') : vl_U bc bs nc S sc K d Post pc lv (v :: .ref h :: st) μ ρ :=
  fun p l e R s m args below meth c H locs cells slots Q D cA ad A ls hC hcs hR hl hret => by
    show W p l e R s m args below meth c H locs cells slots Q (F0 m pc ls (vl_rz ad v :: .ref (ad h) :: st.map (vl_rz ad)))
    rw [(hv ad).2]
    refine va_put (D := D) (v := v) (ty := ty0 k0) hC.1 hC.2.1 hC.2.2.2.2.1 hin ty0 hty hnm hC.2.2.2.1 hR.2.2.1 hR.1 hR.2.1 hR.2.2.2.1 h (vl_ws_obj hh hS) hc k0 hk (hC.2.2.2.2.1 _ hlink) (fun _ h9 => h9) hfin (hty k0 hk) hn hfit (by rw [List.length_mapIdx]; exact (List.getElem?_eq_some_iff.mp hk0).1) hd (fun H1 locs1 hP hD hS1 => ?_)
    rw [← (hv ad).1, vl_set_obj hh hS hk0 hg] at hP hD
    exact k hE p l e R s m args below meth c H1 locs1 cells slots Q D cA ad A ls hC hcs ⟨hP, hD, hR.2.2.1, hS1, hR.2.2.2.2⟩ hl hret
theorem vu_putIc {α : Type} {P : α → Prop} {T : u_T} {ty0 : Nat → FieldType} {N ci h k0 index : Nat} {cs : List Nat} {C : String} {x : Int} {E : vl_M → Option α} (hin : ∀ w ∈ u_ws C T N, w ∈ vl_tbl) (hty : ∀ k, k < N → parseFieldDescriptor (T k).2.2.1 = some (ty0 k)) (hnm : ∀ a, a < N → ∀ b, b < N → a ≠ b → (T a).2.1 ≠ (T b).2.1) (hh : h < nc) (h3 : h < 23) (hS : S h = .inr (ci, cs)) (hc : vwCl[ci]? = some (C, T, N)) (hk : k0 < N) (hlink : Cond.fieldLink K.1.cls index (T k0).1 (T k0).2.1 (T k0).2.2.1 ∈ vl_tbl) (hfin : (T k0).2.2.2 = false) (hk0 : cs[k0]? = some 0) {ki : Int} (hki : ((k0 : Nat) : Int) = ki)
    (hn : narrow (ty0 k0) (vl_iv x) = vl_iv x ∧ fits (ty0 k0) (vl_iv x) = true) (hd : decode K.2.1 pc = .ok (.putfield index, 3)) (hE : vl_ok P (vl_lt (vl_up μ h ki x) E)) (k : ∀ μ, vl_ok P (E μ) → vl_U bc bs nc S sc K d Post (pc + 3) lv st μ ρ) : vl_U bc bs nc S sc K d Post pc lv (vl_iv x :: .ref h :: st) μ ρ := by
  subst hki
  exact vu_put (x := x) (c0 := 0) hin hty hnm hh hS hc hk hlink hfin hk0 hn.1 hn.2 (fun ad => ⟨rfl, rfl⟩) hd (vl_g_upc h3 _ _) hE (k _)
theorem vu_putIr {α : Type} {P : α → Prop} {T : u_T} {ty0 : Nat → FieldType} {N ci h k0 index : Nat} {cs : List Nat} {C : String} {x : Int} {E : vl_M → Option α} (hin : ∀ w ∈ u_ws C T N, w ∈ vl_tbl) (hty : ∀ k, k < N → parseFieldDescriptor (T k).2.2.1 = some (ty0 k)) (hnm : ∀ a, a < N → ∀ b, b < N → a ≠ b → (T a).2.1 ≠ (T b).2.1) (hh : h < nc) (h3 : 23 ≤ h) (hS : S h = .inr (ci, cs)) (hc : vwCl[ci]? = some (C, T, N)) (hk : k0 < N) (hlink : Cond.fieldLink K.1.cls index (T k0).1 (T k0).2.1 (T k0).2.2.1 ∈ vl_tbl) (hfin : (T k0).2.2.2 = false) (hk0 : cs[k0]? = some 0) {ki : Int} (hki : ((k0 : Nat) : Int) = ki)
    (hn : narrow (ty0 k0) (vl_iv x) = vl_iv x ∧ fits (ty0 k0) (vl_iv x) = true) (hd : decode K.2.1 pc = .ok (.putfield index, 3)) (hE : vl_ok P (vl_lt (vl_up ρ h ki x) E)) (k : ∀ ρ, vl_ok P (E ρ) → vl_U bc bs nc S sc K d Post (pc + 3) lv st μ ρ) : vl_U bc bs nc S sc K d Post pc lv (vl_iv x :: .ref h :: st) μ ρ := by
  subst hki
  exact vu_put (x := x) (c0 := 0) hin hty hnm hh hS hc hk hlink hfin hk0 hn.1 hn.2 (fun ad => ⟨rfl, rfl⟩) hd (vl_g_upr h3 _ _) hE (k _)
/-- an array's place is read -/
theorem vu_ald {h n : Nat} {i : Int} (hh : h < nc) (hS : S h = .inl n) (hr : vl_r32 i) (hi : 0 ≤ i ∧ i < (n : Int)) (hd : decode K.2.1 pc = .ok (.iaload, 1)) (k : vl_U bc bs nc S sc K d Post (pc + 1) lv (vl_iv (vl_g μ ρ h i) :: st) μ ρ) : vl_U bc bs nc S sc K d Post pc lv (vl_iv i :: .ref h :: st) μ ρ :=
  fun p l e R s m args below meth c H locs cells slots Q D cA ad A ls hC hcs hR hl hret => by
    obtain ⟨h1, h2⟩ := vl_inn hr hi
    refine va_iald (D := D) hC.1 hC.2.1 hR.2.2.1 hR.1 h 0 (vl_ws_arr hh hS) rfl h1 hd ?_
    rw [h2]
    exact k p l e R s m args below meth c H locs cells slots Q D cA ad A ls hC hcs hR hl hret
theorem vu_aldc {α : Type} {P : α → Prop} {E : Option α} {h n : Nat} {i : Int} (hh : h < nc) (h3 : h < 23) (hS : S h = .inl n) (hn : n ≤ 2147483648) {ni : Int} (hni : ((n : Nat) : Int) = ni) (hd : decode K.2.1 pc = .ok (.iaload, 1)) (hE : vl_ok P (vl_gd (0 ≤ i ∧ i < ni) E)) (k : (0 ≤ i ∧ i < ni) → vl_r32 i → vl_ok P E → vl_U bc bs nc S sc K d Post (pc + 1) lv (vl_iv (μ h i) :: st) μ ρ) : vl_U bc bs nc S sc K d Post pc lv (vl_iv i :: .ref h :: st) μ ρ := by
  subst hni
  have q := vl_ok_gd hE
  exact vu_ald hh hS (vl_r32_in q.1 hn) q.1 hd (by rw [vl_g_c h3]; exact k q.1 (vl_r32_in q.1 hn) q.2)
theorem vu_aldr {α : Type} {P : α → Prop} {E : Option α} {h n : Nat} {i : Int} (hh : h < nc) (h3 : 23 ≤ h) (hS : S h = .inl n) (hn : n ≤ 2147483648) {ni : Int} (hni : ((n : Nat) : Int) = ni) (hd : decode K.2.1 pc = .ok (.iaload, 1)) (hE : vl_ok P (vl_gd (0 ≤ i ∧ i < ni) E)) (k : (0 ≤ i ∧ i < ni) → vl_r32 i → vl_ok P E → vl_U bc bs nc S sc K d Post (pc + 1) lv (vl_iv (ρ h i) :: st) μ ρ) : vl_U bc bs nc S sc K d Post pc lv (vl_iv i :: .ref h :: st) μ ρ := by
  subst hni
  have q := vl_ok_gd hE
  exact vu_ald hh hS (vl_r32_in q.1 hn) q.1 hd (by rw [vl_g_r h3]; exact k q.1 (vl_r32_in q.1 hn) q.2)
/-- an index that is known to be within already -/
theorem vu_aldc1 {h n : Nat} {i : Int} (hh : h < nc) (h3 : h < 23) (hS : S h = .inl n) (hn : n ≤ 2147483648) {ni : Int} (hni : ((n : Nat) : Int) = ni) (hi : 0 ≤ i ∧ i < ni) (hd : decode K.2.1 pc = .ok (.iaload, 1)) (k : vl_U bc bs nc S sc K d Post (pc + 1) lv (vl_iv (μ h i) :: st) μ ρ) : vl_U bc bs nc S sc K d Post pc lv (vl_iv i :: .ref h :: st) μ ρ := by
  subst hni
  exact vu_ald hh hS (vl_r32_in hi hn) hi hd (by rw [vl_g_c h3]; exact k)
theorem vu_aldr1 {h n : Nat} {i : Int} (hh : h < nc) (h3 : 23 ≤ h) (hS : S h = .inl n) (hn : n ≤ 2147483648) {ni : Int} (hni : ((n : Nat) : Int) = ni) (hi : 0 ≤ i ∧ i < ni) (hd : decode K.2.1 pc = .ok (.iaload, 1)) (k : vl_U bc bs nc S sc K d Post (pc + 1) lv (vl_iv (ρ h i) :: st) μ ρ) : vl_U bc bs nc S sc K d Post pc lv (vl_iv i :: .ref h :: st) μ ρ := by
  subst hni
  exact vu_ald hh hS (vl_r32_in hi hn) hi hd (by rw [vl_g_r h3]; exact k)
theorem vu_ast {h n : Nat} {i v : Int} {μ' ρ' : vl_M} (hh : h < nc) (hS : S h = .inl n) (hr : vl_r32 i) (hi : 0 ≤ i ∧ i < (n : Int)) (hd : decode K.2.1 pc = .ok (.iastore, 1)) (hg : ∀ (k : Nat) (j : Int), vl_g μ' ρ' k j = if k = h ∧ j = i then v else vl_g μ ρ k j) (k : vl_U bc bs nc S sc K d Post (pc + 1) lv st μ' ρ') : vl_U bc bs nc S sc K d Post pc lv (vl_iv v :: vl_iv i :: .ref h :: st) μ ρ :=
  fun p l e R s m args below meth c H locs cells slots Q D cA ad A ls hC hcs hR hl hret => by
    obtain ⟨h1, h2⟩ := vl_inn hr hi
    refine va_iast (D := D) hC.1 hC.2.1 hR.2.2.1 hR.1 hR.2.1 hR.2.2.2.1 h 0 (vl_ws_arr hh hS) rfl h1 hd (fun H1 locs1 hP hD hS1 => ?_)
    rw [vl_set_arr hh hS h2 hg] at hP hD
    exact k p l e R s m args below meth c H1 locs1 cells slots Q D cA ad A ls hC hcs ⟨hP, hD, hR.2.2.1, hS1, hR.2.2.2.2⟩ hl hret
theorem vu_astc {α : Type} {P : α → Prop} {E : vl_M → Option α} {h n : Nat} {i v : Int} (hh : h < nc) (h3 : h < 23) (hS : S h = .inl n) (hn : n ≤ 2147483648) {ni : Int} (hni : ((n : Nat) : Int) = ni) (hd : decode K.2.1 pc = .ok (.iastore, 1)) (hE : vl_ok P (vl_gd (0 ≤ i ∧ i < ni) (vl_lt (vl_up μ h i v) E))) (k : (0 ≤ i ∧ i < ni) → vl_r32 i → ∀ μ, vl_ok P (E μ) → vl_U bc bs nc S sc K d Post (pc + 1) lv st μ ρ) : vl_U bc bs nc S sc K d Post pc lv (vl_iv v :: vl_iv i :: .ref h :: st) μ ρ := by
  subst hni
  have q := vl_ok_gd hE
  exact vu_ast hh hS (vl_r32_in q.1 hn) q.1 hd (vl_g_upc h3 _ _) (k q.1 (vl_r32_in q.1 hn) _ q.2)
theorem vu_astr {α : Type} {P : α → Prop} {E : vl_M → Option α} {h n : Nat} {i v : Int} (hh : h < nc) (h3 : 23 ≤ h) (hS : S h = .inl n) (hn : n ≤ 2147483648) {ni : Int} (hni : ((n : Nat) : Int) = ni) (hd : decode K.2.1 pc = .ok (.iastore, 1)) (hE : vl_ok P (vl_gd (0 ≤ i ∧ i < ni) (vl_lt (vl_up ρ h i v) E))) (k : (0 ≤ i ∧ i < ni) → vl_r32 i → ∀ ρ, vl_ok P (E ρ) → vl_U bc bs nc S sc K d Post (pc + 1) lv st μ ρ) : vl_U bc bs nc S sc K d Post pc lv (vl_iv v :: vl_iv i :: .ref h :: st) μ ρ := by
  subst hni
  have q := vl_ok_gd hE
  exact vu_ast hh hS (vl_r32_in q.1 hn) q.1 hd (vl_g_upr h3 _ _) (k q.1 (vl_r32_in q.1 hn) _ q.2)
theorem vu_astc1 {α : Type} {P : α → Prop} {E : vl_M → Option α} {h n : Nat} {i v : Int} (hh : h < nc) (h3 : h < 23) (hS : S h = .inl n) (hn : n ≤ 2147483648) {ni : Int} (hni : ((n : Nat) : Int) = ni) (hi : 0 ≤ i ∧ i < ni) (hd : decode K.2.1 pc = .ok (.iastore, 1)) (hE : vl_ok P (vl_lt (vl_up μ h i v) E)) (k : ∀ μ, vl_ok P (E μ) → vl_U bc bs nc S sc K d Post (pc + 1) lv st μ ρ) : vl_U bc bs nc S sc K d Post pc lv (vl_iv v :: vl_iv i :: .ref h :: st) μ ρ := by
  subst hni
  exact vu_ast hh hS (vl_r32_in hi hn) hi hd (vl_g_upc h3 _ _) (k _ hE)
theorem vu_astr1 {α : Type} {P : α → Prop} {E : vl_M → Option α} {h n : Nat} {i v : Int} (hh : h < nc) (h3 : 23 ≤ h) (hS : S h = .inl n) (hn : n ≤ 2147483648) {ni : Int} (hni : ((n : Nat) : Int) = ni) (hi : 0 ≤ i ∧ i < ni) (hd : decode K.2.1 pc = .ok (.iastore, 1)) (hE : vl_ok P (vl_lt (vl_up ρ h i v) E)) (k : ∀ ρ, vl_ok P (E ρ) → vl_U bc bs nc S sc K d Post (pc + 1) lv st μ ρ) : vl_U bc bs nc S sc K d Post pc lv (vl_iv v :: vl_iv i :: .ref h :: st) μ ρ := by
  subst hni
  exact vu_ast hh hS (vl_r32_in hi hn) hi hd (vl_g_upr h3 _ _) (k _ hE)
theorem vu_alen {h n : Nat} (hh : h < nc) (hS : S h = .inl n) {ni : Int} (hni : ((n : Nat) : Int) = ni) (hd : decode K.2.1 pc = .ok (.arraylength, 1)) (k : vl_U bc bs nc S sc K d Post (pc + 1) lv (vl_iv ni :: st) μ ρ) : vl_U bc bs nc S sc K d Post pc lv (.ref h :: st) μ ρ := by
  subst hni
  exact fun p l e R s m args below meth c H locs cells slots Q D cA ad A ls hC hcs hR hl hret =>
    va_alen (D := D) hC.1 hC.2.1 hR.2.2.1 hR.1 h 0 (vl_ws_arr hh hS) rfl (Int32.ofInt_eq_ofNat).symm hd (k p l e R s m args below meth c H locs cells slots Q D cA ad A ls hC hcs hR hl hret)
theorem vu_mmax {idx : Nat} {x y : Int} (hk : vl_LkM K.1.cls idx Lib.Math.max.name Lib.Math.max.code 2) (hd1 : 1 ≤ d) (hx : vl_r32 x) (hy : vl_r32 y) (hrm : (st.map fun v => v.category).sum ≤ 8) (hd : decode K.2.1 pc = .ok (.invokestatic idx, 3)) (k : vl_U bc bs nc S sc K d Post (pc + 3) lv (vl_iv (max x y) :: st) μ ρ) : vl_U bc bs nc S sc K d Post pc lv (vl_iv y :: vl_iv x :: st) μ ρ :=
  fun p l e R s m args below meth c H locs cells slots Q D cA ad A ls hC hcs hR hl hret => by
    have hrm' := vl_room (ad := ad) hrm
    refine va_mmax hC.1 hC.2.1 (by rw [hl.1]; exact hC.2.2.1) hC.2.2.2.1 (hC.2.2.2.2.1 _ hk.1) (hC.2.2.2.2.1 _ hk.2.1) (hC.2.2.2.2.1 _ hk.2.2.1) (hC.2.2.2.2.1 _ hk.2.2.2) (by have := hC.2.2.2.2.2.2.1; omega) (by have := hC.2.2.2.2.2.2.2.1; omega) (by have := hcs.1; omega) (by have := hcs.2.1; omega) hd ?_
    rw [vl_max32 hx hy]
    exact k p l e R s m args below meth c H locs cells slots Q D cA ad A ls hC hcs hR hl hret
theorem vu_mmin {idx : Nat} {x y : Int} (hk : vl_LkM K.1.cls idx Lib.Math.min.name Lib.Math.min.code 2) (hd1 : 1 ≤ d) (hx : vl_r32 x) (hy : vl_r32 y) (hrm : (st.map fun v => v.category).sum ≤ 8) (hd : decode K.2.1 pc = .ok (.invokestatic idx, 3)) (k : vl_U bc bs nc S sc K d Post (pc + 3) lv (vl_iv (min x y) :: st) μ ρ) : vl_U bc bs nc S sc K d Post pc lv (vl_iv y :: vl_iv x :: st) μ ρ :=
  fun p l e R s m args below meth c H locs cells slots Q D cA ad A ls hC hcs hR hl hret => by
    have hrm' := vl_room (ad := ad) hrm
    refine va_mmin hC.1 hC.2.1 (by rw [hl.1]; exact hC.2.2.1) hC.2.2.2.1 (hC.2.2.2.2.1 _ hk.1) (hC.2.2.2.2.1 _ hk.2.1) (hC.2.2.2.2.1 _ hk.2.2.1) (hC.2.2.2.2.1 _ hk.2.2.2) (by have := hC.2.2.2.2.2.2.1; omega) (by have := hC.2.2.2.2.2.2.2.1; omega) (by have := hcs.1; omega) (by have := hcs.2.1; omega) hd ?_
    rw [vl_min32 hx hy]
    exact k p l e R s m args below meth c H locs cells slots Q D cA ad A ls hC hcs hR hl hret
theorem vu_mabs {idx : Nat} {x : Int} (hk : vl_LkM K.1.cls idx Lib.Math.abs.name Lib.Math.abs.code 1) (hd1 : 1 ≤ d) (hx : vl_r32 x) (hrm : (st.map fun v => v.category).sum ≤ 8) (hd : decode K.2.1 pc = .ok (.invokestatic idx, 3)) (k : vl_U bc bs nc S sc K d Post (pc + 3) lv (vl_iv ((Int.natAbs x : Nat) : Int) :: st) μ ρ) : vl_U bc bs nc S sc K d Post pc lv (vl_iv x :: st) μ ρ :=
  fun p l e R s m args below meth c H locs cells slots Q D cA ad A ls hC hcs hR hl hret => by
    have hrm' := vl_room (ad := ad) hrm
    refine va_mabs hC.1 hC.2.1 (by rw [hl.1]; exact hC.2.2.1) hC.2.2.2.1 (hC.2.2.2.2.1 _ hk.1) (hC.2.2.2.2.1 _ hk.2.1) (hC.2.2.2.2.1 _ hk.2.2.1) (hC.2.2.2.2.1 _ hk.2.2.2) (by have := hC.2.2.2.2.2.2.1; omega) (by have := hC.2.2.2.2.2.2.2.1; omega) (by have := hcs.1; omega) (by have := hcs.2.1; omega) hd ?_
    rw [vl_abs32 hx]
    exact k p l e R s m args below meth c H locs cells slots Q D cA ad A ls hC hcs hR hl hret
theorem vu_iand15 {x : Int} (hd : decode K.2.1 pc = .ok (.iand, 1)) (k : vl_U bc bs nc S sc K d Post (pc + 1) lv (vl_iv (x % 16) :: st) μ ρ) : vl_U bc bs nc S sc K d Post pc lv (vl_iv 15 :: vl_iv x :: st) μ ρ :=
  vu_go (fun p l e R s m args below meth c H locs cells slots Q ad ls hC hl w => lv_iand hC.1 hC.2.1 hd (by rw [vl_and15]; exact w)) k
/-- a method that makes nothing from here on -/
theorem vu_ofV (h : vl_V nc S sc K d (fun r μ' ρ' => Post r nc S μ' ρ') pc lv st μ ρ) : vl_U bc bs nc S sc K d Post pc lv st μ ρ :=
  fun p l e R s m args below meth c H locs cells slots Q D cA ad A ls hC hcs hR hl hret => h p l e R s m args below meth c H locs cells slots Q D cA ad A ls hC ⟨by have := hcs.1; omega, by have := hcs.2.1; omega⟩ hR hl
    (fun r μ' ρ' H' locs' pc' ls' hP hR' hRt => hret r nc S μ' ρ' H' locs' pc' ls' ad cells slots (fun _ _ => rfl) ⟨Nat.le_add_right _ _, Nat.le_add_right _ _⟩ hP hR' hRt)
theorem vu_ret {r : Int} {st' : List Value} (hst : st' = (vl_rv K.2.2.2 r).toList) (hd : vl_Rt K pc r) (hP : Post r nc S μ ρ) : vl_U bc bs nc S sc K d Post pc lv st' μ ρ :=
  fun p l e R s m args below meth c H locs cells slots Q D cA ad A ls hC hcs hR hl hret => by
    have e : st'.map (vl_rz ad) = (vl_rv K.2.2.2 r).toList := by
      rw [hst]
      unfold vl_rv
      split <;> rfl
    rw [e]
    exact hret r nc S μ ρ H locs pc ls ad cells slots (fun _ _ => rfl) ⟨Nat.le_add_right _ _, Nat.le_add_right _ _⟩ hP hR hd
/-- a value that is kept when cells are made: no cell, an old one, or one that is read only -/
def vl_okv (nc : Nat) : Value → Bool
  | .ref h => decide (h < nc) || decide (100 ≤ h)
  | _ => true
def vl_okS (nc : Nat) (S : vl_Sh) : Bool := (List.range nc).all (fun h => match S h with | .inl _ => true | .inr q => q.2.all (fun c => decide (c < nc + 3)))
def vl_us (S : vl_Sh) (h : Nat) (x : Nat ⊕ (Nat × List Nat)) : vl_Sh := fun k => if k = h then x else S k
def vl_z (μ : vl_M) (h : Nat) : vl_M := fun k j => if k = h then 0 else μ k j
theorem vl_rz_ext {ad ad' : Nat → Nat} (hx : ∀ h, h < nc ∨ 100 ≤ h → ad' h = ad h) {v : Value} (hv : vl_okv nc v = true) : vl_rz ad' v = vl_rz ad v := by
  cases v with
  | ref h =>
    simp only [vl_okv, Bool.or_eq_true, decide_eq_true_eq] at hv
    show Value.ref (ad' h) = Value.ref (ad h)
    rw [hx h hv]
  | _ => rfl
theorem vl_st_ext {ad ad' : Nat → Nat} (hx : ∀ h, h < nc ∨ 100 ≤ h → ad' h = ad h) (hv : st.all (vl_okv nc) = true) : st.map (vl_rz ad') = st.map (vl_rz ad) :=
  List.map_congr_left (fun v h => vl_rz_ext hx (List.all_eq_true.mp hv v h))
theorem vl_lv_ext {ad ad' : Nat → Nat} (hx : ∀ h, h < nc ∨ 100 ≤ h → ad' h = ad h) (hv : lv.all (fun q => vl_okv nc q.2) = true) : lv.map (fun q => (q.1, vl_rz ad' q.2)) = lv.map (fun q => (q.1, vl_rz ad q.2)) :=
  List.map_congr_left (fun q h => by rw [vl_rz_ext hx (List.all_eq_true.mp hv q h)])
theorem vl_Ro_ext {ad ad' : Nat → Nat} {A : Nat → Prop} {s : State} (hx : ∀ h, h < nc ∨ 100 ≤ h → ad' h = ad h) (h : vl_Ro sc ad A s) : vl_Ro sc ad' A s := by
  unfold vl_Ro at h ⊢
  rw [hx 100 (Or.inr (by decide)), hx 101 (Or.inr (by decide))]
  exact h
/-- the world with one cell more -/
theorem vl_ws_push {cA : ClassId} {ad : Nat → Nat} {S' : vl_Sh} {μ' ρ' : vl_M} {q : Nat} {e : va_E} (hok : vl_okS nc S = true) (hS : ∀ h, h < nc → S' h = S h) (hg : ∀ (k : Nat) (j : Int), k < nc → vl_g μ' ρ' k j = vl_g μ ρ k j) (he : vl_cell S' cA (fun h => if h = nc then q else ad h) μ' ρ' nc = e) :
    vl_ws nc S cA ad μ ρ ++ [(q, e)] = vl_ws (nc + 1) S' cA (fun h => if h = nc then q else ad h) μ' ρ' := by
  unfold vl_ws
  rw [List.range_succ, List.map_append]
  congr 1
  · refine List.map_congr_left (fun h hh => ?_)
    have hlt : h < nc := List.mem_range.mp hh
    have hne : ¬ h = nc := by omega
    simp only [if_neg hne]
    congr 1
    unfold vl_cell
    rw [hS h hlt]
    have hc := List.all_eq_true.mp hok h hh
    cases hSh : S h with
    | inl n => simp only [hg h _ hlt]
    | inr x =>
      rw [hSh] at hc
      simp only [hg h _ hlt]
      congr 2
      apply List.ext_getElem?
      intro k
      rw [List.getElem?_mapIdx, List.getElem?_mapIdx]
      cases hk : x.2[k]? with
      | none => rfl
      | some c =>
        have hcl := List.all_eq_true.mp hc c (List.mem_of_getElem? hk)
        simp only [decide_eq_true_eq] at hcl
        simp only [Option.map_some]
        congr 1
        match c, hcl with
        | 0, _ => rfl
        | 1, _ => rfl
        | 2, _ => rfl
        | y + 3, hcl =>
          have : ¬ y = nc := by omega
          simp [vl_fv, this]
  · simp [he]
/-- an object is made -/
theorem vu_new {C : String} {T : u_T} {ty : Nat → FieldType} {N ci index : Nat} {cs : List Nat} {μ' ρ' : vl_M} (S' : vl_Sh) (hin : ∀ w ∈ u_ws C T N, w ∈ vl_tbl) (hty : ∀ k, k < N → parseFieldDescriptor (T k).2.2.1 = some (ty k)) (hcl : Cond.classLink K.1.cls index C ∈ vl_tbl) (hinst : Cond.instantiable C N ∈ vl_tbl) (hini : Cond.initialized C ∈ vl_tbl) (hc : vwCl[ci]? = some (C, T, N)) (hcsN : cs.length = N) (hcs : ∀ j, j < N → ∃ c, cs[j]? = some c ∧ ∀ ad : Nat → Nat, defaultValue (ty j) = vl_fv ad 0 c)
    (hn : nc < 100) (hok : vl_okS nc S = true) (hlv : lv.all (fun q => vl_okv nc q.2) = true) (hst : st.all (vl_okv nc) = true) (hS' : S' nc = .inr (ci, cs)) (hSk : ∀ h, h < nc → S' h = S h) (hg : ∀ (k : Nat) (j : Int), vl_g μ' ρ' k j = if k = nc then 0 else vl_g μ ρ k j) (hd : decode K.2.1 pc = .ok (.new index, 3))
    (k : vl_U bc bs (nc + 1) S' sc K d Post (pc + 3) lv (.ref nc :: st) μ' ρ') : vl_U (bc + 1) (bs + N) nc S sc K d Post pc lv st μ ρ := by
  intro p l e R s m args below meth c H locs cells slots Q D cA ad A ls hC hcs0 hR hl hret
  refine va_new (D := D) (fs := cs.mapIdx (fun k c => vl_fv ad 0 c)) hC.1 hC.2.1 hC.2.2.2.2.1 hin ty hty hC.2.2.2.1 (hC.2.2.2.2.1 _ hcl) (hC.2.2.2.2.1 _ hinst) (hC.2.2.2.2.1 _ hini) hR.2.2.1 hR.1 hR.2.1 hR.2.2.2.1 hcs0.2.2.1 hc (fun j hj => ?_) (by have := hcs0.1; omega) (by have := hcs0.2.1; omega) hd (fun q H1 hP hD hS1 => ?_)
  · obtain ⟨c0, h1, h2⟩ := hcs j hj
    rw [h2 ad]
    unfold vp_V
    rw [List.getD_eq_getElem?_getD, List.getElem?_mapIdx, h1]
    rfl
  · have hx : ∀ h, h < nc ∨ 100 ≤ h → (fun h => if h = nc then q else ad h) h = ad h := fun h hh => if_neg (by omega)
    have he : vl_cell S' cA (fun h => if h = nc then q else ad h) μ' ρ' nc = .inr (ci, cs.mapIdx (fun k c => vl_fv ad 0 c)) := by
      unfold vl_cell
      rw [hS']
      simp only [hg, if_true]
      congr 2
      apply List.ext_getElem?
      intro j
      rw [List.getElem?_mapIdx, List.getElem?_mapIdx]
      cases hj : cs[j]? with
      | none => rfl
      | some c0 =>
        simp only [Option.map_some]
        congr 1
        by_cases hjN : j < N
        · obtain ⟨c1, h1, h2⟩ := hcs j hjN
          rw [hj] at h1
          cases h1
          rw [← h2, ← h2]
        · exact absurd (List.getElem?_eq_some_iff.mp hj).1 (by omega)
    have hw := vl_ws_push (μ := μ) (ρ := ρ) (cA := cA) (ad := ad) (q := q) hok hSk (fun k j hk => by rw [hg, if_neg (by omega)]) he
    rw [hw] at hP hD
    have := k p l e R s m args below meth c H1 locs (cells + 1) (slots + N) Q D cA _ A ls hC ⟨by have := hcs0.1; omega, by have := hcs0.2.1; omega, hcs0.2.2⟩ ⟨hP, hD, hR.2.2.1, hS1, vl_Ro_ext hx hR.2.2.2.2⟩ (by rw [vl_lv_ext hx hlv]; exact hl)
      (fun r nc' S'' μ'' ρ'' H' locs' pc' ls' ad' cells' slots' hx' hle hPo hR' hRt => hret r nc' S'' μ'' ρ'' H' locs' pc' ls' ad' cells' slots' (fun h hh => (hx' h (by omega)).trans (hx h hh)) (by omega) hPo hR' hRt)
    rw [List.map_cons, vl_st_ext hx hst] at this
    simp only [vl_rz, if_true] at this
    exact this
/-- an int array is made -/
theorem vu_newa {n : Nat} {x : Int} {μ' ρ' : vl_M} (S' : vl_Sh) (harr : Cond.arrayClass .int ∈ vl_tbl) (hx0 : x = (n : Int)) (hn0 : n ≤ 100000) (hn : nc < 100) (hok : vl_okS nc S = true) (hlv : lv.all (fun q => vl_okv nc q.2) = true) (hst : st.all (vl_okv nc) = true) (hS' : S' nc = .inl n) (hSk : ∀ h, h < nc → S' h = S h) (hg : ∀ (k : Nat) (j : Int), vl_g μ' ρ' k j = if k = nc then 0 else vl_g μ ρ k j) (hd : decode K.2.1 pc = .ok (.newarray .int, 2))
    (k : vl_U bc bs (nc + 1) S' sc K d Post (pc + 2) lv (.ref nc :: st) μ' ρ') : vl_U (bc + 1) (bs + n) nc S sc K d Post pc lv (vl_iv x :: st) μ ρ := by
  intro p l e R s m args below meth c H locs cells slots Q D cA ad A ls hC hcs0 hR hl hret
  subst hx0
  have hr : vl_r32 (n : Int) := ⟨by omega, by omega⟩
  refine va_newa (D := D) (atype := .int) (a0 := (n, .inl (fun _ => 0))) (N' := n) (ty := .int) hC.1 hC.2.1 (hC.2.2.2.2.1 _ harr) rfl hR.2.2.1 hR.1 hR.2.1 hR.2.2.2.1 hcs0.2.2.1 (fun _ => rfl) (by rw [vl_z32, vl_lt32 hr vl_r0]; omega) (by rw [← Int32.toNat_toInt, vl_r32_toInt hr]; omega) (by show n * 4 ≤ 536870912; omega) (by have := hcs0.1; omega) (by have := hcs0.2.1; omega) hd (fun q cA' H1 hK' hP hD hS1 => ?_)
  have hcA : cA' = cA := by
    have h1 := (hK'.2 1 (cA', .int) rfl).2
    have h2 := (hK'.2 0 (cA, .int) rfl).2
    exact Option.some.inj (h1.symm.trans h2)
  subst hcA
  have hx : ∀ h, h < nc ∨ 100 ≤ h → (fun h => if h = nc then q else ad h) h = ad h := fun h hh => if_neg (by omega)
  have he : vl_cell S' cA' (fun h => if h = nc then q else ad h) μ' ρ' nc = .inl (cA', n, .inl (fun _ => 0)) := by
    unfold vl_cell
    rw [hS']
    simp only [hg, if_true]
    rfl
  have hw := vl_ws_push (μ := μ) (ρ := ρ) (cA := cA') (ad := ad) (q := q) hok hSk (fun k j hk => by rw [hg, if_neg (by omega)]) he
  rw [hw] at hP hD
  have := k p l e R s m args below meth c H1 locs (cells + 1) (slots + n) Q D cA' _ A ls hC ⟨by have := hcs0.1; omega, by have := hcs0.2.1; omega, hcs0.2.2⟩ ⟨hP, hD, hR.2.2.1, hS1, vl_Ro_ext hx hR.2.2.2.2⟩ (by rw [vl_lv_ext hx hlv]; exact hl)
    (fun r nc' S'' μ'' ρ'' H' locs' pc' ls' ad' cells' slots' hx' hle hPo hR' hRt => hret r nc' S'' μ'' ρ'' H' locs' pc' ls' ad' cells' slots' (fun h hh => (hx' h (by omega)).trans (hx h hh)) (by omega) hPo hR' hRt)
  rw [List.map_cons, vl_st_ext hx hst] at this
  simp only [vl_rz, if_true] at this
  exact this
/-- Object's own constructor -/
theorem vu_obj {h idx : Nat} (hl1 : Cond.methodLink K.1.cls idx Lib.objectInit ∈ vl_tbl) (hl2 : Cond.instanceMethod Lib.objectInit ∈ vl_tbl) (hl3 : Cond.code Lib.objectInit ⟨#[0xb1]⟩ 1 none ∈ vl_tbl) (hd1 : 1 ≤ d) (hrm : (st.map fun v => v.category).sum ≤ 8) (hd : decode K.2.1 pc = .ok (.invokespecial idx, 3)) (k : vl_U bc bs nc S sc K d Post (pc + 3) lv st μ ρ) : vl_U bc bs nc S sc K d Post pc lv (.ref h :: st) μ ρ :=
  fun p l e R s m args below meth c H locs cells slots Q D cA ad A ls hC hcs hR hl hret =>
    W.objInit hC.1 hC.2.1 hC.2.2.2.1 (hC.2.2.2.2.1 _ hl1) (hC.2.2.2.2.1 _ hl2) (hC.2.2.2.2.1 _ hl3) (g := F0 m pc ls ((.ref h :: st).map (vl_rz ad))) rfl (by rw [hC.2.2.1]; exact hl.1) rfl hd (by have := hC.2.2.2.2.2.2.1; omega) (by have := hC.2.2.2.2.2.2.2.1; have := vl_room (ad := ad) hrm; show 2 * 0 + ((st.map (vl_rz ad)).map fun v => v.category).sum + 12 ≤ R.locals; omega)
      (k p l e R s m args below meth c H locs cells slots Q D cA ad A ls hC hcs hR hl hret)
/-- a final field is written: the cell's shape changes, or its number -/
theorem vu_putF {T : u_T} {ty0 : Nat → FieldType} {N ci h k0 c0 index : Nat} {cs : List Nat} {C : String} {v : Value} {S' : vl_Sh} {μ' ρ' : vl_M} (hin : ∀ w ∈ u_ws C T N, w ∈ vl_tbl) (hty : ∀ k, k < N → parseFieldDescriptor (T k).2.2.1 = some (ty0 k)) (hnm : ∀ a, a < N → ∀ b, b < N → a ≠ b → (T a).2.1 ≠ (T b).2.1) (hh : h < nc) (hS : S h = .inr (ci, cs)) (hc : vwCl[ci]? = some (C, T, N)) (hk : k0 < N) (hlink : Cond.fieldLink K.1.cls index (T k0).1 (T k0).2.1 (T k0).2.2.1 ∈ vl_tbl) (hfin : (T k0).2.2.2 = true) (hK0 : K.1.name = "<init>" ∧ (T k0).1 = K.1.cls) (hk0 : cs[k0]? = some c0)
    (hn : ∀ ad, narrow (ty0 k0) (vl_rz ad v) = vl_rz ad v ∧ fits (ty0 k0) (vl_rz ad v) = true) (hd : decode K.2.1 pc = .ok (.putfield index, 3)) (hw : ∀ cA ad, (vl_ws nc S cA ad μ ρ).set h (ad h, .inr (ci, (cs.mapIdx (fun k c => vl_fv ad (vl_g μ ρ h (k : Int)) c)).set k0 (vl_rz ad v))) = vl_ws nc S' cA ad μ' ρ') (k : vl_U bc bs nc S' sc K d Post (pc + 3) lv st μ' ρ') : vl_U bc bs nc S sc K d Post pc lv (v :: .ref h :: st) μ ρ :=
  fun p l e R s m args below meth c H locs cells slots Q D cA ad A ls hC hcs hR hl hret => by
    refine va_putF (D := D) (v := vl_rz ad v) (ty := ty0 k0) hC.1 hC.2.1 hC.2.2.2.2.1 hin ty0 hty hnm hC.2.2.2.1 hR.2.2.1 hR.1 hR.2.1 hR.2.2.2.1 h (vl_ws_obj hh hS) hc k0 hk (hC.2.2.2.2.1 _ hlink) (fun _ h9 => h9) hfin (hcs.2.2.2 hK0.1) hK0.2 (hty k0 hk) (hn ad).1 (hn ad).2 (by rw [List.length_mapIdx]; exact (List.getElem?_eq_some_iff.mp hk0).1) hd (fun H1 locs1 hP hD hS1 => ?_)
    rw [hw] at hP hD
    exact k p l e R s m args below meth c H1 locs1 cells slots Q D cA ad A ls hC hcs ⟨hP, hD, hR.2.2.1, hS1, hR.2.2.2.2⟩ hl hret
theorem vu_putFI {T : u_T} {ty0 : Nat → FieldType} {N ci h k0 index : Nat} {cs : List Nat} {C : String} {x : Int} {μ' ρ' : vl_M} (hin : ∀ w ∈ u_ws C T N, w ∈ vl_tbl) (hty : ∀ k, k < N → parseFieldDescriptor (T k).2.2.1 = some (ty0 k)) (hnm : ∀ a, a < N → ∀ b, b < N → a ≠ b → (T a).2.1 ≠ (T b).2.1) (hh : h < nc) (hS : S h = .inr (ci, cs)) (hc : vwCl[ci]? = some (C, T, N)) (hk : k0 < N) (hlink : Cond.fieldLink K.1.cls index (T k0).1 (T k0).2.1 (T k0).2.2.1 ∈ vl_tbl) (hfin : (T k0).2.2.2 = true) (hK0 : K.1.name = "<init>" ∧ (T k0).1 = K.1.cls) (hk0 : cs[k0]? = some 0) (hi : ty0 k0 = .int)
    (hd : decode K.2.1 pc = .ok (.putfield index, 3)) (hg : ∀ (k : Nat) (j : Int), vl_g μ' ρ' k j = if k = h ∧ j = (k0 : Int) then x else vl_g μ ρ k j) (k : vl_U bc bs nc S sc K d Post (pc + 3) lv st μ' ρ') : vl_U bc bs nc S sc K d Post pc lv (vl_iv x :: .ref h :: st) μ ρ :=
  vu_putF hin hty hnm hh hS hc hk hlink hfin hK0 hk0 (fun ad => by rw [hi]; exact ⟨rfl, rfl⟩) hd (fun cA ad => vl_set_obj (c0 := 0) (v := x) hh hS hk0 hg) k
theorem vl_set_ref {cA : ClassId} {ad : Nat → Nat} {h ci k0 c0 h2 : Nat} {cs : List Nat} (hh : h < nc) (hS : S h = .inr (ci, cs)) (hk0 : cs[k0]? = some c0) :
    (vl_ws nc S cA ad μ ρ).set h (ad h, .inr (ci, (cs.mapIdx (fun k c => vl_fv ad (vl_g μ ρ h (k : Int)) c)).set k0 (.ref (ad h2)))) = vl_ws nc (vl_us S h (.inr (ci, cs.set k0 (h2 + 3)))) cA ad μ ρ := by
  apply List.ext_getElem?
  intro k
  by_cases hk : k = h
  · subst hk
    rw [List.getElem?_set_self (by simp [vl_ws, hh]), vl_ws_get hh]
    congr 2
    unfold vl_cell vl_us
    simp only [if_true]
    congr 2
    apply List.ext_getElem?
    intro j
    have hl : k0 < cs.length := (List.getElem?_eq_some_iff.mp hk0).1
    by_cases hj : j = k0
    · subst hj
      rw [List.getElem?_set_self (by rw [List.length_mapIdx]; exact hl), List.getElem?_mapIdx, List.getElem?_set_self hl]
      rfl
    · rw [List.getElem?_set_ne (Ne.symm hj), List.getElem?_mapIdx, List.getElem?_mapIdx, List.getElem?_set_ne (Ne.symm hj)]
  · rw [List.getElem?_set_ne (Ne.symm hk)]
    by_cases hkn : k < nc
    · rw [vl_ws_get hkn, vl_ws_get hkn]
      congr 2
      unfold vl_cell vl_us
      rw [if_neg hk]
    · rw [List.getElem?_eq_none (by simp [vl_ws]; omega), List.getElem?_eq_none (by simp [vl_ws]; omega)]
theorem vu_putFR {T : u_T} {ty0 : Nat → FieldType} {N ci h h2 k0 c0 index : Nat} {cs : List Nat} {C : String} (hin : ∀ w ∈ u_ws C T N, w ∈ vl_tbl) (hty : ∀ k, k < N → parseFieldDescriptor (T k).2.2.1 = some (ty0 k)) (hnm : ∀ a, a < N → ∀ b, b < N → a ≠ b → (T a).2.1 ≠ (T b).2.1) (hh : h < nc) (hS : S h = .inr (ci, cs)) (hc : vwCl[ci]? = some (C, T, N)) (hk : k0 < N) (hlink : Cond.fieldLink K.1.cls index (T k0).1 (T k0).2.1 (T k0).2.2.1 ∈ vl_tbl) (hfin : (T k0).2.2.2 = true) (hK0 : K.1.name = "<init>" ∧ (T k0).1 = K.1.cls) (hk0 : cs[k0]? = some c0) (hi : (∃ n, ty0 k0 = .object n) ∨ ∃ t, ty0 k0 = .array t)
    (hd : decode K.2.1 pc = .ok (.putfield index, 3)) (k : vl_U bc bs nc (vl_us S h (.inr (ci, cs.set k0 (h2 + 3)))) sc K d Post (pc + 3) lv st μ ρ) : vl_U bc bs nc S sc K d Post pc lv (.ref h2 :: .ref h :: st) μ ρ :=
  vu_putF (v := .ref h2) hin hty hnm hh hS hc hk hlink hfin hK0 hk0 (fun ad => by rcases hi with ⟨n, e⟩ | ⟨t, e⟩ <;> rw [e] <;> exact ⟨rfl, rfl⟩) hd (fun cA ad => vl_set_ref hh hS hk0) k
end VUR
