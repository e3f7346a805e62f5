section VLX
variable {nc : Nat} {S : vl_Sh} {sc : Nat × (Nat → Int32)} {K : vl_K} {d : Nat} {Post : Int → vl_M → vl_M → Prop} {pc : Nat} {lv : List (Nat × Value)} {st st0 : List Value} {μ ρ : vl_M}
def vl_LkM (own : String) (idx : Nat) (y : MethodName) (b : ByteArray) (n : Nat) : Prop := Cond.methodLink own idx y ∈ vl_tbl ∧ Cond.static y ∈ vl_tbl ∧ Cond.initialized "java/lang/Math" ∈ vl_tbl ∧ Cond.code y b n (some .int) ∈ vl_tbl
theorem vl_max32 {x y : Int} (hx : vl_r32 x) (hy : vl_r32 y) : (if Int32.ofInt x < Int32.ofInt y then Int32.ofInt y else Int32.ofInt x) = Int32.ofInt (max x y) := by
  simp only [vl_lt32 hx hy]
  split <;> congr 1 <;> omega
theorem vl_min32 {x y : Int} (hx : vl_r32 x) (hy : vl_r32 y) : (if Int32.ofInt y < Int32.ofInt x then Int32.ofInt y else Int32.ofInt x) = Int32.ofInt (min x y) := by
  simp only [vl_lt32 hy hx]
  split <;> congr 1 <;> omega
theorem vl_abs32 {x : Int} (hx : vl_r32 x) : (if 0 ≤ Int32.ofInt x then Int32.ofInt x else 0 - Int32.ofInt x) = Int32.ofInt ((Int.natAbs x : Nat) : Int) := by
  have e : (0 ≤ Int32.ofInt x) ↔ 0 ≤ x := by rw [vl_z32, vl_le32 vl_r0 hx]
  simp only [e]
  split
  · congr 1; omega
  · rw [vl_z32, ← Int32.ofInt_sub]; congr 1; omega
theorem vl_mmax {idx : Nat} {x y : Int} (hk : vl_LkM K.1.cls idx Lib.Math.max.name Lib.Math.max.code 2) (hd1 : 1 ≤ d) (hx : vl_r32 x) (hy : vl_r32 y) (hrm : (st.map fun v => v.category).sum ≤ 8) (hd : decode K.2.1 pc = .ok (.invokestatic idx, 3)) (k : vl_V nc S sc K d Post (pc + 3) lv (vl_iv (max x y) :: st) μ ρ) : vl_V nc S sc K d Post pc lv (vl_iv y :: vl_iv x :: st) μ ρ :=
  fun p l e R s m args below meth c H locs cells slots Q D cA ad A ls hC hcs hR hl hret => by
    have hrm' := vl_room (ad := ad) hrm
    refine va_mmax hC.1 hC.2.1 (by rw [hl.1]; exact hC.2.2.1) hC.2.2.2.1 (hC.2.2.2.2.1 _ hk.1) (hC.2.2.2.2.1 _ hk.2.1) (hC.2.2.2.2.1 _ hk.2.2.1) (hC.2.2.2.2.1 _ hk.2.2.2) (by have := hC.2.2.2.2.2.2.1; omega) (by have := hC.2.2.2.2.2.2.2.1; omega) hcs.1 hcs.2 hd ?_
    rw [vl_max32 hx hy]
    exact k p l e R s m args below meth c H locs cells slots Q D cA ad A ls hC hcs hR hl hret
theorem vl_mmin {idx : Nat} {x y : Int} (hk : vl_LkM K.1.cls idx Lib.Math.min.name Lib.Math.min.code 2) (hd1 : 1 ≤ d) (hx : vl_r32 x) (hy : vl_r32 y) (hrm : (st.map fun v => v.category).sum ≤ 8) (hd : decode K.2.1 pc = .ok (.invokestatic idx, 3)) (k : vl_V nc S sc K d Post (pc + 3) lv (vl_iv (min x y) :: st) μ ρ) : vl_V nc S sc K d Post pc lv (vl_iv y :: vl_iv x :: st) μ ρ :=
  fun p l e R s m args below meth c H locs cells slots Q D cA ad A ls hC hcs hR hl hret => by
    have hrm' := vl_room (ad := ad) hrm
    refine va_mmin hC.1 hC.2.1 (by rw [hl.1]; exact hC.2.2.1) hC.2.2.2.1 (hC.2.2.2.2.1 _ hk.1) (hC.2.2.2.2.1 _ hk.2.1) (hC.2.2.2.2.1 _ hk.2.2.1) (hC.2.2.2.2.1 _ hk.2.2.2) (by have := hC.2.2.2.2.2.2.1; omega) (by have := hC.2.2.2.2.2.2.2.1; omega) hcs.1 hcs.2 hd ?_
    rw [vl_min32 hx hy]
    exact k p l e R s m args below meth c H locs cells slots Q D cA ad A ls hC hcs hR hl hret
theorem vl_mabs {idx : Nat} {x : Int} (hk : vl_LkM K.1.cls idx Lib.Math.abs.name Lib.Math.abs.code 1) (hd1 : 1 ≤ d) (hx : vl_r32 x) (hrm : (st.map fun v => v.category).sum ≤ 8) (hd : decode K.2.1 pc = .ok (.invokestatic idx, 3)) (k : vl_V nc S sc K d Post (pc + 3) lv (vl_iv ((Int.natAbs x : Nat) : Int) :: st) μ ρ) : vl_V nc S sc K d Post pc lv (vl_iv x :: st) μ ρ :=
  fun p l e R s m args below meth c H locs cells slots Q D cA ad A ls hC hcs hR hl hret => by
    have hrm' := vl_room (ad := ad) hrm
    refine va_mabs hC.1 hC.2.1 (by rw [hl.1]; exact hC.2.2.1) hC.2.2.2.1 (hC.2.2.2.2.1 _ hk.1) (hC.2.2.2.2.1 _ hk.2.1) (hC.2.2.2.2.1 _ hk.2.2.1) (hC.2.2.2.2.1 _ hk.2.2.2) (by have := hC.2.2.2.2.2.2.1; omega) (by have := hC.2.2.2.2.2.2.2.1; omega) hcs.1 hcs.2 hd ?_
    rw [vl_abs32 hx]
    exact k p l e R s m args below meth c H locs cells slots Q D cA ad A ls hC hcs hR hl hret
theorem vl_and15 (x : Int) : Int32.ofInt x &&& Int32.ofInt 15 = Int32.ofInt (x % 16) := by
  apply Int32.toBitVec_inj.mp
  rw [Int32.toBitVec_and, Int32.toBitVec_ofInt, Int32.toBitVec_ofInt, Int32.toBitVec_ofInt]
  apply BitVec.eq_of_toNat_eq
  rw [BitVec.toNat_and, BitVec.toNat_ofInt, BitVec.toNat_ofInt, BitVec.toNat_ofInt]
  have e : ((15 : Int) % ((2 ^ 32 : Nat) : Int)).toNat = 2 ^ 4 - 1 := by decide
  rw [e, Nat.and_two_pow_sub_one_eq_mod]
  omega
theorem vl_iand15 {x : Int} (hd : decode K.2.1 pc = .ok (.iand, 1)) (k : vl_V nc S sc K d Post (pc + 1) lv (vl_iv (x % 16) :: st) μ ρ) : vl_V nc S sc K d Post pc lv (vl_iv 15 :: vl_iv x :: st) μ ρ :=
  vl_go (fun p l e R s m args below meth c H locs cells slots Q ad ls hC hl w => lv_iand hC.1 hC.2.1 hd (by rw [vl_and15]; exact w)) k
end VLX
