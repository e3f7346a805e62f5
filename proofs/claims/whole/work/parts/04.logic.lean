/-- the tables' words that stay good at every call -/
def vl_tbl : List Cond := lw_tbl.filter goodWord
theorem vl_in {w : Cond} (i : Nat) (h : lw_tbl[i]? = some w) (hg : goodWord w = true) : w ∈ vl_tbl := List.mem_filter.mpr ⟨List.mem_of_getElem? h, hg⟩
/-! ===== The logic of the methods: values and memory as whole numbers; V: from here the method comes to its end with Post ===== -/
/-- memory: cell, index, value -/
abbrev vl_M : Type := Nat → Int → Int
/-- the shape of a cell: an int array of that length, or an object of that class with a code for each field (0 int, 1 long, 2 null, k + 3 the cell k) -/
abbrev vl_Sh : Type := Nat → Nat ⊕ (Nat × List Nat)
/-- a method: its name, code, locals, answer -/
abbrev vl_K : Type := MethodName × ByteArray × Nat × Option FieldType
def vl_iv (x : Int) : Value := .int (Int32.ofInt x)
def vl_jv (x : Int) : Value := .long (Int64.ofInt x)
def vl_rz (ad : Nat → Nat) : Value → Value
  | .ref h => .ref (ad h)
  | v => v
def vl_g (μ ρ : vl_M) (h : Nat) (j : Int) : Int := if h < 23 then μ h j else ρ h j
def vl_fv (ad : Nat → Nat) (x : Int) (c : Nat) : Value := match c with
  | 0 => .int (Int32.ofInt x)
  | 1 => .long (Int64.ofInt x)
  | 2 => .null
  | k + 3 => .ref (ad k)
def vl_cell (S : vl_Sh) (cA : ClassId) (ad : Nat → Nat) (μ ρ : vl_M) (h : Nat) : va_E := match S h with
  | .inl n => .inl (cA, n, .inl (fun j => Int32.ofInt (vl_g μ ρ h (j : Int))))
  | .inr q => .inr (q.1, q.2.mapIdx (fun k c => vl_fv ad (vl_g μ ρ h (k : Int)) c))
def vl_ws (nc : Nat) (S : vl_Sh) (cA : ClassId) (ad : Nat → Nat) (μ ρ : vl_M) : va_W := (List.range nc).map (fun h => (ad h, vl_cell S cA ad μ ρ h))
/-- one value changes -/
def vl_up (μ : vl_M) (h : Nat) (i v : Int) : vl_M := fun k j => if k = h ∧ j = i then v else μ k j
def vl_gp (j : Nat) : Value := .int (Int32.ofInt (if j = 0 then 121 else if j = 1 then 40 else if j = 2 then 13 else if j = 3 then 4 else 1))
/-- what is read only: the script (cell 101), the steps of the sort (cell 100) -/
def vl_Ro (sc : Nat × (Nat → Int32)) (ad : Nat → Nat) (A : Nat → Prop) (s : State) : Prop := va_X (ad 101) sc.1 sc.2 s s.heap ∧ ad 101 < s.heap.size ∧ ¬ A (ad 101) ∧ va_Z "AreaTree$Packer" "GAPS" "[I" (.ref (ad 100)) A s s.heap ∧ va_T .int (ad 100) 5 vl_gp A s s.heap
def vl_Rl (nc : Nat) (S : vl_Sh) (sc : Nat × (Nat → Int32)) (D : va_G) (cA : ClassId) (ad : Nat → Nat) (A : Nat → Prop) (s : State) (μ ρ : vl_M) (H : Heap) (locs : List Loc) : Prop :=
  va_P D vwCl (vl_ws nc S cA ad μ ρ) H ∧ va_D A (vl_ws nc S cA ad μ ρ) ∧ va_K D vwCl [(cA, .int)] s ∧ va_S A s.heap H locs ∧ vl_Ro sc ad A s
def vl_rv (ret : Option FieldType) (r : Int) : Option Value := match ret with
  | none => none
  | some .long => some (vl_jv r)
  | some _ => some (vl_iv r)
/-- the method's return instruction stands at pc and takes r -/
def vl_Rt (K : vl_K) (pc : Nat) (r : Int) : Prop := match K.2.2.2 with
  | none => decode K.2.1 pc = .ok (.return_, 1)
  | some .int => decode K.2.1 pc = .ok (.ireturn, 1)
  | some .boolean => decode K.2.1 pc = .ok (.ireturn, 1) ∧ (r = 0 ∨ r = 1)
  | some .long => decode K.2.1 pc = .ok (.lreturn, 1)
  | _ => False
def vl_Cx (K : vl_K) (d : Nat) (p : Program) (R : Room) (s : State) (m : MethodId) (args : Array Value) (meth : Method) (c : Code) : Prop :=
  p.tables.exec = Jvm.exec ∧ c.code = K.2.1 ∧ c.maxLocals = K.2.2.1 ∧ s.vm.findClass K.1.cls = some m.cls ∧ (∀ w ∈ vl_tbl, w.before args s = true) ∧ meth.sig.returnType = K.2.2.2 ∧ d ≤ R.frames ∧ 40 * d ≤ R.locals ∧ meth.locks = false
def vl_V (nc : Nat) (S : vl_Sh) (sc : Nat × (Nat → Int32)) (K : vl_K) (d : Nat) (Post : Int → vl_M → vl_M → Prop) (pc : Nat) (lv : List (Nat × Value)) (st : List Value) (μ ρ : vl_M) : Prop :=
  ∀ (p : Program) (l : Launch) (e : Env) (R : Room) (s : State) (m : MethodId) (args : Array Value) (below : List Frame) (meth : Method) (c : Code) (H : Heap) (locs : List Loc) (cells slots : Nat) (Q : State → Prop) (D : va_G) (cA : ClassId) (ad : Nat → Nat) (A : Nat → Prop) (ls : Array Slot),
    vl_Cx K d p R s m args meth c → cells ≤ R.cells ∧ slots ≤ R.slots → vl_Rl nc S sc D cA ad A s μ ρ H locs → lv_has ls K.2.2.1 (lv.map (fun q => (q.1, vl_rz ad q.2))) →
    (∀ (r : Int) (μ' ρ' : vl_M) (H' : Heap) (locs' : List Loc) (pc' : Nat) (ls' : Array Slot), Post r μ' ρ' → vl_Rl nc S sc D cA ad A s μ' ρ' H' locs' → vl_Rt K pc' r → W p l e R s m args below meth c H' locs' cells slots Q (F0 m pc' ls' (vl_rv K.2.2.2 r).toList)) →
    W p l e R s m args below meth c H locs cells slots Q (F0 m pc ls (st.map (vl_rz ad)))
/-- the code's own number: it ends, and with P -/
def vl_ok {α : Type} (P : α → Prop) (E : Option α) : Prop := ∃ a, E = some a ∧ P a
/-- what must hold for the machine not to throw, or for a whole number to be the machine's -/
def vl_gd {α : Type} (c : Prop) [Decidable c] (E : Option α) : Option α := if c then E else none
def vl_lt {α β : Type} (x : β) (E : β → Option α) : Option α := E x
def vl_jn {α β : Type} (k : β) (E : β → Option α) : Option α := E k
abbrev vl_r32 (x : Int) : Prop := -2147483648 ≤ x ∧ x < 2147483648
abbrev vl_r64 (x : Int) : Prop := -9223372036854775808 ≤ x ∧ x < 9223372036854775808
theorem vl_ok_gd {α : Type} {P : α → Prop} {c : Prop} [Decidable c] {E : Option α} (h : vl_ok P (vl_gd c E)) : c ∧ vl_ok P E := by
  obtain ⟨a, h1, h2⟩ := h
  unfold vl_gd at h1
  by_cases hc : c
  · rw [if_pos hc] at h1; exact ⟨hc, a, h1, h2⟩
  · rw [if_neg hc] at h1; cases h1
