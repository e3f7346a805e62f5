section VLC
variable {nc : Nat} {S : vl_Sh} {sc : Nat × (Nat → Int32)} {K : vl_K} {d : Nat} {Post : Int → vl_M → vl_M → Prop} {pc : Nat} {lv : List (Nat × Value)} {st st0 : List Value} {μ ρ : vl_M}
theorem vl_Ro.to {ad : Nat → Nat} {A : Nat → Prop} {s U : State} {H : Heap} {locs : List Loc} (h : vl_Ro sc ad A s) (hS : va_S A s.heap H locs) (hU : U.heap = H) (hvm : s.vm.Alike U.vm) : vl_Ro sc ad A U := by
  obtain ⟨h1, h2, h3, h4, h5⟩ := h
  refine ⟨?_, ?_, h3, ?_, ?_⟩
  · rw [hU]; exact (h1.kept (hS.2.1 _ h2 h3)).moved hvm
  · rw [hU]; exact Nat.lt_of_lt_of_le h2 hS.1
  · rw [hU]; exact (h4.kept (fun a ha hA => hS.2.1 a ha hA)).moved hvm
  · rw [hU]; exact (h5.kept (fun a ha hA => hS.2.1 a ha hA)).moved hvm
def vl_B (nc : Nat) (S : vl_Sh) (sc : Nat × (Nat → Int32)) (D : va_G) (cA : ClassId) (ad : Nat → Nat) (A : Nat → Prop) (μ ρ : vl_M) (U : State) : Prop := va_P D vwCl (vl_ws nc S cA ad μ ρ) U.heap ∧ va_D A (vl_ws nc S cA ad μ ρ) ∧ va_K D vwCl [(cA, .int)] U ∧ vl_Ro sc ad A U
def vl_Qc (nc : Nat) (S : vl_Sh) (K : vl_K) (Post : Int → vl_M → vl_M → Prop) (D : va_G) (cA : ClassId) (ad : Nat → Nat) (A : Nat → Prop) : Array Value → State → Outcome → State → Prop := fun _ st o t =>
  (∃ (r : Int) (μ' ρ' : vl_M), o = .returned (vl_rv K.2.2.2 r) ∧ Post r μ' ρ' ∧ va_P D vwCl (vl_ws nc S cA ad μ' ρ') t.heap ∧ va_D A (vl_ws nc S cA ad μ' ρ')) ∧ va_F A st t
theorem vl_blind {D : va_G} {cA : ClassId} {ad : Nat → Nat} {A : Nat → Prop} {as : List Value} : FrameBlind (va_Pc as (vl_B nc S sc D cA ad A μ ρ)) :=
  fun a U g mk q => ⟨q.1, q.2.1, q.2.2.1, va_K.moved (u := U) (U := U.calling g mk a) (Vm.Alike.refl U.vm) q.2.2.2.1, q.2.2.2.2.to (H := U.heap) va_S.rf rfl (Vm.Alike.refl U.vm)⟩
theorem vl_args_map (ad : Nat → Nat) (vs : List Value) : ∀ i : Nat, lv_args i (vs.map (vl_rz ad)) = (lv_args i vs).map (fun q => (q.1, vl_rz ad q.2)) := by
  induction vs with
  | nil => intro i; rfl
  | cons v t ih =>
    intro i
    simp only [List.map_cons, lv_args, vl_cat, ih]
theorem vl_sl_len (ad : Nat → Nat) (vs : List Value) : (lg_sl (vs.map (vl_rz ad))).length = (lg_sl vs).length := by
  induction vs with
  | nil => rfl
  | cons v t ih =>
    unfold lg_sl at ih ⊢
    simp only [List.map_cons, List.flatMap_cons, List.length_append, vl_cat, ih]
    split <;> rfl
set_option maxHeartbeats 1000000 in
theorem vl_met (l : Launch) (D : va_G) (cA : ClassId) (ad : Nat → Nat) (A : Nat → Prop) {K : vl_K} {d : Nat} {Post : Int → vl_M → vl_M → Prop} {As : List Value} (hy : plainName K.1.cls = true) (hsl : (lg_sl As).length ≤ K.2.2.1) (hV : vl_V nc S sc K d Post 0 (lv_args 0 As) [] μ ρ) :
    Met l K.1 (Cond.code K.1 K.2.1 K.2.2.1 K.2.2.2 :: vl_tbl) ({ frames := d, cells := 0, slots := 0, locals := 40 * d }) (va_Pc (As.map (vl_rz ad)) (vl_B nc S sc D cA ad A μ ρ)) (vl_Qc nc S K Post D cA ad A) 0 0 A := by
  refine Met.ofW (cc := K.2.1) (maxL := K.2.2.1) (ret := K.2.2.2) hy rfl ?_
  intro p e s m args below meth c s₁ B hml hv
  obtain ⟨rfl, hP, hD, hK, hRo⟩ := hv
  have hts0 := atoms_spec (ws := Cond.code K.1 K.2.1 K.2.2.1 K.2.2.2 :: vl_tbl) B.pre
  have hts : ∀ w ∈ vl_tbl, w.before (As.map (vl_rz ad)).toArray s = true := fun w hw => hts0 w (List.mem_cons_of_mem _ hw)
  have hown : s.vm.findClass K.1.cls = some m.cls := findClass_of_methodNamed B.named
  have hlocks := B.notSynchronized
  have hx := B.exec
  have hb := B.bytes
  have hr := B.returns
  rw [lg_entry_eq]
  have hl := lv_entry (As.map (vl_rz ad)) (n := K.2.2.1) (by rw [vl_sl_len]; exact hsl)
  rw [vl_args_map] at hl
  refine hV p l e _ s m _ below meth c s.heap [] 0 0 _ D cA ad A _ ⟨hx, hb, hml, hown, hts, hr, Nat.le_refl d, Nat.le_refl _, hlocks⟩ ⟨Nat.zero_le _, Nat.zero_le _⟩ ⟨hP, hD, hK, va_S.rf, hRo⟩ hl (fun r μ' ρ' H' locs' pc' ls' hPost hR' hRt => ?_)
  have hq : ∀ t : State, t.heap = H' → s.WarmedH t.vm → vl_Qc nc S K Post D cA ad A (As.map (vl_rz ad)).toArray s (.returned (vl_rv K.2.2.2 r)) t := fun t ht _ => ⟨⟨r, μ', ρ', rfl, hPost, by rw [ht]; exact hR'.1, hR'.2.1⟩, hR'.2.2.2.1.F ht⟩
  have hf := hR'.2.2.2.1.2.2
  obtain ⟨y, code, mx, ret⟩ := K
  cases ret with
  | none => exact W.vret hx hb hr hq hf hRt hlocks
  | some ty =>
    cases ty with
    | int => exact W.iret hx hb hr hq hf hRt hlocks
    | boolean => exact W.zret hx hb hr (vl_nZ hRt.2).1 hq hf hRt.1 hlocks
    | long => exact W.lret hx hb hr hq hf hRt hlocks
    | _ => exact hRt.elim
theorem vl_after {p : Program} {l : Launch} {e : Env} {R : Room} {s : State} {m : MethodId} {args : Array Value} {below : List Frame} {meth : Method} {c : Code} {H : Heap} {locs : List Loc} {cells slots : Nat} {Q : State → Prop} {ls : Array Slot} {rest stk : List Value} {free : Addr → Prop} {A : Nat → Prop} {Qa : State → Outcome → State → Prop} {B : Option Value → State → Prop}
    (hr : va_Run p l e R s m args below meth c H locs cells slots 0 0 (F0 m pc ls stk) rest Qa free) (hS : va_S A s.heap H locs) (hf : ∀ q, free q → A q) (hQ : ∀ st v t, Qa st (.returned v) t → B v t ∧ va_F A st t)
    (kk : ∀ (v : Option Value) (t : State) (H1 : Heap) (locs1 : List Loc), t.heap = H1 → B v t → va_S A s.heap H1 locs1 → W p l e R s m args below meth c H1 locs1 cells slots Q (F0 m (pc + 3) ls (v.toList ++ rest))) : W p l e R s m args below meth c H locs cells slots Q (F0 m pc ls stk) := by
  intro T hT X
  obtain ⟨v, st₀, t, T', L, h0, X', hL, e1, e2, hq, stp⟩ := hr T hT X
  obtain ⟨hb, hz, hk⟩ := hQ _ _ _ hq
  rw [h0] at hz hk
  obtain ⟨t2, a1, b1⟩ := kk v t T'.heap (locs ++ L) e1.symm hb
    ⟨Nat.le_trans hS.1 (by rw [e1]; exact hz), fun q h1 h2 => by rw [e1, hk q (Nat.lt_of_lt_of_le h1 hS.1) h2]; exact hS.2.1 q h1 h2, fun q hq => by
      rcases List.mem_append.mp hq with h | h
      · exact hS.2.2 q h
      · exact hf _ (hL q h)⟩ T' rfl X'
  exact ⟨t2, stp t2 a1, b1⟩
theorem vl_good : GoodIn vl_tbl vl_tbl := fun w hw => ⟨hw, good_of_word (List.mem_filter.mp hw).2⟩
/-- a call's words, all of them in the tables -/
def vl_LkV (own : String) (idx : Nat) (K' : vl_K) (C : String) (n : Nat) : Prop := (K'.1.cls = C ∧ K'.1.cls ≠ "java/lang/invoke/MethodHandle" ∧ K'.1.cls ≠ "java/lang/invoke/VarHandle" ∧ (parseMethodDescriptor K'.1.desc).map (fun d => d.parameters.length) = some n) ∧ (plainName K'.1.cls = true ∧ K'.2.2.1 ≤ 21) ∧ Cond.methodLink own idx K'.1 ∈ vl_tbl ∧ Cond.instanceMethod K'.1 ∈ vl_tbl ∧ Cond.selects C K'.1 K'.1 ∈ vl_tbl ∧ Cond.initialized C ∈ vl_tbl ∧ Cond.code K'.1 K'.2.1 K'.2.2.1 K'.2.2.2 ∈ vl_tbl
def vl_LkS (own : String) (idx : Nat) (K' : vl_K) (n : Nat) : Prop := (K'.1.cls ≠ "java/lang/invoke/MethodHandle" ∧ K'.1.cls ≠ "java/lang/invoke/VarHandle" ∧ (parseMethodDescriptor K'.1.desc).map (fun d => d.parameters.length) = some n) ∧ (plainName K'.1.cls = true ∧ K'.2.2.1 ≤ 21) ∧ Cond.methodLink own idx K'.1 ∈ vl_tbl ∧ Cond.static K'.1 ∈ vl_tbl ∧ Cond.initialized K'.1.cls ∈ vl_tbl ∧ Cond.code K'.1 K'.2.1 K'.2.2.1 K'.2.2.2 ∈ vl_tbl
theorem vl_goodc {y : MethodName} {b : ByteArray} {n : Nat} {r : Option FieldType} (h : Cond.code y b n r ∈ vl_tbl) : GoodIn vl_tbl (Cond.code y b n r :: vl_tbl) := fun w hw => (List.mem_cons.mp hw).elim (fun e => e ▸ vl_good _ h) (vl_good w)
theorem vl_gV {own : String} {idx n : Nat} {K' : vl_K} {C : String} (h : vl_LkV own idx K' C n) : GoodIn vl_tbl (wsV own idx C K'.1 (Cond.code K'.1 K'.2.1 K'.2.2.1 K'.2.2.2 :: vl_tbl)) := by
  obtain ⟨-, -, h1, h2, h3, h4, h5⟩ := h
  intro w hw
  rcases List.mem_append.mp hw with hw | hw
  · simp only [List.mem_cons, List.not_mem_nil, or_false] at hw
    rcases hw with rfl | rfl | rfl | rfl
    · exact vl_good _ h1
    · exact vl_good _ h2
    · exact vl_good _ h3
    · exact vl_good _ h4
  · exact vl_goodc h5 w hw
theorem vl_gS {own : String} {idx n : Nat} {K' : vl_K} (h : vl_LkS own idx K' n) : GoodIn vl_tbl (va_wsS own idx K'.1 (Cond.code K'.1 K'.2.1 K'.2.2.1 K'.2.2.2 :: vl_tbl)) := by
  obtain ⟨-, -, h1, h2, h3, h5⟩ := h
  intro w hw
  rcases List.mem_append.mp hw with hw | hw
  · simp only [List.mem_cons, List.not_mem_nil, or_false] at hw
    rcases hw with rfl | rfl | rfl
    · exact vl_good _ h1
    · exact vl_good _ h2
    · exact vl_good _ h3
  · exact vl_goodc h5 w hw
theorem vl_room {ad : Nat → Nat} (h : (st.map fun v => v.category).sum ≤ 8) : ((st.map (vl_rz ad)).map fun v => v.category).sum ≤ 8 := by
  rw [List.map_map]
  have e : ((fun v : Value => v.category) ∘ vl_rz ad) = fun v => v.category := funext (fun v => vl_cat ad v)
  rw [e]; exact h
theorem vl_rvz (ad : Nat → Nat) (ret : Option FieldType) (r : Int) : ((vl_rv ret r).toList ++ st).map (vl_rz ad) = (vl_rv ret r).toList ++ st.map (vl_rz ad) := by
  rw [List.map_append]
  congr 1
  unfold vl_rv
  split <;> rfl
set_option maxHeartbeats 1000000 in
theorem vl_callV {K' : vl_K} {d' : Nat} {Post' : Int → vl_M → vl_M → Prop} {h ci idx n : Nat} {cs : List Nat} {As : List Value} {C : String} {T : u_T} {N : Nat} (hk : vl_LkV K.1.cls idx K' C n) (hd' : d' + 1 ≤ d) (hh : h < nc) (hS : S h = .inr (ci, cs)) (hci : vwCl[ci]? = some (C, T, N)) (hn : As.length = n) (hsl : (lg_sl (.ref h :: As)).length ≤ K'.2.2.1) (hst : st0 = As.reverse ++ .ref h :: st) (hrm : (st.map fun v => v.category).sum ≤ 8) (hd : decode K.2.1 pc = .ok (.invokevirtual idx, 3))
    (hV : vl_V nc S sc K' d' Post' 0 (lv_args 0 (.ref h :: As)) [] μ ρ) (k : ∀ r μ' ρ', Post' r μ' ρ' → vl_V nc S sc K d Post (pc + 3) lv ((vl_rv K'.2.2.2 r).toList ++ st) μ' ρ') : vl_V nc S sc K d Post pc lv st0 μ ρ := by
  intro p l e R s m args below meth c H locs cells slots Q D cA ad A ls hC hcs hR hl hret
  subst hst
  have hM := vl_met l D cA ad A hk.2.1.1 hsl hV
  have hrun := va_runV (p := p) (e := e) (R := R) (below := below) (meth := meth) (H := H) (locs := locs) (cells := cells) (slots := slots) (g := F0 m pc ls ((As.reverse ++ .ref h :: st).map (vl_rz ad))) (As := As.map (vl_rz ad)) (rest := st.map (vl_rz ad)) (b := ad h) (C := C) ⟨hC.1, hC.2.1, hC.2.2.1, hC.2.2.2.1, hC.2.2.2.2.1⟩ hM
    (cwV n hC.2.2.2.2.1 (vl_gV hk) rfl rfl rfl ⟨hk.1.1, hk.1.2.1, hk.1.2.2.1, hk.1.2.2.2⟩ ⟨by have := hC.2.2.2.2.2.2.1; show d' + 1 ≤ R.frames; omega, by have := hC.2.2.2.2.2.2.2.1; have := hk.2.1.2; show 8 + (K'.2.2.1 + 11) + 40 * d' ≤ R.locals; omega⟩)
    ⟨vl_blind, va_recv hR.2.2.1 hR.1 hci (vl_ws_obj hh hS), fun U hU hW => ⟨rfl, by rw [hU]; exact hR.1, hR.2.1, va_K.moved hW.alike hR.2.2.1, hR.2.2.2.2.to hR.2.2.2.1 hU hW.alike⟩⟩
    rfl (by rw [List.length_map]; exact hn) hl.1 (by simp [List.map_append, List.map_reverse]; rfl) (lv_room (vl_room hrm)) hd ⟨hcs.1, hcs.2⟩
  refine vl_after (B := fun v t => ∃ (r : Int) (μ' ρ' : vl_M), v = vl_rv K'.2.2.2 r ∧ Post' r μ' ρ' ∧ va_P D vwCl (vl_ws nc S cA ad μ' ρ') t.heap ∧ va_D A (vl_ws nc S cA ad μ' ρ')) hrun hR.2.2.2.1 (fun _ h => h) (fun st v t hq => ?_) (fun v t H1 locs1 ht hB hS1 => ?_)
  · obtain ⟨⟨r, μ', ρ', e1, e2, e3, e4⟩, hF⟩ := hq
    cases e1
    exact ⟨⟨r, μ', ρ', rfl, e2, e3, e4⟩, hF⟩
  · obtain ⟨r, μ', ρ', rfl, e2, e3, e4⟩ := hB
    rw [ht] at e3
    have := k r μ' ρ' e2 p l e R s m args below meth c H1 locs1 cells slots Q D cA ad A ls hC hcs ⟨e3, e4, hR.2.2.1, hS1, hR.2.2.2.2⟩ hl hret
    rw [vl_rvz] at this
    exact this
set_option maxHeartbeats 1000000 in
theorem vl_callS {K' : vl_K} {d' : Nat} {Post' : Int → vl_M → vl_M → Prop} {idx n : Nat} {As : List Value} (hk : vl_LkS K.1.cls idx K' n) (hd' : d' + 1 ≤ d) (hn : As.length = n) (hsl : (lg_sl As).length ≤ K'.2.2.1) (hst : st0 = As.reverse ++ st) (hrm : (st.map fun v => v.category).sum ≤ 8) (hd : decode K.2.1 pc = .ok (.invokestatic idx, 3))
    (hV : vl_V nc S sc K' d' Post' 0 (lv_args 0 As) [] μ ρ) (k : ∀ r μ' ρ', Post' r μ' ρ' → vl_V nc S sc K d Post (pc + 3) lv ((vl_rv K'.2.2.2 r).toList ++ st) μ' ρ') : vl_V nc S sc K d Post pc lv st0 μ ρ := by
  intro p l e R s m args below meth c H locs cells slots Q D cA ad A ls hC hcs hR hl hret
  subst hst
  have hM := vl_met l D cA ad A hk.2.1.1 hsl hV
  have hrun := va_runS (p := p) (e := e) (R := R) (below := below) (meth := meth) (H := H) (locs := locs) (cells := cells) (slots := slots) (g := F0 m pc ls ((As.reverse ++ st).map (vl_rz ad))) (As := As.map (vl_rz ad)) (rest := st.map (vl_rz ad)) ⟨hC.1, hC.2.1, hC.2.2.1, hC.2.2.2.1, hC.2.2.2.2.1⟩ hM
    (va_cwS n hC.2.2.2.2.1 (vl_gS hk) rfl rfl rfl ⟨hk.1.1, hk.1.2.1, hk.1.2.2⟩ ⟨by have := hC.2.2.2.2.2.2.1; show d' + 1 ≤ R.frames; omega, by have := hC.2.2.2.2.2.2.2.1; have := hk.2.1.2; show 8 + (K'.2.2.1 + 11) + 40 * d' ≤ R.locals; omega⟩)
    ⟨vl_blind, fun U hU hW => ⟨rfl, by rw [hU]; exact hR.1, hR.2.1, va_K.moved hW.alike hR.2.2.1, hR.2.2.2.2.to hR.2.2.2.1 hU hW.alike⟩⟩
    rfl (by rw [List.length_map]; exact hn) hl.1 (by simp [List.map_append, List.map_reverse]) (lv_room (vl_room hrm)) hd ⟨hcs.1, hcs.2⟩
  refine vl_after (B := fun v t => ∃ (r : Int) (μ' ρ' : vl_M), v = vl_rv K'.2.2.2 r ∧ Post' r μ' ρ' ∧ va_P D vwCl (vl_ws nc S cA ad μ' ρ') t.heap ∧ va_D A (vl_ws nc S cA ad μ' ρ')) hrun hR.2.2.2.1 (fun _ h => h) (fun st v t hq => ?_) (fun v t H1 locs1 ht hB hS1 => ?_)
  · obtain ⟨⟨r, μ', ρ', e1, e2, e3, e4⟩, hF⟩ := hq
    cases e1
    exact ⟨⟨r, μ', ρ', rfl, e2, e3, e4⟩, hF⟩
  · obtain ⟨r, μ', ρ', rfl, e2, e3, e4⟩ := hB
    rw [ht] at e3
    have := k r μ' ρ' e2 p l e R s m args below meth c H1 locs1 cells slots Q D cA ad A ls hC hcs ⟨e3, e4, hR.2.2.1, hS1, hR.2.2.2.2⟩ hl hret
    rw [vl_rvz] at this
    exact this
theorem vl_bind {α β : Type} {P : α → Prop} {F : Option β} {G : β → Option α} (hE : vl_ok P (F.bind G)) : ∃ b, F = some b ∧ vl_ok P (G b) := by
  obtain ⟨a, h1, h2⟩ := hE
  cases F with
  | none => cases h1
  | some b => exact ⟨b, rfl, a, h1, h2⟩
def vl_un {α : Type} (f : Int → vl_M → Option α) : Int × vl_M → Option α := fun b => f b.1 b.2
theorem vl_lpr {α β : Type} {P : α → Prop} {κ : β} {F : β → Option α} {G : Prop} (J : β → Prop) (h1 : J κ) (hE : vl_ok P (F κ)) (h2 : ∀ κ, J κ → vl_ok P (F κ) → G) : G := h2 κ h1 hE
theorem vl_no {α : Type} {P : α → Prop} {G : Prop} (h : vl_ok P (none : Option α)) : G := by
  obtain ⟨a, h1, -⟩ := h
  cases h1
theorem vl_VcWI {α : Type} {P : α → Prop} {F : Option (Int × vl_M)} {G : Int → vl_M → Option α} {K' : vl_K} {d' h ci idx n : Nat} {cs : List Nat} {As : List Value} {C : String} {T : u_T} {N : Nat} (hk : vl_LkV K.1.cls idx K' C n) (hrt : ∀ r, vl_rv K'.2.2.2 r = some (vl_iv r)) (hd' : d' + 1 ≤ d) (hh : h < nc) (hS : S h = .inr (ci, cs)) (hci : vwCl[ci]? = some (C, T, N)) (hn : As.length = n) (hsl : (lg_sl (.ref h :: As)).length ≤ K'.2.2.1) (hst : st0 = As.reverse ++ .ref h :: st) (hrm : (st.map fun v => v.category).sum ≤ 8) (hd : decode K.2.1 pc = .ok (.invokevirtual idx, 3)) (hE : vl_ok P (F.bind (vl_un G)))
    (hv : ∀ Post', vl_ok (fun b => Post' (b.1) (b.2) (ρ)) F → vl_V nc S sc K' d' Post' 0 (lv_args 0 (.ref h :: As)) [] μ ρ) (k : ∀ r m', vl_ok P (G r m') → vl_V nc S sc K d Post (pc + 3) lv (vl_iv r :: st) (m') (ρ)) : vl_V nc S sc K d Post pc lv st0 μ ρ := by
  obtain ⟨b, h1, h2⟩ := vl_bind hE
  refine vl_callV hk hd' hh hS hci hn hsl hst hrm hd (hv (fun r m1 m2 => r = b.1 ∧ m1 = b.2 ∧ m2 = ρ) ⟨b, h1, rfl, rfl, rfl⟩) (fun r m1 m2 q => ?_)
  obtain ⟨e1, e2, e3⟩ := q
  rw [e1, e2, e3, hrt]
  exact k b.1 b.2 h2
theorem vl_VrWI {α : Type} {P : α → Prop} {F : Option (Int × vl_M)} {G : Int → vl_M → Option α} {K' : vl_K} {d' h ci idx n : Nat} {cs : List Nat} {As : List Value} {C : String} {T : u_T} {N : Nat} (hk : vl_LkV K.1.cls idx K' C n) (hrt : ∀ r, vl_rv K'.2.2.2 r = some (vl_iv r)) (hd' : d' + 1 ≤ d) (hh : h < nc) (hS : S h = .inr (ci, cs)) (hci : vwCl[ci]? = some (C, T, N)) (hn : As.length = n) (hsl : (lg_sl (.ref h :: As)).length ≤ K'.2.2.1) (hst : st0 = As.reverse ++ .ref h :: st) (hrm : (st.map fun v => v.category).sum ≤ 8) (hd : decode K.2.1 pc = .ok (.invokevirtual idx, 3)) (hE : vl_ok P (F.bind (vl_un G)))
    (hv : ∀ Post', vl_ok (fun b => Post' (b.1) (μ) (b.2)) F → vl_V nc S sc K' d' Post' 0 (lv_args 0 (.ref h :: As)) [] μ ρ) (k : ∀ r m', vl_ok P (G r m') → vl_V nc S sc K d Post (pc + 3) lv (vl_iv r :: st) (μ) (m')) : vl_V nc S sc K d Post pc lv st0 μ ρ := by
  obtain ⟨b, h1, h2⟩ := vl_bind hE
  refine vl_callV hk hd' hh hS hci hn hsl hst hrm hd (hv (fun r m1 m2 => r = b.1 ∧ m1 = μ ∧ m2 = b.2) ⟨b, h1, rfl, rfl, rfl⟩) (fun r m1 m2 q => ?_)
  obtain ⟨e1, e2, e3⟩ := q
  rw [e1, e2, e3, hrt]
  exact k b.1 b.2 h2
theorem vl_VcWV {α : Type} {P : α → Prop} {F : Option (vl_M)} {G : (vl_M) → Option α} {K' : vl_K} {d' h ci idx n : Nat} {cs : List Nat} {As : List Value} {C : String} {T : u_T} {N : Nat} (hk : vl_LkV K.1.cls idx K' C n) (hrt : ∀ r, vl_rv K'.2.2.2 r = none) (hd' : d' + 1 ≤ d) (hh : h < nc) (hS : S h = .inr (ci, cs)) (hci : vwCl[ci]? = some (C, T, N)) (hn : As.length = n) (hsl : (lg_sl (.ref h :: As)).length ≤ K'.2.2.1) (hst : st0 = As.reverse ++ .ref h :: st) (hrm : (st.map fun v => v.category).sum ≤ 8) (hd : decode K.2.1 pc = .ok (.invokevirtual idx, 3)) (hE : vl_ok P (F.bind G))
    (hv : ∀ Post', vl_ok (fun b => Post' (0) (b) (ρ)) F → vl_V nc S sc K' d' Post' 0 (lv_args 0 (.ref h :: As)) [] μ ρ) (k : ∀ b, vl_ok P (G b) → vl_V nc S sc K d Post (pc + 3) lv (st) (b) (ρ)) : vl_V nc S sc K d Post pc lv st0 μ ρ := by
  obtain ⟨b, h1, h2⟩ := vl_bind hE
  refine vl_callV hk hd' hh hS hci hn hsl hst hrm hd (hv (fun r m1 m2 => r = 0 ∧ m1 = b ∧ m2 = ρ) ⟨b, h1, rfl, rfl, rfl⟩) (fun r m1 m2 q => ?_)
  obtain ⟨e1, e2, e3⟩ := q
  rw [e1, e2, e3, hrt]
  exact k b h2
theorem vl_VrWV {α : Type} {P : α → Prop} {F : Option (vl_M)} {G : (vl_M) → Option α} {K' : vl_K} {d' h ci idx n : Nat} {cs : List Nat} {As : List Value} {C : String} {T : u_T} {N : Nat} (hk : vl_LkV K.1.cls idx K' C n) (hrt : ∀ r, vl_rv K'.2.2.2 r = none) (hd' : d' + 1 ≤ d) (hh : h < nc) (hS : S h = .inr (ci, cs)) (hci : vwCl[ci]? = some (C, T, N)) (hn : As.length = n) (hsl : (lg_sl (.ref h :: As)).length ≤ K'.2.2.1) (hst : st0 = As.reverse ++ .ref h :: st) (hrm : (st.map fun v => v.category).sum ≤ 8) (hd : decode K.2.1 pc = .ok (.invokevirtual idx, 3)) (hE : vl_ok P (F.bind G))
    (hv : ∀ Post', vl_ok (fun b => Post' (0) (μ) (b)) F → vl_V nc S sc K' d' Post' 0 (lv_args 0 (.ref h :: As)) [] μ ρ) (k : ∀ b, vl_ok P (G b) → vl_V nc S sc K d Post (pc + 3) lv (st) (μ) (b)) : vl_V nc S sc K d Post pc lv st0 μ ρ := by
  obtain ⟨b, h1, h2⟩ := vl_bind hE
  refine vl_callV hk hd' hh hS hci hn hsl hst hrm hd (hv (fun r m1 m2 => r = 0 ∧ m1 = μ ∧ m2 = b) ⟨b, h1, rfl, rfl, rfl⟩) (fun r m1 m2 q => ?_)
  obtain ⟨e1, e2, e3⟩ := q
  rw [e1, e2, e3, hrt]
  exact k b h2
theorem vl_VpI {α : Type} {P : α → Prop} {F : Option (Int)} {G : (Int) → Option α} {K' : vl_K} {d' h ci idx n : Nat} {cs : List Nat} {As : List Value} {C : String} {T : u_T} {N : Nat} (hk : vl_LkV K.1.cls idx K' C n) (hrt : ∀ r, vl_rv K'.2.2.2 r = some (vl_iv r)) (hd' : d' + 1 ≤ d) (hh : h < nc) (hS : S h = .inr (ci, cs)) (hci : vwCl[ci]? = some (C, T, N)) (hn : As.length = n) (hsl : (lg_sl (.ref h :: As)).length ≤ K'.2.2.1) (hst : st0 = As.reverse ++ .ref h :: st) (hrm : (st.map fun v => v.category).sum ≤ 8) (hd : decode K.2.1 pc = .ok (.invokevirtual idx, 3)) (hE : vl_ok P (F.bind G))
    (hv : ∀ Post', vl_ok (fun b => Post' (b) (μ) (ρ)) F → vl_V nc S sc K' d' Post' 0 (lv_args 0 (.ref h :: As)) [] μ ρ) (k : ∀ b, vl_ok P (G b) → vl_V nc S sc K d Post (pc + 3) lv (vl_iv b :: st) (μ) (ρ)) : vl_V nc S sc K d Post pc lv st0 μ ρ := by
  obtain ⟨b, h1, h2⟩ := vl_bind hE
  refine vl_callV hk hd' hh hS hci hn hsl hst hrm hd (hv (fun r m1 m2 => r = b ∧ m1 = μ ∧ m2 = ρ) ⟨b, h1, rfl, rfl, rfl⟩) (fun r m1 m2 q => ?_)
  obtain ⟨e1, e2, e3⟩ := q
  rw [e1, e2, e3, hrt]
  exact k b h2
theorem vl_VpJ {α : Type} {P : α → Prop} {F : Option (Int)} {G : (Int) → Option α} {K' : vl_K} {d' h ci idx n : Nat} {cs : List Nat} {As : List Value} {C : String} {T : u_T} {N : Nat} (hk : vl_LkV K.1.cls idx K' C n) (hrt : ∀ r, vl_rv K'.2.2.2 r = some (vl_jv r)) (hd' : d' + 1 ≤ d) (hh : h < nc) (hS : S h = .inr (ci, cs)) (hci : vwCl[ci]? = some (C, T, N)) (hn : As.length = n) (hsl : (lg_sl (.ref h :: As)).length ≤ K'.2.2.1) (hst : st0 = As.reverse ++ .ref h :: st) (hrm : (st.map fun v => v.category).sum ≤ 8) (hd : decode K.2.1 pc = .ok (.invokevirtual idx, 3)) (hE : vl_ok P (F.bind G))
    (hv : ∀ Post', vl_ok (fun b => Post' (b) (μ) (ρ)) F → vl_V nc S sc K' d' Post' 0 (lv_args 0 (.ref h :: As)) [] μ ρ) (k : ∀ b, vl_ok P (G b) → vl_V nc S sc K d Post (pc + 3) lv (vl_jv b :: st) (μ) (ρ)) : vl_V nc S sc K d Post pc lv st0 μ ρ := by
  obtain ⟨b, h1, h2⟩ := vl_bind hE
  refine vl_callV hk hd' hh hS hci hn hsl hst hrm hd (hv (fun r m1 m2 => r = b ∧ m1 = μ ∧ m2 = ρ) ⟨b, h1, rfl, rfl, rfl⟩) (fun r m1 m2 q => ?_)
  obtain ⟨e1, e2, e3⟩ := q
  rw [e1, e2, e3, hrt]
  exact k b h2
theorem vl_SpI {α : Type} {P : α → Prop} {F : Option (Int)} {G : (Int) → Option α} {K' : vl_K} {d' idx n : Nat} {As : List Value} (hk : vl_LkS K.1.cls idx K' n) (hrt : ∀ r, vl_rv K'.2.2.2 r = some (vl_iv r)) (hd' : d' + 1 ≤ d) (hn : As.length = n) (hsl : (lg_sl As).length ≤ K'.2.2.1) (hst : st0 = As.reverse ++ st) (hrm : (st.map fun v => v.category).sum ≤ 8) (hd : decode K.2.1 pc = .ok (.invokestatic idx, 3)) (hE : vl_ok P (F.bind G))
    (hv : ∀ Post', vl_ok (fun b => Post' (b) (μ) (ρ)) F → vl_V nc S sc K' d' Post' 0 (lv_args 0 As) [] μ ρ) (k : ∀ b, vl_ok P (G b) → vl_V nc S sc K d Post (pc + 3) lv (vl_iv b :: st) (μ) (ρ)) : vl_V nc S sc K d Post pc lv st0 μ ρ := by
  obtain ⟨b, h1, h2⟩ := vl_bind hE
  refine vl_callS hk hd' hn hsl hst hrm hd (hv (fun r m1 m2 => r = b ∧ m1 = μ ∧ m2 = ρ) ⟨b, h1, rfl, rfl, rfl⟩) (fun r m1 m2 q => ?_)
  obtain ⟨e1, e2, e3⟩ := q
  rw [e1, e2, e3, hrt]
  exact k b h2
theorem vl_SpJ {α : Type} {P : α → Prop} {F : Option (Int)} {G : (Int) → Option α} {K' : vl_K} {d' idx n : Nat} {As : List Value} (hk : vl_LkS K.1.cls idx K' n) (hrt : ∀ r, vl_rv K'.2.2.2 r = some (vl_jv r)) (hd' : d' + 1 ≤ d) (hn : As.length = n) (hsl : (lg_sl As).length ≤ K'.2.2.1) (hst : st0 = As.reverse ++ st) (hrm : (st.map fun v => v.category).sum ≤ 8) (hd : decode K.2.1 pc = .ok (.invokestatic idx, 3)) (hE : vl_ok P (F.bind G))
    (hv : ∀ Post', vl_ok (fun b => Post' (b) (μ) (ρ)) F → vl_V nc S sc K' d' Post' 0 (lv_args 0 As) [] μ ρ) (k : ∀ b, vl_ok P (G b) → vl_V nc S sc K d Post (pc + 3) lv (vl_jv b :: st) (μ) (ρ)) : vl_V nc S sc K d Post pc lv st0 μ ρ := by
  obtain ⟨b, h1, h2⟩ := vl_bind hE
  refine vl_callS hk hd' hn hsl hst hrm hd (hv (fun r m1 m2 => r = b ∧ m1 = μ ∧ m2 = ρ) ⟨b, h1, rfl, rfl, rfl⟩) (fun r m1 m2 q => ?_)
  obtain ⟨e1, e2, e3⟩ := q
  rw [e1, e2, e3, hrt]
  exact k b h2
theorem vl_lcmp {x y : Int} (hx : vl_r64 x) (hy : vl_r64 y) : lg_cmp (Int64.ofInt x) (Int64.ofInt y) = if y < x then 1 else if x = y then 0 else -1 := by
  unfold lg_cmp
  have e1 : (Int64.ofInt x > Int64.ofInt y) ↔ y < x := vl_lt64 hy hx
  have e2 := vl_eq64 hx hy
  simp only [e1, e2]
theorem vl_lc_eq {x y : Int} : ((if y < x then (1 : Int32) else if x = y then 0 else -1) = 0) ↔ x = y := by
  by_cases h1 : y < x
  · rw [if_pos h1]; exact ⟨fun h => absurd h (by decide), fun h => by omega⟩
  · rw [if_neg h1]
    by_cases h2 : x = y
    · rw [if_pos h2]; exact ⟨fun _ => h2, fun _ => rfl⟩
    · rw [if_neg h2]; exact ⟨fun h => absurd h (by decide), fun h => absurd h h2⟩
theorem vl_lc_lt {x y : Int} : ((if y < x then (1 : Int32) else if x = y then 0 else -1) < 0) ↔ x < y := by
  by_cases h1 : y < x
  · rw [if_pos h1]; exact ⟨fun h => absurd h (by decide), fun h => by omega⟩
  · rw [if_neg h1]
    by_cases h2 : x = y
    · rw [if_pos h2]; exact ⟨fun h => absurd h (by decide), fun h => by omega⟩
    · rw [if_neg h2]; exact ⟨fun _ => by omega, fun _ => by decide⟩
theorem vl_lc_gt {x y : Int} : (0 < (if y < x then (1 : Int32) else if x = y then 0 else -1)) ↔ y < x := by
  by_cases h1 : y < x
  · rw [if_pos h1]; exact ⟨fun _ => h1, fun _ => by decide⟩
  · rw [if_neg h1]
    by_cases h2 : x = y
    · rw [if_pos h2]; exact ⟨fun h => absurd h (by decide), fun h => by omega⟩
    · rw [if_neg h2]; exact ⟨fun h => absurd h (by decide), fun h => by omega⟩
theorem vl_lc_ge {x y : Int} : (0 ≤ (if y < x then (1 : Int32) else if x = y then 0 else -1)) ↔ ¬ x < y := by
  by_cases h1 : y < x
  · rw [if_pos h1]; exact ⟨fun _ => by omega, fun _ => by decide⟩
  · rw [if_neg h1]
    by_cases h2 : x = y
    · rw [if_pos h2]; exact ⟨fun _ => by omega, fun _ => by decide⟩
    · rw [if_neg h2]; exact ⟨fun h => absurd h (by decide), fun h => by omega⟩
theorem vl_lc_le {x y : Int} : ((if y < x then (1 : Int32) else if x = y then 0 else -1) ≤ 0) ↔ ¬ y < x := by
  by_cases h1 : y < x
  · rw [if_pos h1]; exact ⟨fun h => absurd h (by decide), fun h => absurd h1 h⟩
  · rw [if_neg h1]
    by_cases h2 : x = y
    · rw [if_pos h2]; exact ⟨fun _ => h1, fun _ => by decide⟩
    · rw [if_neg h2]; exact ⟨fun _ => h1, fun _ => by decide⟩
theorem vl_lif_eq {α : Type} {P : α → Prop} {A B : Option α} {x y : Int} {off : Int} {tgt : Nat} (hd0 : decode K.2.1 pc = .ok (.lcmp, 1)) (hd : decode K.2.1 (pc + 1) = .ok (.ifCond .eq off, 3)) (ht : ((pc + 1 : Nat) : Int) + off = (tgt : Int)) (hx : vl_r64 x) (hy : vl_r64 y) (hE : vl_ok P (if x = y then A else B)) (kt : x = y → vl_ok P A → vl_V nc S sc K d Post tgt lv st μ ρ) (kf : ¬ (x = y) → vl_ok P B → vl_V nc S sc K d Post (pc + 4) lv st μ ρ) : vl_V nc S sc K d Post pc lv (vl_jv y :: vl_jv x :: st) μ ρ :=
  fun p l e R s m args below meth c H locs cells slots Q D cA ad A_1 ls hC hcs hR hl hret => W.lcmp hC.1 hC.2.1 hd0 (by
    have hcmp := vl_lcmp hx hy
    refine lv_if_eq hC.1 hC.2.1 hd ht (fun q => ?_) (fun q => ?_)
    · have z : x = y := by rw [hcmp] at q; exact vl_lc_eq.mp q
      refine kt z ?_ p l e R s m args below meth c H locs cells slots Q D cA ad A_1 ls hC hcs hR hl hret
      rw [if_pos z] at hE; exact hE
    · have z : ¬ (x = y) := by rw [hcmp] at q; exact (fun r z => r (vl_lc_eq.mpr z)) q
      refine kf z ?_ p l e R s m args below meth c H locs cells slots Q D cA ad A_1 ls hC hcs hR hl hret
      rw [if_neg z] at hE; exact hE)
theorem vl_lif_ne {α : Type} {P : α → Prop} {A B : Option α} {x y : Int} {off : Int} {tgt : Nat} (hd0 : decode K.2.1 pc = .ok (.lcmp, 1)) (hd : decode K.2.1 (pc + 1) = .ok (.ifCond .ne off, 3)) (ht : ((pc + 1 : Nat) : Int) + off = (tgt : Int)) (hx : vl_r64 x) (hy : vl_r64 y) (hE : vl_ok P (if x = y then A else B)) (kt : ¬ (x = y) → vl_ok P B → vl_V nc S sc K d Post tgt lv st μ ρ) (kf : x = y → vl_ok P A → vl_V nc S sc K d Post (pc + 4) lv st μ ρ) : vl_V nc S sc K d Post pc lv (vl_jv y :: vl_jv x :: st) μ ρ :=
  fun p l e R s m args below meth c H locs cells slots Q D cA ad A_1 ls hC hcs hR hl hret => W.lcmp hC.1 hC.2.1 hd0 (by
    have hcmp := vl_lcmp hx hy
    refine lv_if_ne hC.1 hC.2.1 hd ht (fun q => ?_) (fun q => ?_)
    · have z : ¬ (x = y) := by rw [hcmp] at q; exact (fun r z => r (vl_lc_eq.mpr z)) q
      refine kt z ?_ p l e R s m args below meth c H locs cells slots Q D cA ad A_1 ls hC hcs hR hl hret
      rw [if_neg z] at hE; exact hE
    · have z : x = y := by rw [hcmp] at q; exact vl_lc_eq.mp q
      refine kf z ?_ p l e R s m args below meth c H locs cells slots Q D cA ad A_1 ls hC hcs hR hl hret
      rw [if_pos z] at hE; exact hE)
theorem vl_lif_lt {α : Type} {P : α → Prop} {A B : Option α} {x y : Int} {off : Int} {tgt : Nat} (hd0 : decode K.2.1 pc = .ok (.lcmp, 1)) (hd : decode K.2.1 (pc + 1) = .ok (.ifCond .lt off, 3)) (ht : ((pc + 1 : Nat) : Int) + off = (tgt : Int)) (hx : vl_r64 x) (hy : vl_r64 y) (hE : vl_ok P (if x < y then A else B)) (kt : x < y → vl_ok P A → vl_V nc S sc K d Post tgt lv st μ ρ) (kf : ¬ (x < y) → vl_ok P B → vl_V nc S sc K d Post (pc + 4) lv st μ ρ) : vl_V nc S sc K d Post pc lv (vl_jv y :: vl_jv x :: st) μ ρ :=
  fun p l e R s m args below meth c H locs cells slots Q D cA ad A_1 ls hC hcs hR hl hret => W.lcmp hC.1 hC.2.1 hd0 (by
    have hcmp := vl_lcmp hx hy
    refine lv_if_lt hC.1 hC.2.1 hd ht (fun q => ?_) (fun q => ?_)
    · have z : x < y := by rw [hcmp] at q; exact vl_lc_lt.mp q
      refine kt z ?_ p l e R s m args below meth c H locs cells slots Q D cA ad A_1 ls hC hcs hR hl hret
      rw [if_pos z] at hE; exact hE
    · have z : ¬ (x < y) := by rw [hcmp] at q; exact (fun r z => r (vl_lc_lt.mpr z)) q
      refine kf z ?_ p l e R s m args below meth c H locs cells slots Q D cA ad A_1 ls hC hcs hR hl hret
      rw [if_neg z] at hE; exact hE)
theorem vl_lif_ge {α : Type} {P : α → Prop} {A B : Option α} {x y : Int} {off : Int} {tgt : Nat} (hd0 : decode K.2.1 pc = .ok (.lcmp, 1)) (hd : decode K.2.1 (pc + 1) = .ok (.ifCond .ge off, 3)) (ht : ((pc + 1 : Nat) : Int) + off = (tgt : Int)) (hx : vl_r64 x) (hy : vl_r64 y) (hE : vl_ok P (if x < y then A else B)) (kt : ¬ (x < y) → vl_ok P B → vl_V nc S sc K d Post tgt lv st μ ρ) (kf : x < y → vl_ok P A → vl_V nc S sc K d Post (pc + 4) lv st μ ρ) : vl_V nc S sc K d Post pc lv (vl_jv y :: vl_jv x :: st) μ ρ :=
  fun p l e R s m args below meth c H locs cells slots Q D cA ad A_1 ls hC hcs hR hl hret => W.lcmp hC.1 hC.2.1 hd0 (by
    have hcmp := vl_lcmp hx hy
    refine lv_if_ge hC.1 hC.2.1 hd ht (fun q => ?_) (fun q => ?_)
    · have z : ¬ (x < y) := by rw [hcmp] at q; exact vl_lc_ge.mp q
      refine kt z ?_ p l e R s m args below meth c H locs cells slots Q D cA ad A_1 ls hC hcs hR hl hret
      rw [if_neg z] at hE; exact hE
    · have z : x < y := by rw [hcmp] at q; exact (fun r => Int.not_le.mp (fun z => r (vl_lc_ge.mpr (Int.not_lt.mpr z)))) q
      refine kf z ?_ p l e R s m args below meth c H locs cells slots Q D cA ad A_1 ls hC hcs hR hl hret
      rw [if_pos z] at hE; exact hE)
theorem vl_lif_gt {α : Type} {P : α → Prop} {A B : Option α} {x y : Int} {off : Int} {tgt : Nat} (hd0 : decode K.2.1 pc = .ok (.lcmp, 1)) (hd : decode K.2.1 (pc + 1) = .ok (.ifCond .gt off, 3)) (ht : ((pc + 1 : Nat) : Int) + off = (tgt : Int)) (hx : vl_r64 x) (hy : vl_r64 y) (hE : vl_ok P (if y < x then A else B)) (kt : y < x → vl_ok P A → vl_V nc S sc K d Post tgt lv st μ ρ) (kf : ¬ (y < x) → vl_ok P B → vl_V nc S sc K d Post (pc + 4) lv st μ ρ) : vl_V nc S sc K d Post pc lv (vl_jv y :: vl_jv x :: st) μ ρ :=
  fun p l e R s m args below meth c H locs cells slots Q D cA ad A_1 ls hC hcs hR hl hret => W.lcmp hC.1 hC.2.1 hd0 (by
    have hcmp := vl_lcmp hx hy
    refine lv_if_gt hC.1 hC.2.1 hd ht (fun q => ?_) (fun q => ?_)
    · have z : y < x := by rw [hcmp] at q; exact vl_lc_gt.mp q
      refine kt z ?_ p l e R s m args below meth c H locs cells slots Q D cA ad A_1 ls hC hcs hR hl hret
      rw [if_pos z] at hE; exact hE
    · have z : ¬ (y < x) := by rw [hcmp] at q; exact (fun r z => r (vl_lc_gt.mpr z)) q
      refine kf z ?_ p l e R s m args below meth c H locs cells slots Q D cA ad A_1 ls hC hcs hR hl hret
      rw [if_neg z] at hE; exact hE)
theorem vl_lif_le {α : Type} {P : α → Prop} {A B : Option α} {x y : Int} {off : Int} {tgt : Nat} (hd0 : decode K.2.1 pc = .ok (.lcmp, 1)) (hd : decode K.2.1 (pc + 1) = .ok (.ifCond .le off, 3)) (ht : ((pc + 1 : Nat) : Int) + off = (tgt : Int)) (hx : vl_r64 x) (hy : vl_r64 y) (hE : vl_ok P (if y < x then A else B)) (kt : ¬ (y < x) → vl_ok P B → vl_V nc S sc K d Post tgt lv st μ ρ) (kf : y < x → vl_ok P A → vl_V nc S sc K d Post (pc + 4) lv st μ ρ) : vl_V nc S sc K d Post pc lv (vl_jv y :: vl_jv x :: st) μ ρ :=
  fun p l e R s m args below meth c H locs cells slots Q D cA ad A_1 ls hC hcs hR hl hret => W.lcmp hC.1 hC.2.1 hd0 (by
    have hcmp := vl_lcmp hx hy
    refine lv_if_le hC.1 hC.2.1 hd ht (fun q => ?_) (fun q => ?_)
    · have z : ¬ (y < x) := by rw [hcmp] at q; exact vl_lc_le.mp q
      refine kt z ?_ p l e R s m args below meth c H locs cells slots Q D cA ad A_1 ls hC hcs hR hl hret
      rw [if_neg z] at hE; exact hE
    · have z : y < x := by rw [hcmp] at q; exact (fun r => Int.not_le.mp (fun z => r (vl_lc_le.mpr (Int.not_lt.mpr z)))) q
      refine kf z ?_ p l e R s m args below meth c H locs cells slots Q D cA ad A_1 ls hC hcs hR hl hret
      rw [if_pos z] at hE; exact hE)
/-- a table of places to go to -/
theorem vl_tabOut {dflt lo hi : Int} {offs : Array Int} {len : Nat} {x : Int} {tgt : Nat} (hd : decode K.2.1 pc = .ok (.tableswitch dflt lo hi offs, len)) (hx : vl_r32 x) (h : x < lo ∨ hi < x) (ht : (pc : Int) + dflt = (tgt : Int)) (k : vl_V nc S sc K d Post tgt lv st μ ρ) : vl_V nc S sc K d Post pc lv (vl_iv x :: st) μ ρ :=
  vl_go (fun p l e R s m args below meth c H locs cells slots Q ad ls hC hl w => lv_tableOut hC.1 hC.2.1 hd (by rw [vl_r32_toInt hx]; exact h) ht w) k
theorem vl_tabIn {dflt lo hi : Int} {offs : Array Int} {len : Nat} {x off : Int} {tgt : Nat} (hd : decode K.2.1 pc = .ok (.tableswitch dflt lo hi offs, len)) (hx : vl_r32 x) (h1 : ¬ x < lo) (h2 : ¬ hi < x) (ho : offs[(x - lo).toNat]? = some off) (ht : (pc : Int) + off = (tgt : Int)) (k : vl_V nc S sc K d Post tgt lv st μ ρ) : vl_V nc S sc K d Post pc lv (vl_iv x :: st) μ ρ :=
  vl_go (fun p l e R s m args below meth c H locs cells slots Q ad ls hC hl w => lv_tableIn hC.1 hC.2.1 hd (by rw [vl_r32_toInt hx]; exact h1) (by rw [vl_r32_toInt hx]; exact h2) (by rw [vl_r32_toInt hx]; exact ho) ht w) k
/-- constants of the pool -/
theorem vl_ldc {index : Nat} {x : Int} (hc : Cond.constant K.1.cls index (Int32.ofInt x) ∈ vl_tbl) (hd : decode K.2.1 pc = .ok (.ldc index, 2)) (k : vl_V nc S sc K d Post (pc + 2) lv (vl_iv x :: st) μ ρ) : vl_V nc S sc K d Post pc lv st μ ρ :=
  vl_go (fun p l e R s m args below meth c H locs cells slots Q ad ls hC hl w => lv_ldc hC.1 hC.2.1 hC.2.2.2.1 (hC.2.2.2.2.1 _ hc) hd w) k
theorem vl_ldc2 {index : Nat} {x : Int} (hc : Cond.constantLong K.1.cls index (Int64.ofInt x) ∈ vl_tbl) (hd : decode K.2.1 pc = .ok (.ldc2_w index, 3)) (k : vl_V nc S sc K d Post (pc + 3) lv (vl_jv x :: st) μ ρ) : vl_V nc S sc K d Post pc lv st μ ρ :=
  vl_go (fun p l e R s m args below meth c H locs cells slots Q ad ls hC hl w => lv_ldc2 hC.1 hC.2.1 hC.2.2.2.1 (hC.2.2.2.2.1 _ hc) hd w) k
/-- the steps of the sort -/
theorem vl_gaps {index : Nat} (hlink : Cond.fieldLink K.1.cls index "AreaTree$Packer" "GAPS" "[I" ∈ vl_tbl) (hd : decode K.2.1 pc = .ok (.getstatic index, 3)) (k : vl_V nc S sc K d Post (pc + 3) lv (.ref 100 :: st) μ ρ) : vl_V nc S sc K d Post pc lv st μ ρ :=
  fun p l e R s m args below meth c H locs cells slots Q D cA ad A ls hC hcs hR hl hret => va_gets hC.1 hC.2.1 hR.2.2.2.2.2.2.2.1 hR.2.2.2.1 hC.2.2.2.1 (hC.2.2.2.2.1 _ hlink) (fun _ h => h) hd (k p l e R s m args below meth c H locs cells slots Q D cA ad A ls hC hcs hR hl hret)
theorem vl_gapsLen (hd : decode K.2.1 pc = .ok (.arraylength, 1)) (k : vl_V nc S sc K d Post (pc + 1) lv (vl_iv 5 :: st) μ ρ) : vl_V nc S sc K d Post pc lv (.ref 100 :: st) μ ρ :=
  fun p l e R s m args below meth c H locs cells slots Q D cA ad A ls hC hcs hR hl hret => va_tlen hC.1 hC.2.1 hR.2.2.2.2.2.2.2.2 hR.2.2.2.1 rfl hd (k p l e R s m args below meth c H locs cells slots Q D cA ad A ls hC hcs hR hl hret)
def vl_gap (i : Int) : Int := if i = 0 then 121 else if i = 1 then 40 else if i = 2 then 13 else if i = 3 then 4 else 1
theorem vl_gapsLd {α : Type} {P : α → Prop} {E : Option α} {i : Int} (hd : decode K.2.1 pc = .ok (.iaload, 1)) (hE : vl_ok P (vl_gd (0 ≤ i ∧ i < 5) E)) (k : (0 ≤ i ∧ i < 5) → vl_r32 i → vl_ok P E → vl_V nc S sc K d Post (pc + 1) lv (vl_iv (vl_gap i) :: st) μ ρ) : vl_V nc S sc K d Post pc lv (vl_iv i :: .ref 100 :: st) μ ρ :=
  fun p l e R s m args below meth c H locs cells slots Q D cA ad A ls hC hcs hR hl hret => by
    obtain ⟨q1, q2⟩ := vl_ok_gd hE
    have hr : vl_r32 i := ⟨by omega, by omega⟩
    obtain ⟨h1, h2⟩ := vl_inn (n := 5) hr q1
    refine va_ti hC.1 hC.2.1 hR.2.2.2.2.2.2.2.2 hR.2.2.2.1 h1 (v := vl_iv (vl_gap i)) ?_ hd (k q1 hr q2 p l e R s m args below meth c H locs cells slots Q D cA ad A ls hC hcs hR hl hret)
    unfold vl_gp vl_iv vl_gap
    generalize (Int32.ofInt i).toNatClampNeg = a at h2
    subst h2
    congr 2
    rcases (by omega : a = 0 ∨ a = 1 ∨ a = 2 ∨ a = 3 ∨ a = 4) with rfl | rfl | rfl | rfl | rfl <;> rfl
/-- the script -/
theorem vl_scLen (hd : decode K.2.1 pc = .ok (.arraylength, 1)) (k : vl_V nc S sc K d Post (pc + 1) lv (vl_iv (sc.1 : Int) :: st) μ ρ) : vl_V nc S sc K d Post pc lv (.ref 101 :: st) μ ρ :=
  fun p l e R s m args below meth c H locs cells slots Q D cA ad A ls hC hcs hR hl hret => va_slen hC.1 hC.2.1 hR.2.2.2.2.1 hR.2.2.2.2.2.1 hR.2.2.2.2.2.2.1 hR.2.2.2.1 hd (by
    rw [← Int32.ofInt_eq_ofNat]
    exact k p l e R s m args below meth c H locs cells slots Q D cA ad A ls hC hcs hR hl hret)
def vl_sc (sc : Nat × (Nat → Int32)) (i : Int) : Int := (sc.2 i.toNat).toInt
theorem vl_scLd {α : Type} {P : α → Prop} {E : Option α} {i : Int} (hL : sc.1 ≤ 2147483648) (hd : decode K.2.1 pc = .ok (.iaload, 1)) (hE : vl_ok P (vl_gd (0 ≤ i ∧ i < (sc.1 : Int)) E)) (k : (0 ≤ i ∧ i < (sc.1 : Int)) → vl_r32 i → vl_ok P E → vl_V nc S sc K d Post (pc + 1) lv (vl_iv (vl_sc sc i) :: st) μ ρ) : vl_V nc S sc K d Post pc lv (vl_iv i :: .ref 101 :: st) μ ρ :=
  fun p l e R s m args below meth c H locs cells slots Q D cA ad A ls hC hcs hR hl hret => by
    obtain ⟨q1, q2⟩ := vl_ok_gd hE
    have hr : vl_r32 i := vl_r32_in q1 hL
    obtain ⟨h1, h2⟩ := vl_inn hr q1
    refine va_sld hC.1 hC.2.1 hR.2.2.2.2.1 hR.2.2.2.2.2.1 hR.2.2.2.2.2.2.1 hR.2.2.2.1 h1 hd ?_
    have := k q1 hr q2 p l e R s m args below meth c H locs cells slots Q D cA ad A ls hC hcs hR hl hret
    have e1 : (Int32.ofInt i).toNatClampNeg = i.toNat := by omega
    rw [e1]
    have e2 : vl_iv (vl_sc sc i) = .int (sc.2 i.toNat) := by unfold vl_iv vl_sc; rw [Int32.ofInt_toInt]
    rw [List.map_cons, e2] at this
    exact this
theorem vl_jnr {α β : Type} {P : α → Prop} {κ : β} {E : β → Option α} {G : Prop} (J : β → Prop) (h1 : J κ) (hE : vl_ok P (vl_jn κ E)) (h2 : ∀ κ, J κ → vl_ok P (E κ) → G) : G := h2 κ h1 hE
end VLC
