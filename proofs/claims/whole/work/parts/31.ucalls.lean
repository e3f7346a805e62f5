section VUC
variable {bc bs nc : Nat} {S : vl_Sh} {sc : Nat × (Nat → Int32)} {K : vl_K} {d : Nat} {Post : Int → Nat → vl_Sh → vl_M → vl_M → Prop} {pc : Nat} {lv : List (Nat × Value)} {st st0 : List Value} {μ ρ : vl_M}
set_option maxHeartbeats 1000000 in
theorem vu_callV {K' : vl_K} {d' : Nat} {Post' : Int → vl_M → vl_M → Prop} {h ci idx n : Nat} {cs : List Nat} {As : List Value} {C : String} {T : u_T} {N : Nat} (hk : vl_LkV K.1.cls idx K' C n) (hd' : d' + 1 ≤ d) (hh : h < nc) (hS : S h = .inr (ci, cs)) (hci : vwCl[ci]? = some (C, T, N)) (hn : As.length = n) (hsl : (lg_sl (.ref h :: As)).length ≤ K'.2.2.1) (hst : st0 = As.reverse ++ .ref h :: st) (hrm : (st.map fun v => v.category).sum ≤ 8) (hd : decode K.2.1 pc = .ok (.invokevirtual idx, 3))
    (hV : vl_V nc S sc K' d' Post' 0 (lv_args 0 (.ref h :: As)) [] μ ρ) (k : ∀ r μ' ρ', Post' r μ' ρ' → vl_U bc bs nc S sc K d Post (pc + 3) lv ((vl_rv K'.2.2.2 r).toList ++ st) μ' ρ') : vl_U bc bs nc S sc K d Post pc lv st0 μ ρ := by
  intro p l e R s m args below meth c H locs cells slots Q D cA ad A ls hC hcs hR hl hret
  subst hst
  have hM := vl_met l D cA ad A hk.2.1.1 hsl hV
  have hrun := va_runV (p := p) (e := e) (R := R) (below := below) (meth := meth) (H := H) (locs := locs) (cells := cells) (slots := slots) (g := F0 m pc ls ((As.reverse ++ .ref h :: st).map (vl_rz ad))) (As := As.map (vl_rz ad)) (rest := st.map (vl_rz ad)) (b := ad h) (C := C) ⟨hC.1, hC.2.1, hC.2.2.1, hC.2.2.2.1, hC.2.2.2.2.1⟩ hM
    (cwV n hC.2.2.2.2.1 (vl_gV hk) rfl rfl rfl ⟨hk.1.1, hk.1.2.1, hk.1.2.2.1, hk.1.2.2.2⟩ ⟨by have := hC.2.2.2.2.2.2.1; show d' + 1 ≤ R.frames; omega, by have := hC.2.2.2.2.2.2.2.1; have := hk.2.1.2; show 8 + (K'.2.2.1 + 11) + 40 * d' ≤ R.locals; omega⟩)
    ⟨vl_blind, va_recv hR.2.2.1 hR.1 hci (vl_ws_obj hh hS), fun U hU hW => ⟨rfl, by rw [hU]; exact hR.1, hR.2.1, va_K.moved hW.alike hR.2.2.1, hR.2.2.2.2.to hR.2.2.2.1 hU hW.alike⟩⟩
    rfl (by rw [List.length_map]; exact hn) hl.1 (by simp [List.map_append, List.map_reverse]; rfl) (lv_room (vl_room hrm)) hd ⟨by have := hcs.1; omega, by have := hcs.2.1; omega⟩
  refine vl_after (B := fun v t => ∃ (r : Int) (μ' ρ' : vl_M), v = vl_rv K'.2.2.2 r ∧ Post' r μ' ρ' ∧ va_P D vwCl (vl_ws nc S cA ad μ' ρ') t.heap ∧ va_D A (vl_ws nc S cA ad μ' ρ')) hrun hR.2.2.2.1 (fun _ h => h) (fun st v t hq => ?_) (fun v t H1 locs1 ht hB hS1 => ?_)
  · obtain ⟨⟨r, μ', ρ', e1, e2, e3, e4⟩, hF⟩ := hq
    cases e1
    exact ⟨⟨r, μ', ρ', rfl, e2, e3, e4⟩, hF⟩
  · obtain ⟨r, μ', ρ', rfl, e2, e3, e4⟩ := hB
    rw [ht] at e3
    have := k r μ' ρ' e2 p l e R s m args below meth c H1 locs1 cells slots Q D cA ad A ls hC hcs ⟨e3, e4, hR.2.2.1, hS1, hR.2.2.2.2⟩ hl hret
    rw [vl_rvz] at this
    exact this
set_option maxHeartbeats 1000000 in
theorem vu_callS {K' : vl_K} {d' : Nat} {Post' : Int → vl_M → vl_M → Prop} {idx n : Nat} {As : List Value} (hk : vl_LkS K.1.cls idx K' n) (hd' : d' + 1 ≤ d) (hn : As.length = n) (hsl : (lg_sl As).length ≤ K'.2.2.1) (hst : st0 = As.reverse ++ st) (hrm : (st.map fun v => v.category).sum ≤ 8) (hd : decode K.2.1 pc = .ok (.invokestatic idx, 3))
    (hV : vl_V nc S sc K' d' Post' 0 (lv_args 0 As) [] μ ρ) (k : ∀ r μ' ρ', Post' r μ' ρ' → vl_U bc bs nc S sc K d Post (pc + 3) lv ((vl_rv K'.2.2.2 r).toList ++ st) μ' ρ') : vl_U bc bs nc S sc K d Post pc lv st0 μ ρ := by
  intro p l e R s m args below meth c H locs cells slots Q D cA ad A ls hC hcs hR hl hret
  subst hst
  have hM := vl_met l D cA ad A hk.2.1.1 hsl hV
  have hrun := va_runS (p := p) (e := e) (R := R) (below := below) (meth := meth) (H := H) (locs := locs) (cells := cells) (slots := slots) (g := F0 m pc ls ((As.reverse ++ st).map (vl_rz ad))) (As := As.map (vl_rz ad)) (rest := st.map (vl_rz ad)) ⟨hC.1, hC.2.1, hC.2.2.1, hC.2.2.2.1, hC.2.2.2.2.1⟩ hM
    (va_cwS n hC.2.2.2.2.1 (vl_gS hk) rfl rfl rfl ⟨hk.1.1, hk.1.2.1, hk.1.2.2⟩ ⟨by have := hC.2.2.2.2.2.2.1; show d' + 1 ≤ R.frames; omega, by have := hC.2.2.2.2.2.2.2.1; have := hk.2.1.2; show 8 + (K'.2.2.1 + 11) + 40 * d' ≤ R.locals; omega⟩)
    ⟨vl_blind, fun U hU hW => ⟨rfl, by rw [hU]; exact hR.1, hR.2.1, va_K.moved hW.alike hR.2.2.1, hR.2.2.2.2.to hR.2.2.2.1 hU hW.alike⟩⟩
    rfl (by rw [List.length_map]; exact hn) hl.1 (by simp [List.map_append, List.map_reverse]) (lv_room (vl_room hrm)) hd ⟨by have := hcs.1; omega, by have := hcs.2.1; omega⟩
  refine vl_after (B := fun v t => ∃ (r : Int) (μ' ρ' : vl_M), v = vl_rv K'.2.2.2 r ∧ Post' r μ' ρ' ∧ va_P D vwCl (vl_ws nc S cA ad μ' ρ') t.heap ∧ va_D A (vl_ws nc S cA ad μ' ρ')) hrun hR.2.2.2.1 (fun _ h => h) (fun st v t hq => ?_) (fun v t H1 locs1 ht hB hS1 => ?_)
  · obtain ⟨⟨r, μ', ρ', e1, e2, e3, e4⟩, hF⟩ := hq
    cases e1
    exact ⟨⟨r, μ', ρ', rfl, e2, e3, e4⟩, hF⟩
  · obtain ⟨r, μ', ρ', rfl, e2, e3, e4⟩ := hB
    rw [ht] at e3
    have := k r μ' ρ' e2 p l e R s m args below meth c H1 locs1 cells slots Q D cA ad A ls hC hcs ⟨e3, e4, hR.2.2.1, hS1, hR.2.2.2.2⟩ hl hret
    rw [vl_rvz] at this
    exact this
def vl_QcU (nc : Nat) (K : vl_K) (Post : Int → Nat → vl_Sh → vl_M → vl_M → Prop) (D : va_G) (cA : ClassId) (ad : Nat → Nat) (A : Nat → Prop) : Array Value → State → Outcome → State → Prop := fun _ st o t =>
  (∃ (r : Int) (nc' : Nat) (S' : vl_Sh) (μ' ρ' : vl_M) (ad' : Nat → Nat), o = .returned (vl_rv K.2.2.2 r) ∧ (∀ h, h < nc ∨ 100 ≤ h → ad' h = ad h) ∧ Post r nc' S' μ' ρ' ∧ va_P D vwCl (vl_ws nc' S' cA ad' μ' ρ') t.heap ∧ va_D A (vl_ws nc' S' cA ad' μ' ρ')) ∧ va_F A st t
def vl_BU (nc : Nat) (S : vl_Sh) (sc : Nat × (Nat → Int32)) (D : va_G) (cA : ClassId) (ad : Nat → Nat) (A : Nat → Prop) (μ ρ : vl_M) (U : State) : Prop := vl_B nc S sc D cA ad A μ ρ U ∧ ∀ q, U.heap.size ≤ q → A q
theorem vu_blind {D : va_G} {cA : ClassId} {ad : Nat → Nat} {A : Nat → Prop} {as : List Value} : FrameBlind (va_Pc as (vl_BU nc S sc D cA ad A μ ρ)) :=
  fun a U g mk q => ⟨q.1, ⟨q.2.1.1, q.2.1.2.1, va_K.moved (u := U) (U := U.calling g mk a) (Vm.Alike.refl U.vm) q.2.1.2.2.1, q.2.1.2.2.2.to (H := U.heap) va_S.rf rfl (Vm.Alike.refl U.vm)⟩, q.2.2⟩
set_option maxHeartbeats 1000000 in
theorem vu_met (l : Launch) (D : va_G) (cA : ClassId) (ad : Nat → Nat) (A : Nat → Prop) {K : vl_K} {d : Nat} {Post : Int → Nat → vl_Sh → vl_M → vl_M → Prop} {As : List Value} (hy : plainName K.1.cls = true) (hnone : K.2.2.2 = none) (hsl : (lg_sl As).length ≤ K.2.2.1) (hV : vl_U bc bs nc S sc K d Post 0 (lv_args 0 As) [] μ ρ) :
    Met l K.1 (Cond.code K.1 K.2.1 K.2.2.1 K.2.2.2 :: vl_tbl) ({ frames := d, cells := bc, slots := bs, locals := 40 * d }) (va_Pc (As.map (vl_rz ad)) (vl_BU nc S sc D cA ad A μ ρ)) (vl_QcU nc K Post D cA ad A) bc bs A := by
  refine Met.ofW (cc := K.2.1) (maxL := K.2.2.1) (ret := K.2.2.2) hy rfl ?_
  intro p e s m args below meth c s₁ B hml hv
  obtain ⟨rfl, ⟨hP, hD, hK, hRo⟩, hA⟩ := hv
  have hts0 := atoms_spec (ws := Cond.code K.1 K.2.1 K.2.2.1 K.2.2.2 :: vl_tbl) B.pre
  have hts : ∀ w ∈ vl_tbl, w.before (As.map (vl_rz ad)).toArray s = true := fun w hw => hts0 w (List.mem_cons_of_mem _ hw)
  have hown : s.vm.findClass K.1.cls = some m.cls := findClass_of_methodNamed B.named
  have hin : meth.name = K.1.name := (name_of_methodNamed B.named B.method).1
  have hlocks := B.notSynchronized
  have hx := B.exec
  have hb := B.bytes
  have hr := B.returns
  rw [lg_entry_eq]
  have hl := lv_entry (As.map (vl_rz ad)) (n := K.2.2.1) (by rw [vl_sl_len]; exact hsl)
  rw [vl_args_map] at hl
  refine hV p l e _ s m _ below meth c s.heap [] 0 0 _ D cA ad A _ ⟨hx, hb, hml, hown, hts, hr, Nat.le_refl d, Nat.le_refl _, hlocks⟩ ⟨by show 0 + bc ≤ bc; omega, by show 0 + bs ≤ bs; omega, hA, fun h => by rw [hin]; exact h⟩ ⟨hP, hD, hK, va_S.rf, hRo⟩ hl (fun r nc' S' μ' ρ' H' locs' pc' ls' ad' cells' slots' hx' hle hPost hR' hRt => ?_)
  have hq : ∀ t : State, t.heap = H' → s.WarmedH t.vm → vl_QcU nc K Post D cA ad A (As.map (vl_rz ad)).toArray s (.returned (vl_rv K.2.2.2 r)) t := fun t ht _ => ⟨⟨r, nc', S', μ', ρ', ad', rfl, hx', hPost, by rw [ht]; exact hR'.1, hR'.2.1⟩, hR'.2.2.2.1.F ht⟩
  have hf := hR'.2.2.2.1.2.2
  refine W.widen (k := bc) (n := bs) (by omega) (by omega) ?_
  unfold vl_Rt at hRt
  rw [hnone] at hRt hr hq
  have e1 : vl_rv K.2.2.2 r = none := by rw [hnone]; rfl
  rw [e1]
  exact W.vret hx hb hr hq hf hRt hlocks
theorem vu_after {p : Program} {l : Launch} {e : Env} {R : Room} {s : State} {m : MethodId} {args : Array Value} {below : List Frame} {meth : Method} {c : Code} {H : Heap} {locs : List Loc} {cells slots mc ms : Nat} {Q : State → Prop} {ls : Array Slot} {rest stk : List Value} {free : Addr → Prop} {A : Nat → Prop} {Qa : State → Outcome → State → Prop} {B : Option Value → State → Prop}
    (hr : va_Run p l e R s m args below meth c H locs cells slots mc ms (F0 m pc ls stk) rest Qa free) (hS : va_S A s.heap H locs) (hf : ∀ q, free q → A q) (hQ : ∀ st v t, Qa st (.returned v) t → B v t ∧ va_F A st t)
    (kk : ∀ (v : Option Value) (t : State) (H1 : Heap) (locs1 : List Loc), t.heap = H1 → B v t → va_S A s.heap H1 locs1 → W p l e R s m args below meth c H1 locs1 (cells + mc) (slots + ms) Q (F0 m (pc + 3) ls (v.toList ++ rest))) : W p l e R s m args below meth c H locs cells slots Q (F0 m pc ls stk) := by
  intro T hT X
  obtain ⟨v, st₀, t, T', L, h0, X', hL, e1, e2, hq, stp⟩ := hr T hT X
  obtain ⟨hb, hz, hk⟩ := hQ _ _ _ hq
  rw [h0] at hz hk
  obtain ⟨t2, a1, b1⟩ := kk v t T'.heap (locs ++ L) e1.symm hb
    ⟨Nat.le_trans hS.1 (by rw [e1]; exact hz), fun q h1 h2 => by rw [e1, hk q (Nat.lt_of_lt_of_le h1 hS.1) h2]; exact hS.2.1 q h1 h2, fun q hq => by
      rcases List.mem_append.mp hq with h | h
      · exact hS.2.2 q h
      · exact hf _ (hL q h)⟩ T' rfl X'
  exact ⟨t2, stp t2 a1, b1⟩
def vl_LkI (own : String) (idx : Nat) (K' : vl_K) (n : Nat) : Prop := (K'.1.cls ≠ "java/lang/invoke/MethodHandle" ∧ K'.1.cls ≠ "java/lang/invoke/VarHandle" ∧ (parseMethodDescriptor K'.1.desc).map (fun d => d.parameters.length) = some n) ∧ (plainName K'.1.cls = true ∧ K'.2.2.1 ≤ 21 ∧ K'.1.name = "<init>" ∧ K'.2.2.2 = none) ∧ Cond.methodLink own idx K'.1 ∈ vl_tbl ∧ Cond.instanceMethod K'.1 ∈ vl_tbl ∧ Cond.initialized K'.1.cls ∈ vl_tbl ∧ Cond.code K'.1 K'.2.1 K'.2.2.1 none ∈ vl_tbl
set_option maxHeartbeats 1000000 in
/-- a constructor is called -/
theorem vu_callI {K' : vl_K} {d' bc' bs' : Nat} {Post' : Int → Nat → vl_Sh → vl_M → vl_M → Prop} {h idx n : Nat} {As : List Value} (hk : vl_LkI K.1.cls idx K' n) (hd' : d' + 1 ≤ d) (hn : As.length = n) (hsl : (lg_sl (.ref h :: As)).length ≤ K'.2.2.1) (hst : st0 = As.reverse ++ .ref h :: st) (hrm : (st.map fun v => v.category).sum ≤ 8) (hlv : lv.all (fun q => vl_okv nc q.2) = true) (hsto : st.all (vl_okv nc) = true) (hd : decode K.2.1 pc = .ok (.invokespecial idx, 3))
    (hV : vl_U bc' bs' nc S sc K' d' Post' 0 (lv_args 0 (.ref h :: As)) [] μ ρ) (hnc : ∀ r nc' S' μ' ρ', Post' r nc' S' μ' ρ' → nc ≤ nc') (k : ∀ r nc' S' μ' ρ', Post' r nc' S' μ' ρ' → vl_U bc bs nc' S' sc K d Post (pc + 3) lv st μ' ρ') : vl_U (bc + bc') (bs + bs') nc S sc K d Post pc lv st0 μ ρ := by
  intro p l e R s m args below meth c H locs cells slots Q D cA ad A ls hC hcs hR hl hret
  subst hst
  obtain ⟨hk1, ⟨hk2, hk3, hk4, hk5⟩, hk6, hk7, hk8, hk9⟩ := hk
  have hM := vu_met l D cA ad A hk2 hk5 hsl hV
  rw [hk5] at hM
  have hrun := va_runI (p := p) (e := e) (R := R) (below := below) (meth := meth) (H := H) (locs := locs) (cells := cells) (slots := slots) (g := F0 m pc ls ((As.reverse ++ .ref h :: st).map (vl_rz ad))) (As := As.map (vl_rz ad)) (rest := st.map (vl_rz ad)) (b := ad h) ⟨hC.1, hC.2.1, hC.2.2.1, hC.2.2.2.1, hC.2.2.2.2.1⟩ hM
    (cwI n hC.2.2.2.2.1 (vl_goodc hk9) rfl rfl rfl (hC.2.2.2.2.1 _ hk8) (hC.2.2.2.2.1 _ hk6) (hC.2.2.2.2.1 _ hk7) hk4 hk1 ⟨by have := hC.2.2.2.2.2.2.1; show d' + 1 ≤ R.frames; omega, by have := hC.2.2.2.2.2.2.2.1; show 8 + (K'.2.2.1 + 11) + 40 * d' ≤ R.locals; omega⟩)
    ⟨vu_blind, fun U hU hW => ⟨rfl, ⟨by rw [hU]; exact hR.1, hR.2.1, va_K.moved hW.alike hR.2.2.1, hR.2.2.2.2.to hR.2.2.2.1 hU hW.alike⟩, fun q hq => hcs.2.2.1 q (Nat.le_trans hR.2.2.2.1.1 (by rw [← hU]; exact hq))⟩⟩
    rfl (by rw [List.length_map]; exact hn) hl.1 (by simp [List.map_append, List.map_reverse]; rfl) (lv_room (vl_room hrm)) hd ⟨by have := hcs.1; omega, by have := hcs.2.1; omega⟩
  refine vu_after (B := fun v t => ∃ (r : Int) (nc' : Nat) (S' : vl_Sh) (μ' ρ' : vl_M) (ad' : Nat → Nat), v = none ∧ (∀ h, h < nc ∨ 100 ≤ h → ad' h = ad h) ∧ Post' r nc' S' μ' ρ' ∧ va_P D vwCl (vl_ws nc' S' cA ad' μ' ρ') t.heap ∧ va_D A (vl_ws nc' S' cA ad' μ' ρ')) hrun hR.2.2.2.1 (fun _ h => h) (fun st v t hq => ?_) (fun v t H1 locs1 ht hB hS1 => ?_)
  · obtain ⟨⟨r, nc', S', μ', ρ', ad', e1, e2, e3, e4, e5⟩, hF⟩ := hq
    have e6 : vl_rv K'.2.2.2 r = none := by rw [hk5]; rfl
    rw [e6] at e1
    cases e1
    exact ⟨⟨r, nc', S', μ', ρ', ad', rfl, e2, e3, e4, e5⟩, hF⟩
  · obtain ⟨r, nc', S', μ', ρ', ad', rfl, e2, e3, e4, e5⟩ := hB
    rw [ht] at e4
    have hle := hnc _ _ _ _ _ e3
    have := k r nc' S' μ' ρ' e3 p l e R s m args below meth c H1 locs1 (cells + bc') (slots + bs') Q D cA ad' A ls hC ⟨by have := hcs.1; omega, by have := hcs.2.1; omega, hcs.2.2⟩ ⟨e4, e5, hR.2.2.1, hS1, vl_Ro_ext e2 hR.2.2.2.2⟩ (by rw [vl_lv_ext e2 hlv]; exact hl)
      (fun r nc'' S'' μ'' ρ'' H' locs' pc' ls' ad'' cells' slots' hx' hle' hPo hR' hRt => hret r nc'' S'' μ'' ρ'' H' locs' pc' ls' ad'' cells' slots' (fun h hh => by rw [hx' h (by omega), e2 h hh]) (by omega) hPo hR' hRt)
    rw [vl_st_ext e2 hsto] at this
    exact this
end VUC
