section VUX
variable {bc bs nc : Nat} {S : vl_Sh} {sc : Nat × (Nat → Int32)} {K : vl_K} {d : Nat} {Post : Int → Nat → vl_Sh → vl_M → vl_M → Prop} {pc : Nat} {lv : List (Nat × Value)} {st st0 : List Value} {μ ρ : vl_M}
theorem vu_VcWV {α : Type} {P : α → Prop} {F : Option vl_M} {G : vl_M → Option α} {K' : vl_K} {d' h ci idx n : Nat} {cs : List Nat} {As : List Value} {C : String} {T : u_T} {N : Nat} (hk : vl_LkV K.1.cls idx K' C n) (hrt : ∀ r, vl_rv K'.2.2.2 r = none) (hd' : d' + 1 ≤ d) (hh : h < nc) (hS : S h = .inr (ci, cs)) (hci : vwCl[ci]? = some (C, T, N)) (hn : As.length = n) (hsl : (lg_sl (.ref h :: As)).length ≤ K'.2.2.1) (hst : st0 = As.reverse ++ .ref h :: st) (hrm : (st.map fun v => v.category).sum ≤ 8) (hd : decode K.2.1 pc = .ok (.invokevirtual idx, 3)) (hE : vl_ok P (F.bind G))
    (hv : ∀ Post', vl_ok (fun b => Post' (0 : Int) b ρ) F → vl_V nc S sc K' d' Post' 0 (lv_args 0 (.ref h :: As)) [] μ ρ) (k : ∀ b, vl_ok P (G b) → vl_U bc bs nc S sc K d Post (pc + 3) lv st b ρ) : vl_U bc bs nc S sc K d Post pc lv st0 μ ρ := by
  obtain ⟨b, h1, h2⟩ := vl_bind hE
  refine vu_callV hk hd' hh hS hci hn hsl hst hrm hd (hv (fun r m1 m2 => r = 0 ∧ m1 = b ∧ m2 = ρ) ⟨b, h1, rfl, rfl, rfl⟩) (fun r m1 m2 q => ?_)
  obtain ⟨e1, e2, e3⟩ := q
  rw [e1, e2, e3, hrt]
  exact k b h2
theorem vu_VrWI {α : Type} {P : α → Prop} {F : Option (Int × vl_M)} {G : Int → vl_M → Option α} {K' : vl_K} {d' h ci idx n : Nat} {cs : List Nat} {As : List Value} {C : String} {T : u_T} {N : Nat} (hk : vl_LkV K.1.cls idx K' C n) (hrt : ∀ r, vl_rv K'.2.2.2 r = some (vl_iv r)) (hd' : d' + 1 ≤ d) (hh : h < nc) (hS : S h = .inr (ci, cs)) (hci : vwCl[ci]? = some (C, T, N)) (hn : As.length = n) (hsl : (lg_sl (.ref h :: As)).length ≤ K'.2.2.1) (hst : st0 = As.reverse ++ .ref h :: st) (hrm : (st.map fun v => v.category).sum ≤ 8) (hd : decode K.2.1 pc = .ok (.invokevirtual idx, 3)) (hE : vl_ok P (F.bind (vl_un G)))
    (hv : ∀ Post', vl_ok (fun b => Post' b.1 μ b.2) F → vl_V nc S sc K' d' Post' 0 (lv_args 0 (.ref h :: As)) [] μ ρ) (k : ∀ r m', vl_ok P (G r m') → vl_U bc bs nc S sc K d Post (pc + 3) lv (vl_iv r :: st) μ m') : vl_U bc bs nc S sc K d Post pc lv st0 μ ρ := by
  obtain ⟨b, h1, h2⟩ := vl_bind hE
  refine vu_callV hk hd' hh hS hci hn hsl hst hrm hd (hv (fun r m1 m2 => r = b.1 ∧ m1 = μ ∧ m2 = b.2) ⟨b, h1, rfl, rfl, rfl⟩) (fun r m1 m2 q => ?_)
  obtain ⟨e1, e2, e3⟩ := q
  rw [e1, e2, e3, hrt]
  exact k b.1 b.2 h2
theorem vu_SpI {α : Type} {P : α → Prop} {F : Option Int} {G : Int → Option α} {K' : vl_K} {d' idx n : Nat} {As : List Value} (hk : vl_LkS K.1.cls idx K' n) (hrt : ∀ r, vl_rv K'.2.2.2 r = some (vl_iv r)) (hd' : d' + 1 ≤ d) (hn : As.length = n) (hsl : (lg_sl As).length ≤ K'.2.2.1) (hst : st0 = As.reverse ++ st) (hrm : (st.map fun v => v.category).sum ≤ 8) (hd : decode K.2.1 pc = .ok (.invokestatic idx, 3)) (hE : vl_ok P (F.bind G))
    (hv : ∀ Post', vl_ok (fun b => Post' b μ ρ) F → vl_V nc S sc K' d' Post' 0 (lv_args 0 As) [] μ ρ) (k : ∀ b, vl_ok P (G b) → vl_U bc bs nc S sc K d Post (pc + 3) lv (vl_iv b :: st) μ ρ) : vl_U bc bs nc S sc K d Post pc lv st0 μ ρ := by
  obtain ⟨b, h1, h2⟩ := vl_bind hE
  refine vu_callS hk hd' hn hsl hst hrm hd (hv (fun r m1 m2 => r = b ∧ m1 = μ ∧ m2 = ρ) ⟨b, h1, rfl, rfl, rfl⟩) (fun r m1 m2 q => ?_)
  obtain ⟨e1, e2, e3⟩ := q
  rw [e1, e2, e3, hrt]
  exact k b h2
theorem vu_retE {α : Type} {P : α → Prop} {a : α} {r : Int} {st' : List Value} (hst : st' = (vl_rv K.2.2.2 r).toList) (hd : vl_Rt K pc r) (hE : vl_ok P (some a)) (hP : P a → Post r nc S μ ρ) : vl_U bc bs nc S sc K d Post pc lv st' μ ρ := by
  obtain ⟨b, h1, h2⟩ := hE
  cases h1
  exact vu_ret hst hd (hP h2)
/-- constructors of the class's side and of the reference's: a function of the memory; the world behind them has nc' cells of the shapes S' -/
theorem vu_Ic {α : Type} {P : α → Prop} {F : Option vl_M} {G : vl_M → Option α} {K' : vl_K} {d' bc' bs' nc' : Nat} {S' : vl_Sh} {h idx n : Nat} {As : List Value} (hk : vl_LkI K.1.cls idx K' n) (hd' : d' + 1 ≤ d) (hle : nc ≤ nc') (hn : As.length = n) (hsl : (lg_sl (.ref h :: As)).length ≤ K'.2.2.1) (hst : st0 = As.reverse ++ .ref h :: st) (hrm : (st.map fun v => v.category).sum ≤ 8) (hlv : lv.all (fun q => vl_okv nc q.2) = true) (hsto : st.all (vl_okv nc) = true) (hd : decode K.2.1 pc = .ok (.invokespecial idx, 3)) (hE : vl_ok P (F.bind G))
    (hv : ∀ Q : vl_M → Prop, vl_ok Q F → vl_U bc' bs' nc S sc K' d' (fun _ c' T' m1 m2 => c' = nc' ∧ T' = S' ∧ m2 = ρ ∧ Q m1) 0 (lv_args 0 (.ref h :: As)) [] μ ρ) (k : ∀ b, vl_ok P (G b) → vl_U bc bs nc' S' sc K d Post (pc + 3) lv st b ρ) : vl_U (bc + bc') (bs + bs') nc S sc K d Post pc lv st0 μ ρ := by
  obtain ⟨b, h1, h2⟩ := vl_bind hE
  refine vu_callI hk hd' hn hsl hst hrm hlv hsto hd (hv (fun m => m = b) ⟨b, h1, rfl⟩) (fun r c' T' m1 m2 q => by rw [q.1]; exact hle) (fun r c' T' m1 m2 q => ?_)
  obtain ⟨e1, e2, e3, e4⟩ := q
  rw [e1, e2, e3, e4]
  exact k b h2
theorem vu_Ir {α : Type} {P : α → Prop} {F : Option vl_M} {G : vl_M → Option α} {K' : vl_K} {d' bc' bs' nc' : Nat} {S' : vl_Sh} {h idx n : Nat} {As : List Value} (hk : vl_LkI K.1.cls idx K' n) (hd' : d' + 1 ≤ d) (hle : nc ≤ nc') (hn : As.length = n) (hsl : (lg_sl (.ref h :: As)).length ≤ K'.2.2.1) (hst : st0 = As.reverse ++ .ref h :: st) (hrm : (st.map fun v => v.category).sum ≤ 8) (hlv : lv.all (fun q => vl_okv nc q.2) = true) (hsto : st.all (vl_okv nc) = true) (hd : decode K.2.1 pc = .ok (.invokespecial idx, 3)) (hE : vl_ok P (F.bind G))
    (hv : ∀ Q : vl_M → Prop, vl_ok Q F → vl_U bc' bs' nc S sc K' d' (fun _ c' T' m1 m2 => c' = nc' ∧ T' = S' ∧ m1 = μ ∧ Q m2) 0 (lv_args 0 (.ref h :: As)) [] μ ρ) (k : ∀ b, vl_ok P (G b) → vl_U bc bs nc' S' sc K d Post (pc + 3) lv st μ b) : vl_U (bc + bc') (bs + bs') nc S sc K d Post pc lv st0 μ ρ := by
  obtain ⟨b, h1, h2⟩ := vl_bind hE
  refine vu_callI hk hd' hn hsl hst hrm hlv hsto hd (hv (fun m => m = b) ⟨b, h1, rfl⟩) (fun r c' T' m1 m2 q => by rw [q.1]; exact hle) (fun r c' T' m1 m2 q => ?_)
  obtain ⟨e1, e2, e3, e4⟩ := q
  rw [e1, e2, e3, e4]
  exact k b h2
theorem vl_us_us (S : vl_Sh) (h : Nat) (x y : Nat ⊕ (Nat × List Nat)) : vl_us (vl_us S h x) h y = vl_us S h y := by
  funext k
  unfold vl_us
  by_cases hk : k = h
  · simp [hk]
  · simp [hk]
theorem vu_putR {T : u_T} {ty0 : Nat → FieldType} {N ci h h2 k0 c0 index : Nat} {cs : List Nat} {C : String} (cs' : List Nat) (hin : ∀ w ∈ u_ws C T N, w ∈ vl_tbl) (hty : ∀ k, k < N → parseFieldDescriptor (T k).2.2.1 = some (ty0 k)) (hnm : ∀ a, a < N → ∀ b, b < N → a ≠ b → (T a).2.1 ≠ (T b).2.1) (hh : h < nc) (hc : vwCl[ci]? = some (C, T, N)) (hk : k0 < N) (hlink : Cond.fieldLink K.1.cls index (T k0).1 (T k0).2.1 (T k0).2.2.1 ∈ vl_tbl) (hfin : (T k0).2.2.2 = true) (hK0 : K.1.name = "<init>" ∧ (T k0).1 = K.1.cls) (hk0 : cs[k0]? = some c0) (hi : (∃ n, ty0 k0 = .object n) ∨ ∃ t, ty0 k0 = .array t) (hcs : cs.set k0 (h2 + 3) = cs')
    (hd : decode K.2.1 pc = .ok (.putfield index, 3)) (k : vl_U bc bs nc (vl_us S h (.inr (ci, cs'))) sc K d Post (pc + 3) lv st μ ρ) : vl_U bc bs nc (vl_us S h (.inr (ci, cs))) sc K d Post pc lv (.ref h2 :: .ref h :: st) μ ρ := by
  refine vu_putFR hin hty hnm hh (if_pos rfl) hc hk hlink hfin hK0 hk0 hi hd ?_
  rw [vl_us_us, hcs]
  exact k
theorem vu_drop {h : Nat} {x : Nat ⊕ (Nat × List Nat)} (hx : S h = x) (k : vl_U bc bs nc S sc K d Post pc lv st μ ρ) : vl_U bc bs nc (vl_us S h x) sc K d Post pc lv st μ ρ := by
  have e : vl_us S h x = S := by
    funext k
    unfold vl_us
    by_cases hk : k = h
    · simp [hk, hx]
    · simp [hk]
  rw [e]
  exact k
theorem vl_g_zc {h : Nat} (hh : h < 23) (k : Nat) (j : Int) : vl_g (vl_z μ h) ρ k j = if k = h then 0 else vl_g μ ρ k j := by
  unfold vl_g vl_z
  by_cases hk : k < 23
  · simp [hk]
  · have : ¬ k = h := by omega
    simp [hk, this]
theorem vl_g_zr {h : Nat} (hh : 23 ≤ h) (k : Nat) (j : Int) : vl_g μ (vl_z ρ h) k j = if k = h then 0 else vl_g μ ρ k j := by
  unfold vl_g vl_z
  by_cases hk : k < 23
  · have : ¬ k = h := by omega
    simp [hk, this]
  · simp [hk]
theorem vl_sd_w (w : Nat) {h : Nat} (h1 : 23 ≤ h) (h2 : h < 47) : vl_sd w h = vl_sd 0 h := by
  have q : h = 23 ∨ h = 24 ∨ h = 25 ∨ h = 26 ∨ h = 27 ∨ h = 28 ∨ h = 29 ∨ h = 30 ∨ h = 31 ∨ h = 32 ∨ h = 33 ∨ h = 34 ∨ h = 35 ∨ h = 36 ∨ h = 37 ∨ h = 38 ∨ h = 39 ∨ h = 40 ∨ h = 41 ∨ h = 42 ∨ h = 43 ∨ h = 44 ∨ h = 45 ∨ h = 46 := by omega
  rcases q with rfl | rfl | rfl | rfl | rfl | rfl | rfl | rfl | rfl | rfl | rfl | rfl | rfl | rfl | rfl | rfl | rfl | rfl | rfl | rfl | rfl | rfl | rfl | rfl <;> rfl
end VUX
