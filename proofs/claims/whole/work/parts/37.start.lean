/-! from the pure theorem (fn_L_start answers 1) to the law's walk -/
def vl_pure : Prop := ∀ sc : Nat × (Nat → Int32), sc.1 ≤ 3074 → ∃ w N : Nat, w ≤ 11 ∧ fn_L_start sc w N (fun _ _ => 0) (fun _ _ => 0) = some 1
theorem vl_known {args : Array Value} {s : State} (hts : ∀ w ∈ vl_tbl, w.before args s = true) : ∃ (D : va_G), ∀ (c : Nat) (q : vw_C), vwCl[c]? = some q → u_Kn s q.1 q.2.1 q.2.2 (D.1 c) (D.2 c) := by
  obtain ⟨c0, i0, k0⟩ := u_known (C := RX0) (T := TX0) (N := 2) (n := 2) hts iu_X0 (hts _ in_X0)
  obtain ⟨c1, i1, k1⟩ := u_known (C := RX1) (T := TX1) (N := 4) (n := 4) hts iu_X1 (hts _ in_X1)
  obtain ⟨c2, i2, k2⟩ := u_known (C := RX2) (T := TX2) (N := 7) (n := 7) hts iu_X2 (hts _ in_X2)
  obtain ⟨c3, i3, k3⟩ := u_known (C := RX3) (T := TX3) (N := 5) (n := 5) hts iu_X3 (hts _ in_X3)
  obtain ⟨c4, i4, k4⟩ := u_known (C := RX4) (T := TX4) (N := 17) (n := 17) hts iu_X4 (hts _ in_X4)
  obtain ⟨c5, i5, k5⟩ := u_known (C := RX5) (T := TX5) (N := 10) (n := 10) hts iu_X5 (hts _ in_X5)
  obtain ⟨c6, i6, k6⟩ := u_known (C := RX6) (T := TX6) (N := 7) (n := 7) hts iu_X6 (hts _ in_X6)
  obtain ⟨c7, i7, k7⟩ := u_known (C := RX7) (T := TX7) (N := 6) (n := 6) hts iu_X7 (hts _ in_X7)
  obtain ⟨c8, i8, k8⟩ := u_known (C := RX8) (T := TX8) (N := 41) (n := 41) hts iu_X8 (hts _ in_X8)
  refine ⟨(fun k => [c0, c1, c2, c3, c4, c5, c6, c7, c8].getD k c0, fun k => [i0, i1, i2, i3, i4, i5, i6, i7, i8].getD k i0), fun c q hq => ?_⟩
  match c, hq with
  | 0, hq => cases hq; exact k0
  | 1, hq => cases hq; exact k1
  | 2, hq => cases hq; exact k2
  | 3, hq => cases hq; exact k3
  | 4, hq => cases hq; exact k4
  | 5, hq => cases hq; exact k5
  | 6, hq => cases hq; exact k6
  | 7, hq => cases hq; exact k7
  | 8, hq => cases hq; exact k8
  | k + 9, hq => simp [vwCl] at hq
theorem vl_gapsAt {b : Nat} {s : State} {A : Nat → Prop} (hts : ∀ w ∈ lw_tbl, w.before #[Value.ref b] s = true) (hgv : (Jvm.Cond.and given_1 narrow_1).before #[Value.ref b] s = true) (hA : ∀ a : Nat, a < s.heap.size → ¬ A a) : ∃ t : Nat, va_Z "AreaTree$Packer" "GAPS" "[I" (.ref t) A s s.heap ∧ va_T .int t 5 vl_gp A s s.heap := by
  have hs := flat_of_before _ hgv
  have ha : (Cond.arrayOf (.static "AreaTree$Packer" "GAPS" "[I") .int).before #[Value.ref b] s = true := hs _ (by decide +kernel)
  have hl := va_eqt (hs (Cond.eq (.length (.static "AreaTree$Packer" "GAPS" "[I")) (.int 5)) (by decide +kernel))
  have e0 := va_eqt (hs (Cond.eq (.elem (.static "AreaTree$Packer" "GAPS" "[I") (.int 0)) (.int 121)) (by decide +kernel))
  have e1 := va_eqt (hs (Cond.eq (.elem (.static "AreaTree$Packer" "GAPS" "[I") (.int 1)) (.int 40)) (by decide +kernel))
  have e2 := va_eqt (hs (Cond.eq (.elem (.static "AreaTree$Packer" "GAPS" "[I") (.int 2)) (.int 13)) (by decide +kernel))
  have e3 := va_eqt (hs (Cond.eq (.elem (.static "AreaTree$Packer" "GAPS" "[I") (.int 3)) (.int 4)) (by decide +kernel))
  have e4 := va_eqt (hs (Cond.eq (.elem (.static "AreaTree$Packer" "GAPS" "[I") (.int 4)) (.int 1)) (by decide +kernel))
  obtain ⟨t, h1, h2⟩ := va_Tof (N := 5) (f := vl_gp) (A := A) (by decide) ha hl (fun j hj => by
    rcases (by omega : j = 0 ∨ j = 1 ∨ j = 2 ∨ j = 3 ∨ j = 4) with rfl | rfl | rfl | rfl | rfl
    · exact e0
    · exact e1
    · exact e2
    · exact e3
    · exact e4) hA
  exact ⟨t, va_Zref (hts (.laysStatic "AreaTree$Packer" "GAPS" "[I") (by decide +kernel)) (hts (.initialized "AreaTree$Packer") (by decide +kernel)) h1 hA, h2⟩
set_option maxHeartbeats 4000000 in
set_option maxRecDepth 100000 in
theorem vl_whole (hpure : vl_pure) {p : Program} {e : Env} {s : State} {m : MethodId} {below : List Frame} {meth : Method} {c : Code} (l : Launch) {b L : Nat} {xs : Nat → Int32} (hL : L ≤ 3074) (C0 : lw_At p s m meth c b L xs) : W p l e room_1 s m #[Value.ref b] below meth c s.heap [] 0 0 (lw_Z below #[Value.ref b] s) (entryFrame m ([Value.ref b] : List Value).toArray 4) := by
  obtain ⟨hx, hb, hr, hml, hown, hts, hX, hbl, hlocks, hgv⟩ := C0
  obtain ⟨w, N, hw, hE⟩ := hpure (L, xs) hL
  have hts' : ∀ w ∈ vl_tbl, w.before #[Value.ref b] s = true := fun w hw => hts w (List.mem_filter.mp hw).1
  obtain ⟨D, hD⟩ := vl_known hts'
  obtain ⟨cA, kA, comp, hA1, hA2, hA3⟩ := Cond.arrayClass_spec (hts' _ ar_c)
  have hAA : ∀ a : Nat, a < s.heap.size → ¬ (fun q : Nat => s.heap.size ≤ q) a := fun a h => Nat.not_le.mpr h
  obtain ⟨t, hZ, hT⟩ := vl_gapsAt (A := fun q : Nat => s.heap.size ≤ q) hts hgv hAA
  have hl := lv_entry ([.ref b]) (n := 4) (Nat.le_of_ble_eq_true rfl)
  rw [lg_entry_eq]
  refine vc_L_start (sc := (L, xs)) (by show L ≤ 2147483648; omega) hw (d := 2048) (by decide) (P := fun a => a = 1) ⟨1, hE, rfl⟩ p l e room_1 s m _ below meth c s.heap [] 0 0 _ D cA (fun h => if h = 100 then t else b) (fun q : Nat => s.heap.size ≤ q) _
    ⟨hx, hb, hml, hown, hts', hr, by decide, by decide, hlocks⟩ ⟨by show _ ≤ 600000; omega, by show _ ≤ 7302250; omega, fun _ h => h, fun h => absurd h (by decide)⟩
    ⟨fun k q h => by simp [vl_ws] at h, ⟨fun i j p q h => by simp [vl_ws] at h, fun k q h => by simp [vl_ws] at h⟩, ⟨hD, fun k q hk => ?_⟩, va_S.rf, hX, hbl, hAA b hbl, hZ, hT⟩ hl ?_
  · match k, hk with
    | 0, hk => cases hk; exact ⟨fun n z => ⟨fun k q => (by cases q), kA, hA2, comp, hA3⟩, hA1⟩
    | k + 1, hk => simp at hk
  · intro a nc' S' μ' ρ' H' locs' pc' ls' ad' cells' slots' hx' hle hP hR' hRt
    subst hP
    refine va_forget (fun q hq => hR'.2.2.2.1.2.2 q hq) ?_
    refine W.widen (k := 600000) (n := 7302250) (by omega) (by omega) ?_
    exact lw_ret hx hb hr hlocks hRt.1
