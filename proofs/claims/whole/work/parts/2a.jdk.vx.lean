set_option maxRecDepth 100000 in
set_option maxHeartbeats 4000000 in
theorem vx_J6_compare_7cf53 {nc : Nat} {S : vl_Sh} {sc : Nat × (Nat → Int32)} {d : Nat} (hd : 0 ≤ d) {Post : Int → vl_M → vl_M → Prop} {m ρ : vl_M} {a0 a1 : Int} (hE : vl_ok (fun r : Int => Post r m ρ) (fn_J6_compare_7cf53  a0 a1)) : vl_V nc S sc kJ6_compare_7cf53 d Post 0 [(0, vl_iv a0), (1, vl_iv a1)] [] m ρ := by
  generalize hP : (fun r : Int => Post r m ρ) = P at hE
  have hP' : ∀ r : Int, P r → Post r m ρ := fun b h => by rw [← hP] at h; exact h
  clear hP
  unfold fn_J6_compare_7cf53 at hE
  refine vl_iload_n 0 rfl dJ6_compare_7cf53_0 ?_
  refine vl_iload_n 1 rfl dJ6_compare_7cf53_1 ?_
  obtain ⟨g1, hE⟩ := vl_ok_gd hE
  obtain ⟨g2, hE⟩ := vl_ok_gd hE
  refine vl_icmp_ge (tgt := 9) dJ6_compare_7cf53_2 (by decide) g1 g2 hE (fun c4 hE => ?_) (fun c4 hE => ?_)
  · refine vl_iload_n 0 rfl dJ6_compare_7cf53_9 ?_
    refine vl_iload_n 1 rfl dJ6_compare_7cf53_10 ?_
    refine vl_icmp_ne (tgt := 18) dJ6_compare_7cf53_11 (by decide) g1 g2 hE (fun c3 hE => ?_) (fun c3 hE => ?_)
    · refine vl_iconst dJ6_compare_7cf53_18 ?_
      exact vl_ret (r := 1) rfl dJ6_compare_7cf53_19 hE (hP' (1))
    · refine vl_iconst dJ6_compare_7cf53_14 ?_
      refine vl_goto (tgt := 19) dJ6_compare_7cf53_15 (by decide) ?_
      exact vl_ret (r := 0) rfl dJ6_compare_7cf53_19 hE (hP' (0))
  · refine vl_iconst dJ6_compare_7cf53_5 ?_
    refine vl_goto (tgt := 19) dJ6_compare_7cf53_6 (by decide) ?_
    exact vl_ret (r := (-1)) rfl dJ6_compare_7cf53_19 hE (hP' (-1))
