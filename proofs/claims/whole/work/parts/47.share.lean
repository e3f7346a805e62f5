/-! ===== PURE, 8: the class's share of a node too full ===== -/
/-- where the share stands: A and B have come, rest is left -/
def sh_I (w : Nat) (m0 m : vl_M) (s fr : Int) (ts : Int → Int) (f : Int → pR) (A B rest : List Int) : Prop :=
  ((∀ h : Nat, (h < 3 ∨ h = 7 ∨ 10 < h) → h ≠ 14 → h ≠ 15 → m h = m0 h) ∧ (m 14 2 = (rest.length : Int) ∧ ∀ (i : Nat) x, rest[i]? = some x → m 15 (i : Int) = ts x)) ∧
  ((m 9 s = (A.length : Int) ∧ m 9 fr = (B.length : Int)) ∧ ∀ u, u ≠ s → u ≠ fr → m 9 u = m0 9 u) ∧
  (((∀ (i : Nat) x, A[i]? = some x → c_k w m s (i : Int) = ts x) ∧ (∀ (i : Nat) x, B[i]? = some x → c_k w m fr (i : Int) = ts x)) ∧ ∀ u i, u ≠ s → u ≠ fr → 0 ≤ i → i < (w : Int) → c_k w m u i = c_k w m0 u i) ∧
  (((A ≠ [] → c_rt m s = mbl f A) ∧ (B ≠ [] → c_rt m fr = mbl f B)) ∧ ∀ u, u ≠ s → u ≠ fr → c_rt m u = c_rt m0 u) ∧
  (((∀ x, x ∈ A → m 8 (ts x) = s) ∧ (∀ x, x ∈ B → m 8 (ts x) = fr)) ∧ ∀ u, (∀ x, x ∈ A → u ≠ ts x) → (∀ x, x ∈ B → u ≠ ts x) → m 8 u = m0 8 u)
theorem sh_sym {w : Nat} {m0 m : vl_M} {s fr : Int} {ts : Int → Int} {f : Int → pR} {A B rest : List Int} (h : sh_I w m0 m s fr ts f A B rest) : sh_I w m0 m fr s ts f B A rest := by
  obtain ⟨h1, ⟨⟨a1, a2⟩, a3⟩, ⟨⟨b1, b2⟩, b3⟩, ⟨⟨c1, c2⟩, c3⟩, ⟨d1, d2⟩, d3⟩ := h
  exact ⟨h1, ⟨⟨a2, a1⟩, fun u x y => a3 u y x⟩, ⟨⟨b2, b1⟩, fun u i x y => b3 u i y x⟩, ⟨⟨c2, c1⟩, fun u x y => c3 u y x⟩, ⟨d2, d1⟩, fun u x y => d3 u y x⟩
theorem sh_tk {w N : Nat} {m0 m : vl_M} {s fr : Int} {ts : Int → Int} {f : Int → pR} {A B rest : List Int} {p : Nat} (hN : 100000 ≤ N) (hw : w ≤ 11) (hr : rest.length ≤ w) (hp : p < rest.length) (h : sh_I w m0 m s fr ts f A B rest) :
    fn_X3_takeLeft w N m (p : Int) = some (ts (rest.getD p 0), c_tk m (p : Int)) ∧ sh_I w m0 (c_tk m (p : Int)) s fr ts f A B (rest.eraseIdx p) := by
  obtain ⟨⟨h1, h2, h3⟩, ⟨⟨a1, a2⟩, a3⟩, ⟨⟨b1, b2⟩, b3⟩, ⟨⟨c1, c2⟩, c3⟩, ⟨d1, d2⟩, d3⟩ := h
  have hx : rest[p]? = some (rest.getD p 0) := by simp [List.getD, hp]
  have e (h : Nat) (q1 : h ≠ 14) (q2 : h ≠ 15) : c_tk m (p : Int) h = m h := c_tk_h m _ q1 q2
  have ek : ∀ u i, c_k w (c_tk m (p : Int)) u i = c_k w m u i := fun u i => by unfold c_k; rw [e 10 (by decide) (by decide)]
  have er : ∀ u, c_rt (c_tk m (p : Int)) u = c_rt m u := fun u => c_rt_congr (e 3 (by decide) (by decide)) (e 4 (by decide) (by decide)) (e 5 (by decide) (by decide)) (e 6 (by decide) (by decide))
  have e8 := e 8 (by decide) (by decide)
  have e9 := e 9 (by decide) (by decide)
  refine ⟨by rw [c_takeLeft hN hw ⟨by omega, by omega⟩ (by omega), h3 p _ hx], ⟨fun h q1 q2 q3 => by rw [e h q2 q3]; exact h1 h q1 q2 q3, ?_, ?_⟩, ⟨⟨by rw [e9]; exact a1, by rw [e9]; exact a2⟩, fun u x y => by rw [e9]; exact a3 u x y⟩, ⟨⟨fun i x q => by rw [ek]; exact b1 i x q, fun i x q => by rw [ek]; exact b2 i x q⟩, fun u i x y z t => by rw [ek]; exact b3 u i x y z t⟩, ⟨⟨fun q => by rw [er]; exact c1 q, fun q => by rw [er]; exact c2 q⟩, fun u x y => by rw [er]; exact c3 u x y⟩, ⟨fun x q => by rw [e8]; exact d1 x q, fun x q => by rw [e8]; exact d2 x q⟩, fun u x y => by rw [e8]; exact d3 u x y⟩
  · have : c_tk m (p : Int) 14 2 = m 14 2 - 1 := by simp [c_tk]
    rw [this, h2, List.length_eraseIdx_of_lt hp]
    omega
  · intro i x q
    rw [List.getElem?_eraseIdx] at q
    have hi : i < (rest.eraseIdx p).length := by
      by_cases c : i < p
      · rw [List.length_eraseIdx_of_lt hp]; omega
      · rw [if_neg c] at q
        have := (List.getElem?_eq_some_iff.mp q).1
        rw [List.length_eraseIdx_of_lt hp]; omega
    rw [List.length_eraseIdx_of_lt hp] at hi
    unfold c_tk
    by_cases c : i < p
    · rw [if_pos c] at q
      rw [if_neg (by omega), if_neg (by omega)]
      exact h3 i x q
    · rw [if_neg c] at q
      rw [if_neg (by omega), if_pos ⟨rfl, by omega, by omega⟩]
      have := h3 (i + 1) x q
      rw [← this]
      congr 1
/-- what must hold of the things that are shared -/
def sh_ok (w : Nat) (m0 : vl_M) (s fr : Int) (ts : Int → Int) (f : Int → pR) (K : List Int) : Prop :=
  (K.length ≤ w ∧ c_nd s ∧ c_nd fr ∧ s ≠ fr) ∧ (∀ x, x ∈ K → c_in (ts x) ∧ ts x ≠ s ∧ ts x ≠ fr ∧ c_rt m0 (ts x) = f x ∧ r_ok (f x)) ∧ (∀ x y, x ∈ K → y ∈ K → ts x = ts y → x = y)
theorem sh_ok_sym {w : Nat} {m0 : vl_M} {s fr : Int} {ts : Int → Int} {f : Int → pR} {K : List Int} (h : sh_ok w m0 s fr ts f K) : sh_ok w m0 fr s ts f K := by
  obtain ⟨⟨a, b, c, d⟩, e, g⟩ := h
  exact ⟨⟨a, c, b, Ne.symm d⟩, fun x hx => by obtain ⟨q1, q2, q3, q4⟩ := e x hx; exact ⟨q1, q3, q2, q4⟩, g⟩
theorem sh_toA {w N : Nat} {m0 m : vl_M} {s fr : Int} {ts : Int → Int} {f : Int → pR} {K A B rest : List Int} {x : Int} (hw : c_w w N m0) (hk : sh_ok w m0 s fr ts f K) (hA : ∀ y, y ∈ A → y ∈ K) (hB : ∀ y, y ∈ B → y ∈ K) (hx : x ∈ K) (hxA : x ∉ A) (hxB : x ∉ B) (hl : A.length < w) (hBl : B.length ≤ w) (h : sh_I w m0 m s fr ts f A B rest) :
    ∃ m', fn_X4_attach w N m s (ts x) = some m' ∧ sh_I w m0 m' s fr ts f (A ++ [x]) B rest := by
  obtain ⟨⟨k1, k2, k3, k4⟩, k5, k6⟩ := hk
  obtain ⟨⟨h1, h2, h3⟩, ⟨⟨a1, a2⟩, a3⟩, ⟨⟨b1, b2⟩, b3⟩, ⟨⟨c1, c2⟩, c3⟩, ⟨d1, d2⟩, d3⟩ := h
  obtain ⟨x1, x2, x3, x4, x5⟩ := k5 x hx
  have et : c_rt m (ts x) = f x := by rw [c3 _ x2 x3, x4]
  have hw5 := hw.1
  have hw11 := hw.2.1
  have hwm : c_w w N m := c_w_of hw (h1 1 (by omega) (by decide) (by decide))
  have okA : A ≠ [] → r_ok (c_rt m s) := fun q => by rw [c1 q]; exact mbl_ok A q (fun y hy => (k5 y (hA y hy)).2.2.2.2)
  have nA : m 9 s ≠ 0 → A ≠ [] := fun q z => by rw [a1, z] at q; exact q rfl
  have at_ := c_attach hwm k2 x1 (by omega) (by omega) (by rw [et]; exact x5) (fun q => okA (nA q))
  refine ⟨_, at_, ?_⟩
  generalize hq : (if m 9 s = 0 then c_rt m (ts x) else r_cv (c_rt m s) (c_rt m (ts x))) = q
  have eq : mbl f (A ++ [x]) = q := by
    rw [mbl_app, ← hq, et]
    by_cases z : A = []
    · rw [if_pos z, if_pos (by rw [a1, z]; rfl)]
    · rw [if_neg z, if_neg (by rw [a1]; intro y; exact z (List.length_eq_zero_iff.mp (by omega))), c1 z]
  have e (h : Nat) (q1 : h < 3 ∨ h = 7 ∨ 10 < h) : c_ins w (c_set m s q) s (m 9 s) (ts x) h = m h := by
    rw [c_ins_h _ _ _ _ _ (by omega) (by omega) (by omega), c_set_h _ _ _ (by omega) (by omega) (by omega) (by omega)]
  have es (h : Nat) (q1 : h = 8 ∨ h = 9 ∨ h = 10) : c_set m s q h = m h := c_set_h _ _ _ (by omega) (by omega) (by omega) (by omega)
  have er : ∀ u, c_rt (c_ins w (c_set m s q) s (m 9 s) (ts x)) u = c_rt (c_set m s q) u := fun u => c_rt_congr (c_ins_h _ _ _ _ _ (by decide) (by decide) (by decide)) (c_ins_h _ _ _ _ _ (by decide) (by decide) (by decide)) (c_ins_h _ _ _ _ _ (by decide) (by decide) (by decide)) (c_ins_h _ _ _ _ _ (by decide) (by decide) (by decide))
  have e9 : ∀ u, c_ins w (c_set m s q) s (m 9 s) (ts x) 9 u = if u = s then m 9 s + 1 else m 9 u := fun u => by rw [c_ins_9, es 9 (by omega)]
  have e8 : ∀ u, c_ins w (c_set m s q) s (m 9 s) (ts x) 8 u = if u = ts x then s else m 8 u := fun u => by rw [c_ins_8, es 8 (by omega)]
  have ek0 : ∀ u i, c_k w (c_set m s q) u i = c_k w m u i := fun u i => by unfold c_k; rw [es 10 (by omega)]
  have ek : ∀ u i, 0 ≤ i → i < (w : Int) → c_k w (c_ins w (c_set m s q) s (m 9 s) (ts x)) u i = if u = s then (if i < m 9 s then c_k w m s i else if i = m 9 s then ts x else if i ≤ m 9 s then c_k w m s (i - 1) else c_k w m s i) else c_k w m u i := by
    intro u i i1 i2
    rw [c_ins_k hw5 hw11 (by omega) (by rw [es 9 (by omega)]; exact Int.le_refl _) (by rw [es 9 (by omega)]; omega) ⟨i1, i2⟩, es 9 (by omega)]
    simp only [ek0]
  refine ⟨⟨fun h q1 q2 q3 => by rw [e h q1]; exact h1 h q1 q2 q3, by rw [e 14 (by omega)]; exact h2, fun i y qy => by rw [e 15 (by omega)]; exact h3 i y qy⟩, ⟨⟨?_, ?_⟩, ?_⟩, ⟨⟨?_, ?_⟩, ?_⟩, ⟨⟨?_, ?_⟩, ?_⟩, ⟨?_, ?_⟩, ?_⟩
  · rw [e9, if_pos rfl, a1, List.length_append]; simp
  · rw [e9, if_neg (Ne.symm k4)]; exact a2
  · intro u u1 u2; rw [e9, if_neg u1]; exact a3 u u1 u2
  · intro i y qy
    have hi := (List.getElem?_eq_some_iff.mp qy).1
    rw [List.length_append, List.length_singleton] at hi
    rw [ek s i (by omega) (by omega), if_pos rfl]
    by_cases c : i < A.length
    · rw [if_pos (by omega)]
      rw [List.getElem?_append_left c] at qy
      exact b1 i y qy
    · have ei : i = A.length := by omega
      rw [if_neg (by omega), if_pos (by omega)]
      rw [ei, List.getElem?_append_right (Nat.le_refl _)] at qy
      simp at qy
      rw [qy]
  · intro i y qy
    have hi := (List.getElem?_eq_some_iff.mp qy).1
    have hb := b2 i y qy
    rw [ek fr i (by omega) (by omega), if_neg (Ne.symm k4)]
    exact hb
  · intro u i u1 u2 i1 i2; rw [ek u i i1 i2, if_neg u1]; exact b3 u i u1 u2 i1 i2
  · intro _; rw [er, c_set_s, eq]
  · intro z; rw [er, c_set_ne _ _ (Ne.symm k4)]; exact c2 z
  · intro u u1 u2; rw [er, c_set_ne _ _ u1]; exact c3 u u1 u2
  · intro y hy
    rw [e8]
    by_cases c : ts y = ts x
    · rw [if_pos c]
    · rw [if_neg c]
      rcases List.mem_append.mp hy with hy | hy
      · exact d1 y hy
      · simp at hy; exact absurd (by rw [hy]) c
  · intro y hy
    rw [e8, if_neg (fun c => hxB (by rw [← k6 y x (hB y hy) hx c]; exact hy))]
    exact d2 y hy
  · intro u u1 u2
    rw [e8, if_neg (u1 x (by simp))]
    exact d3 u (fun y hy => u1 y (by simp [hy])) u2
theorem pu_perm_get : ∀ {l : List Int} {p : Nat}, p < l.length → (l.getD p 0 :: l.eraseIdx p).Perm l := by
  intro l
  induction l with
  | nil => intro p h; exact absurd h (Nat.not_lt_zero _)
  | cons a t ih =>
    intro p h
    cases p with
    | zero => exact List.Perm.refl _
    | succ p =>
      have := ih (p := p) (by simpa using h)
      show (t.getD p 0 :: a :: t.eraseIdx p).Perm (a :: t)
      exact (List.Perm.swap a _ _).trans (List.Perm.cons a this)
theorem pu_perm_A {A B rest : List Int} {p : Nat} (h : p < rest.length) : ((A ++ [rest.getD p 0]) ++ (B ++ rest.eraseIdx p)).Perm (A ++ (B ++ rest)) := by
  rw [List.append_assoc]
  refine List.Perm.append_left A ?_
  refine List.Perm.trans (l₂ := B ++ (rest.getD p 0 :: rest.eraseIdx p)) ?_ (List.Perm.append_left B (pu_perm_get h))
  show (rest.getD p 0 :: (B ++ rest.eraseIdx p)).Perm (B ++ rest.getD p 0 :: rest.eraseIdx p)
  exact List.perm_middle.symm
theorem pu_perm_B {A B rest : List Int} {p : Nat} (h : p < rest.length) : (A ++ ((B ++ [rest.getD p 0]) ++ rest.eraseIdx p)).Perm (A ++ (B ++ rest)) := by
  refine List.Perm.append_left A ?_
  rw [List.append_assoc]
  exact List.Perm.append_left B (pu_perm_get h)
/-- the whole share, from where it stands -/
theorem sh_L {w N : Nat} {m0 : vl_M} {s fr : Int} {ts : Int → Int} {f : Int → pR} {K : List Int} (hw : c_w w N m0) (hk : sh_ok w m0 s fr ts f K) (hnd : K.Nodup) (h32 : vl_r32 (m0 1 1)) : ∀ (k : Nat) (fu : Nat) (A B rest : List Int) (v : Int) (m : vl_M), (A ++ (B ++ rest)).Perm K → rest.length ≤ k → k < fu → 0 ≤ v → v + (rest.length : Int) ≤ (w : Int) → A ≠ [] → B ≠ [] → sh_I w m0 m s fr ts f A B rest →
    ∃ m', fn_X3_share_L46 w N s fr (fun _ m16 => some m16) fu v m = some m' ∧ sh_I w m0 m' s fr ts f (sp f (m0 1 1) k A B rest).1 (sp f (m0 1 1) k A B rest).2 [] := by
  have hw11 := hw.2.1
  have hN := hw.2.2.1
  intro k
  induction k with
  | zero =>
    intro fu A B rest v m hp hr hf hv0 hv hA hB h
    obtain ⟨fu, rfl⟩ : ∃ x, fu = x + 1 := ⟨fu - 1, by omega⟩
    have er : rest = [] := List.length_eq_zero_iff.mp (by omega)
    subst er
    refine ⟨m, ?_, h⟩
    have h2 : m 14 2 = 0 := h.1.2.1
    rw [fn_X3_share_L46, pu_gd ⟨by omega, by omega⟩, pu_gd ⟨by omega, by omega⟩]
    split
    · rw [h2, pu_gd (by decide), if_neg (by decide)]
    · rfl
  | succ k ih =>
    intro fu A B rest v m hp hr hf hv0 hv hA hB h
    obtain ⟨fu, rfl⟩ : ∃ x, fu = x + 1 := ⟨fu - 1, by omega⟩
    cases rest with
    | nil =>
      refine ⟨m, ?_, ?_⟩
      · have h2 : m 14 2 = 0 := h.1.2.1
        rw [fn_X3_share_L46, pu_gd ⟨by omega, by omega⟩, pu_gd ⟨by omega, by omega⟩]
        split
        · rw [h2, pu_gd (by decide), if_neg (by decide)]
        · rfl
      · exact h
    | cons y t =>
      have hlen := hp.length_eq
      simp only [List.length_append, List.length_cons] at hlen hr hv
      have hKw := hk.1.1
      have hmem : ∀ x, x ∈ A ++ (B ++ (y :: t)) → x ∈ K := fun x hx => hp.mem_iff.mp hx
      have hnd2 : (A ++ (B ++ (y :: t))).Nodup := hp.nodup_iff.mpr hnd
      have hAK : ∀ x, x ∈ A → x ∈ K := fun x hx => hmem x (by simp [hx])
      have hBK : ∀ x, x ∈ B → x ∈ K := fun x hx => hmem x (by simp [hx])
      have hRK : ∀ x, x ∈ (y :: t) → x ∈ K := fun x hx => hmem x (by rw [List.mem_append, List.mem_append]; exact Or.inr (Or.inr hx))
      have hRA : ∀ x, x ∈ (y :: t) → x ∉ A := fun x hx hA => (List.nodup_append.mp hnd2).2.2 x hA x (by rw [List.mem_append]; exact Or.inr hx) rfl
      have hRB : ∀ x, x ∈ (y :: t) → x ∉ B := fun x hx hB => (List.nodup_append.mp (List.nodup_append.mp hnd2).2.1).2.2 x hB x hx rfl
      have a1 := h.2.1.1.1
      have a2 := h.2.1.1.2
      have h2 : m 14 2 = ((t.length + 1 : Nat) : Int) := h.1.2.1
      have h11 : m 1 1 = m0 1 1 := by rw [h.1.1 1 (by omega) (by decide) (by decide)]
      have hsin : c_in s := ⟨by have := hk.1.2.1; omega, by have := hk.1.2.1; omega⟩
      have hfin : c_in fr := ⟨by have := hk.1.2.2.1; omega, by have := hk.1.2.2.1; omega⟩
      -- one goes to the first part
      have goA : ∀ p : Nat, p < t.length + 1 → ∃ m1, fn_X3_takeLeft w N m (p : Int) = some (ts ((y :: t).getD p 0), c_tk m (p : Int)) ∧ fn_X4_attach w N (c_tk m (p : Int)) s (ts ((y :: t).getD p 0)) = some m1 ∧ ∃ m', fn_X3_share_L46 w N s fr (fun _ m16 => some m16) fu (v + 1) m1 = some m' ∧ sh_I w m0 m' s fr ts f (sp f (m0 1 1) k (A ++ [(y :: t).getD p 0]) B ((y :: t).eraseIdx p)).1 (sp f (m0 1 1) k (A ++ [(y :: t).getD p 0]) B ((y :: t).eraseIdx p)).2 [] := by
        intro p hpl
        have hpl' : p < (y :: t).length := by simpa using hpl
        have hx : (y :: t).getD p 0 ∈ (y :: t) := (pu_perm_get hpl').mem_iff.mp List.mem_cons_self
        obtain ⟨b1, b2⟩ := sh_tk hN hw11 (by simp only [List.length_cons]; omega) hpl' h
        obtain ⟨m1, b3, b4⟩ := sh_toA hw hk hAK hBK (hRK _ hx) (hRA _ hx) (hRB _ hx) (by omega) (by omega) b2
        have el : ((y :: t).eraseIdx p).length = t.length := by rw [List.length_eraseIdx_of_lt hpl']; simp
        obtain ⟨m', b5, b6⟩ := ih fu (A ++ [(y :: t).getD p 0]) B ((y :: t).eraseIdx p) (v + 1) m1 ((pu_perm_A hpl').trans hp) (by omega) (by omega) (by omega) (by omega) (by simp) hB b4
        exact ⟨m1, b1, b3, m', b5, b6⟩
      have goB : ∀ p : Nat, p < t.length + 1 → ∃ m1, fn_X3_takeLeft w N m (p : Int) = some (ts ((y :: t).getD p 0), c_tk m (p : Int)) ∧ fn_X4_attach w N (c_tk m (p : Int)) fr (ts ((y :: t).getD p 0)) = some m1 ∧ ∃ m', fn_X3_share_L46 w N s fr (fun _ m16 => some m16) fu (v + 1) m1 = some m' ∧ sh_I w m0 m' s fr ts f (sp f (m0 1 1) k A (B ++ [(y :: t).getD p 0]) ((y :: t).eraseIdx p)).1 (sp f (m0 1 1) k A (B ++ [(y :: t).getD p 0]) ((y :: t).eraseIdx p)).2 [] := by
        intro p hpl
        have hpl' : p < (y :: t).length := by simpa using hpl
        have hx : (y :: t).getD p 0 ∈ (y :: t) := (pu_perm_get hpl').mem_iff.mp List.mem_cons_self
        obtain ⟨b1, b2⟩ := sh_tk hN hw11 (by simp only [List.length_cons]; omega) hpl' h
        obtain ⟨m1, b3, b4⟩ := sh_toA hw (sh_ok_sym hk) hBK hAK (hRK _ hx) (hRB _ hx) (hRA _ hx) (by omega) (by omega) (sh_sym b2)
        have el : ((y :: t).eraseIdx p).length = t.length := by rw [List.length_eraseIdx_of_lt hpl']; simp
        obtain ⟨m', b5, b6⟩ := ih fu A (B ++ [(y :: t).getD p 0]) ((y :: t).eraseIdx p) (v + 1) m1 ((pu_perm_B hpl').trans hp) (by omega) (by omega) (by omega) (by omega) hA (by simp) (sh_sym b4)
        exact ⟨m1, b1, b3, m', b5, b6⟩
      have nA := c_needsAll (m := m) hsin ⟨by omega, by omega⟩ (by rw [h11]; exact h32)
      have nB := c_needsAll (m := m) hfin ⟨by omega, by omega⟩ (by rw [h11]; exact h32)
      rw [h11, a1, h2] at nA
      rw [h11, a2, h2] at nB
      rw [fn_X3_share_L46, pu_gd ⟨by omega, by omega⟩, pu_gd ⟨by omega, by omega⟩, if_pos (by omega), h2, pu_gd ⟨by omega, by omega⟩, if_pos (by omega), nA]
      rw [Option.bind_some]
      have e0 : ((0 : Nat) : Int) = 0 := rfl
      unfold sp
      by_cases cA : ((A.length + (t.length + 1) : Nat) : Int) ≤ m0 1 1
      · rw [if_pos cA, if_neg (by omega), pu_gd (by decide), pu_jn, if_neg (by decide)]
        obtain ⟨m1, b1, b3, m', b5, b6⟩ := goA 0 (by omega)
        rw [e0] at b1
        refine ⟨m', ?_, b6⟩
        rw [e0] at b3
        rw [b1, Option.bind_some, pu_un, b3, Option.bind_some]
        dsimp only
        rw [pu_lt]
        exact b5
      · rw [if_neg cA, if_pos (by omega), pu_gd (by decide), pu_jn, if_pos rfl, nB, Option.bind_some]
        by_cases cB : ((B.length + (t.length + 1) : Nat) : Int) ≤ m0 1 1
        · rw [if_pos cB, if_neg (by omega), pu_gd (by decide), if_neg (by decide)]
          obtain ⟨m1, b1, b3, m', b5, b6⟩ := goB 0 (by omega)
          rw [e0] at b1 b3
          refine ⟨m', ?_, b6⟩
          rw [b1, Option.bind_some, pu_un, b3, Option.bind_some]
          dsimp only
          rw [pu_lt]
          exact b5
        · rw [if_neg cB, if_pos (by omega), pu_gd (by decide), if_pos rfl]
          have hrest : ∀ (i : Nat) x, (y :: t)[i]? = some x → m 15 (i : Int) = ts x ∧ c_in (ts x) ∧ c_rt m (ts x) = f x ∧ r_ok (f x) := by
            intro i x q
            obtain ⟨k1, k2, k3, k4, k5⟩ := hk.2.1 x (hRK x (List.mem_of_getElem? q))
            exact ⟨h.1.2.2 i x q, k1, by rw [h.2.2.2.1.2 _ k2 k3, k4], k5⟩
          have okA : r_ok (mbl f A) := mbl_ok A hA (fun x hx => (hk.2.1 x (hAK x hx)).2.2.2.2)
          have okB : r_ok (mbl f B) := mbl_ok B hB (fun x hx => (hk.2.1 x (hBK x hx)).2.2.2.2)
          have md : fn_X3_mostDecided w N m s fr = some ((sp_pk (sp_d f A B) (y :: t) 0 0 (-1) : Nat) : Int) := by
            unfold fn_X3_mostDecided
            exact c_mostL (rest := y :: t) hw11 hsin hfin (h.2.2.2.1.1.1 hA) (h.2.2.2.1.1.2 hB) okA okB h2 (by simp only [List.length_cons]; omega) hrest (y :: t) N 0 0 (-1) (by omega) rfl (by simp only [List.length_cons]; omega) (by decide) ⟨by decide, by decide⟩
          have hpk := sp_pk_lt0 (d := sp_d f A B) (fun x => Int.natCast_nonneg _) y t
          rw [md, Option.bind_some]
          generalize hpp : sp_pk (sp_d f A B) (y :: t) 0 0 (-1) = p at hpk ⊢
          have hpl' : p < (y :: t).length := by simpa using hpk
          have hx : (y :: t).getD p 0 ∈ (y :: t) := (pu_perm_get hpl').mem_iff.mp List.mem_cons_self
          obtain ⟨k1, k2, k3, k4, k5⟩ := hk.2.1 _ (hRK _ hx)
          obtain ⟨b1, b2⟩ := sh_tk hN hw11 (by simp only [List.length_cons]; omega) hpl' h
          have ft := c_fitting (m := c_tk m (p : Int)) (t := ts ((y :: t).getD p 0)) (a := s) (b := fr) (ra := mbl f A) (rb := mbl f B) (q := f ((y :: t).getD p 0)) k1 hsin hfin (by rw [b2.2.2.2.1.2 _ k2 k3, k4]) (b2.2.2.2.1.1.1 hA) (b2.2.2.2.1.1.2 hB) k5 okA okB ⟨by rw [b2.2.1.1.1]; omega, by rw [b2.2.1.1.1]; omega⟩ ⟨by rw [b2.2.1.1.2]; omega, by rw [b2.2.1.1.2]; omega⟩
          rw [b2.2.1.1.1, b2.2.1.1.2] at ft
          have hiff : (((A.length : Nat) : Int) ≤ ((B.length : Nat) : Int)) = (A.length ≤ B.length) := propext ⟨fun q => by omega, fun q => by omega⟩
          rw [hiff] at ft
          by_cases cF : sp_toA f A B ((y :: t).getD p 0)
          · rw [if_pos cF]
            obtain ⟨m1, b1, b3, m', b5, b6⟩ := goA p hpk
            refine ⟨m', ?_, b6⟩
            rw [b1, Option.bind_some, pu_un, ft.1 cF, Option.bind_some, b3, Option.bind_some]
            dsimp only
            rw [pu_lt]
            exact b5
          · rw [if_neg cF]
            obtain ⟨m1, b1, b3, m', b5, b6⟩ := goB p hpk
            refine ⟨m', ?_, b6⟩
            rw [b1, Option.bind_some, pu_un, ft.2 cF, Option.bind_some, b3, Option.bind_some]
            dsimp only
            rw [pu_lt]
            exact b5
