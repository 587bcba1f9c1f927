/-! What is due is delivered by the class; waiting. -/
section DUE
variable {K L : Int → Int → List Int} {D : Int → List Int} {d : zD} {b : Nat} {s : Nat → Int} {N : Int}
theorem RC_deliver {x m v : Int} {l : List Int} {d1 : zD} (h : RC K L D d b s N) (hx : 0 ≤ x ∧ x < s 0) (hl : D x = m :: l) (hv : v = d (b + 23) x.toNat + rT s x 2) (hK1 : KR (uK K 2 x (l ++ L 2 x)) d1 b (s 2) (rM s)) (hf : ∀ c, c < b + 11 ∨ b + 14 < c → d1 c = d c) :
    RC (uK K 2 x (l ++ L 2 x)) L (uD D x l) (zu (zu (zu d1 (b + 9) m.toNat v) (b + 5) m.toNat 3) (b + 23) x.toNat v) b s N ∧ v ≤ s 3 := by
  have hown := fun {r y j} hr hy hj => RC_own h (r := r) (x := y) (m := j) hr hy hj
  obtain ⟨hS, hA, hQ, hM, hD, hK, hL, hKL, hP, hG, hI, hIL, hIT, hIM, hU, hb⟩ := h
  have hI' := hI
  obtain ⟨⟨i1, i2⟩, i3, i4, i5, -⟩ := hI'
  have hx8 : 0 ≤ x ∧ x < 8 := by omega
  have hK2 := (hKL x).2.2
  have hm := hown (r := 2) (by omega) hx8 (show m ∈ K 2 x by rw [hK2, hl]; simp)
  have hm1 : rM s m 1 = x := hm.2
  have hdx := hD x hx.1 hx.2
  rw [hl] at hdx
  obtain ⟨⟨g3, g7, gt⟩, hdx⟩ := hdx
  have hnd := (hK 2 x (by omega) (by omega) hx8.1 hx8.2).2.1
  rw [hK2, hl] at hnd
  have hml : m ∉ l := fun q => (List.nodup_cons.mp hnd).1 (List.mem_append_left _ q)
  have er : ∀ c, c ≠ b + 9 → c ≠ b + 5 → c ≠ b + 23 → zu (zu (zu d1 (b + 9) m.toNat v) (b + 5) m.toNat 3) (b + 23) x.toNat v c = d1 c := fun c h1 h2 h3 => by rw [zu_row h3, zu_row h2, zu_row h1]
  have er2 : ∀ c, c ≠ b + 9 → c ≠ b + 5 → c ≠ b + 23 → (c < b + 11 ∨ b + 14 < c) → zu (zu (zu d1 (b + 9) m.toNat v) (b + 5) m.toNat 3) (b + 23) x.toNat v c = d c := fun c h1 h2 h3 h4 => by rw [er c h1 h2 h3, hf c h4]
  have e9 : ∀ j : Int, 0 ≤ j → zu (zu (zu d1 (b + 9) m.toNat v) (b + 5) m.toNat 3) (b + 23) x.toNat v (b + 9) j.toNat = if j = m then v else d (b + 9) j.toNat := fun j j0 => by
    rw [zu_o (by omega), zu_o (by omega), zu_t hm.1.1 j0, hf (b + 9) (by omega)]
    by_cases e : j = m
    · rw [if_pos ⟨rfl, e⟩, if_pos e]
    · rw [if_neg (fun q => e q.2), if_neg e]
  have e5 : ∀ j : Int, 0 ≤ j → zu (zu (zu d1 (b + 9) m.toNat v) (b + 5) m.toNat 3) (b + 23) x.toNat v (b + 5) j.toNat = if j = m then 3 else d (b + 5) j.toNat := fun j j0 => by
    rw [zu_o (by omega), zu_t hm.1.1 j0, zu_o (by omega), hf (b + 5) (by omega)]
    by_cases e : j = m
    · rw [if_pos ⟨rfl, e⟩, if_pos e]
    · rw [if_neg (fun q => e q.2), if_neg e]
  have e23 : ∀ j : Int, 0 ≤ j → zu (zu (zu d1 (b + 9) m.toNat v) (b + 5) m.toNat 3) (b + 23) x.toNat v (b + 23) j.toNat = if j = x then v else d (b + 23) j.toNat := fun j j0 => by
    rw [zu_t hx.1 j0, zu_o (by omega), zu_o (by omega), hf (b + 23) (by omega)]
    by_cases e : j = x
    · rw [if_pos ⟨rfl, e⟩, if_pos e]
    · rw [if_neg (fun q => e q.2), if_neg e]
  refine ⟨⟨?_, ⟨fun k k0 k1 => ?_, fun k k0 k1 => ?_, fun k k0 k1 => ?_⟩, ?_, ?_, ?_, ?_, hL, ?_, hP, ?_, hI, hIL, hIT, hIM, ?_, hb⟩, by omega⟩
  · unfold RS
    rw [er2 b (by omega) (by omega) (by omega) (by omega), er2 (b + 1) (by omega) (by omega) (by omega) (by omega)]
    exact hS
  · rw [er2 (b + 27) (by omega) (by omega) (by omega) (by omega)]; exact hA.1 k k0 k1
  · rw [er2 (b + 28) (by omega) (by omega) (by omega) (by omega)]; exact hA.2.1 k k0 k1
  · rw [er2 (b + 29) (by omega) (by omega) (by omega) (by omega)]; exact hA.2.2 k k0 k1
  · intro y y0 yn
    rw [er2 (b + 16) (by omega) (by omega) (by omega) (by omega), er2 (b + 17) (by omega) (by omega) (by omega) (by omega), er2 (b + 18) (by omega) (by omega) (by omega) (by omega), er2 (b + 19) (by omega) (by omega) (by omega) (by omega), er2 (b + 20) (by omega) (by omega) (by omega) (by omega), er2 (b + 21) (by omega) (by omega) (by omega) (by omega), er2 (b + 22) (by omega) (by omega) (by omega) (by omega), er2 (b + 24) (by omega) (by omega) (by omega) (by omega)]
    exact hQ y y0 yn
  · intro j j0 jn
    rw [er2 (b + 2) (by omega) (by omega) (by omega) (by omega), er2 (b + 3) (by omega) (by omega) (by omega) (by omega), er2 (b + 4) (by omega) (by omega) (by omega) (by omega), er2 (b + 6) (by omega) (by omega) (by omega) (by omega), er2 (b + 7) (by omega) (by omega) (by omega) (by omega), er2 (b + 8) (by omega) (by omega) (by omega) (by omega), e5 j j0, e9 j j0]
    obtain ⟨f1, f2, f3, f4, f5, f6, f7⟩ := hM j j0 jn
    refine ⟨f1, f2, f3, f4, f5, f6, fun hq => ?_⟩
    by_cases hj : j = m
    · rw [if_pos hj, if_pos hj, hj, g3, g7, hv]
      exact ⟨rfl, rfl⟩
    · rw [if_neg hj, if_neg hj]
      refine f7 fun y y0 y8 hy => ?_
      by_cases hyx : y = x
      · subst hyx
        rw [hl] at hy
        have := hq y y0 y8
        rw [uD_eq] at this
        rcases List.mem_cons.mp hy with h1 | h1
        · exact hj h1
        · exact this h1
      · have := hq y y0 y8
        rw [uD_ne hyx] at this
        exact this hy
  · intro y y0 yn
    rw [e23 y y0]
    by_cases hyx : y = x
    · subst hyx
      rw [if_pos rfl, uD_eq, hv]
      exact hdx
    · rw [if_neg hyx, uD_ne hyx]
      exact hD y y0 yn
  · exact KR_d hK1 fun c _ _ => er c (by omega) (by omega) (by omega)
  · intro y
    obtain ⟨f1, f2, f3⟩ := hKL y
    rw [uK_ne (by omega), uK_ne (by omega)]
    refine ⟨f1, f2, ?_⟩
    by_cases hyx : y = x
    · subst hyx; rw [uK_eq, uD_eq]
    · rw [uK_ne (by omega), uD_ne hyx]; exact f3
  · exact RG_d hG (er2 _ (by omega) (by omega) (by omega) (by omega)) (er2 _ (by omega) (by omega) (by omega) (by omega))
  · exact RU_d hU fun c _ _ => er2 c (by omega) (by omega) (by omega) (by omega)
theorem e_has3 {x : Int} : f_X3_has b x d = some (if 0 ≤ x ∧ x < d (b + 1) 0 then 1 else 0, d) := by
  unfold f_X3_has
  by_cases h1 : x < 0
  · rw [if_pos h1, if_neg (by omega)]
  · rw [if_neg h1, zl_n]
    by_cases h2 : d (b + 1) 0 ≤ x
    · rw [if_pos h2, if_neg (by omega)]
    · rw [if_neg h2, if_pos (by omega)]
theorem uK_uK {r x : Int} {l l' : List Int} : uK (uK K r x l) r x l' = uK K r x l' := by
  funext r' x'
  by_cases h : r' = r ∧ x' = x
  · obtain ⟨rfl, rfl⟩ := h
    rw [uK_eq, uK_eq]
  · rw [uK_ne (by omega), uK_ne (by omega), uK_ne (by omega)]
theorem uD_uD {x : Int} {l l' : List Int} : uD (uD D x l) x l' = uD D x l' := by
  funext x'
  by_cases h : x' = x
  · subst h; rw [uD_eq, uD_eq]
  · rw [uD_ne h, uD_ne h, uD_ne h]
theorem uK_id {r x : Int} {l : List Int} (h : K r x = l) : uK K r x l = K := by
  funext r' x'
  by_cases e : r' = r ∧ x' = x
  · obtain ⟨rfl, rfl⟩ := e
    rw [uK_eq, h]
  · rw [uK_ne (by omega)]
theorem uD_id {x : Int} {l : List Int} (h : D x = l) : uD D x l = D := by
  funext x'
  by_cases e : x' = x
  · subst e; rw [uD_eq, h]
  · rw [uD_ne e]
theorem R_due_loop {x : Int} : ∀ (k q : Nat) {K : Int → Int → List Int} {D : Int → List Int} {d : zD} {i : Int}, RC K L D d b s N → RZ L (s 0) (s 3) (rT s) → (0 ≤ x ∧ x < s 0) → (D x).length = k → 0 ≤ i → i + k ≤ 40 → k < q → ∃ d', l_X2_deliverDue_2 b q x i d = some (0, d') ∧ RC (uK K 2 x (L 2 x)) L (uD D x []) d' b s N ∧ Fr b d d' := by
  intro k
  induction k with
  | zero =>
    intro q K D d i h hz hx hk i0 ik hq
    obtain ⟨q, rfl⟩ : ∃ q', q = q' + 1 := ⟨q - 1, by omega⟩
    obtain ⟨⟨i1, i2⟩, i3, i4, i5, i6⟩ := RC_i h
    have hh := h
    obtain ⟨hS, hA, hQ, hM, hD, hK, hL, hKL, hP, hG, hI, hIL, hIT, hIM, hU, hb⟩ := hh
    have hD0 : D x = [] := List.length_eq_zero_iff.mp hk
    have hK2 : K 2 x = L 2 x := by rw [(hKL x).2.2, hD0]; rfl
    have hdx := hD x hx.1 hx.2
    rw [hD0] at hdx
    have hdx : rT s x 10 = d (b + 23) x.toNat := hdx
    have hit := hIT x hx.1 hx.2
    refine ⟨d, ?_, by rw [uK_id hK2, uD_id hD0]; exact h, Fr.rf⟩
    show l_X2_deliverDue_2F b _ x i d = _
    unfold l_X2_deliverDue_2F
    by_cases h40 : 40 ≤ i
    · rw [if_pos h40]
    · rw [if_neg h40, KR_first hK (by omega), zc_n, zg_t (by omega), zl_n, zg_t (by omega), zl_n, zl_n, e_has3, zc_n, hK2]
      have hP5 : d (1 + 4) x.toNat = rT s x 2 := (hU.2 x hx.1 hx.2).2.2.1
      rw [hP5, ← hdx, zw_id (by omega) (by omega)]
      cases hl : L 2 x with
      | nil =>
        rw [if_pos (by rw [if_neg]; exact fun q => absurd q.1 (by decide))]
      | cons m l =>
        have hm := RC_own h (r := 2) (x := x) (m := m) (by omega) (by omega) (by rw [hK2, hl]; exact List.mem_cons_self)
        have h9 := hS.2.2.2.2.2.2.2.2
        have hmm : 0 ≤ hd1 (m :: l) ∧ hd1 (m :: l) < d (b + 1) 0 := by rw [h9]; exact hm.1
        have hlt := hz x hx.1 hx.2 (by rw [hl]; exact fun q => by cases q)
        rw [if_pos hmm, if_neg (by decide), zl_n, hS.2.1, if_neg (by omega)]
  | succ k ih =>
    intro q K D d i h hz hx hk i0 ik hq
    obtain ⟨q, rfl⟩ : ∃ q', q = q' + 1 := ⟨q - 1, by omega⟩
    obtain ⟨⟨i1, i2⟩, i3, i4, i5, i6⟩ := RC_i h
    have hh := h
    obtain ⟨hS, hA, hQ, hM, hD, hK, hL, hKL, hP, hG, hI, hIL, hIT, hIM, hU, hb⟩ := hh
    cases hl : D x with
    | nil => rw [hl] at hk; cases hk
    | cons m l =>
      have hK2 : K 2 x = m :: (l ++ L 2 x) := by rw [(hKL x).2.2, hl]; rfl
      have hm := RC_own h (r := 2) (x := x) (m := m) (by omega) (by omega) (by rw [hK2]; exact List.mem_cons_self)
      have hdx := hD x hx.1 hx.2
      rw [hl] at hdx
      obtain ⟨⟨g3, g7, gt⟩, hdx⟩ := hdx
      have hit := hIT x hx.1 hx.2
      have h9 := hS.2.2.2.2.2.2.2.2
      obtain ⟨d1, r1, r2, r3⟩ := KR_remove (r := 2) (x := x) hK (by omega) i4 hK2
      have hF : -2147483648 ≤ d (b + 23) x.toNat + rT s x 2 := by
        have e : ∀ {P tm : Int} {l : List Int} {F E : Int}, 0 ≤ P → due (rM s) P tm F l E → F ≤ E := by
          intro P tm l
          induction l with
          | nil => intro F E _ h; exact Int.le_of_eq h.symm
          | cons a l ih => intro F E hp h; have := ih hp h.2; omega
        have e2 : ∀ {P tm : Int} {l : List Int} {F E : Int}, 0 ≤ P ∧ P ≤ 30 → due (rM s) P tm F l E → E ≤ F + 30 * l.length := by
          intro P tm l
          induction l with
          | nil => intro F E _ h; have : E = F := h; simp; omega
          | cons a l ih => intro F E hp h; have := ih hp h.2; simp; omega
        have := e2 ⟨hit.2.2.1.1, hit.2.2.1.2⟩ hdx
        have hkl : l.length = k := by rw [hl] at hk; simpa using hk
        omega
      have hrc := RC_deliver h hx hl rfl r2 r3
      have hP5 : d (1 + 4) x.toNat = rT s x 2 := (hU.2 x hx.1 hx.2).2.2.1
      obtain ⟨d', q1, q2, q3⟩ := ih q (i := i + 1) hrc.1 hz hx (by rw [uD_eq]; rw [hl] at hk; simpa using hk) (by omega) (by omega) (by omega)
      rw [uK_uK, uD_uD] at q2
      refine ⟨d', ?_, q2, Fr.tr (fun c hc => ?_) q3⟩
      · show l_X2_deliverDue_2F b _ x i d = _
        unfold l_X2_deliverDue_2F
        have hh1 : hd1 (K 2 x) = m := by rw [hK2]; rfl
        have hmm : 0 ≤ m ∧ m < d (b + 1) 0 := by rw [h9]; exact hm.1
        rw [if_neg (by omega), KR_first hK (by omega), hh1, zc_n, zg_t (by omega), zl_n, zg_t (by omega), zl_n, zl_n, e_has3, zc_n, if_pos hmm, if_neg (by decide), zl_n, hS.2.1, hP5, zw_id hF (by omega), if_pos (by omega), r1, zc_n]
        rw [zg_t (by omega), zl_n, zg_t (by omega), zl_n, zg_t (by omega), zl_n, zl_n, zw_id (by omega) (by omega)]
        exact q1
      · rw [zu_row (by omega), zu_row (by omega), zu_row (by omega), r3 c (by omega)]
theorem R_due {x : Int} (h : RC K L D d b s N) (hz : RZ L (s 0) (s 3) (rT s)) (hx : 0 ≤ x ∧ x < s 0) : ∃ d', f_X2_deliverDue b x d = some (0, d') ∧ RC (uK K 2 x (L 2 x)) L (uD D x []) d' b s N ∧ Fr b d d' := by
  obtain ⟨⟨i1, i2⟩, i3, i4, i5, i6⟩ := RC_i h
  have hh := h
  obtain ⟨-, -, -, -, -, hK, -, hKL, -⟩ := hh
  have hlen := KR_len hK (r := 2) (x := x) ⟨⟨by omega, by omega⟩, by omega, by omega⟩ i4.2 i4.1
  rw [(hKL x).2.2, List.length_append] at hlen
  have := zF_big
  exact R_due_loop (D x).length zF h hz hx rfl (by omega) (by omega) (by omega)
end DUE
section WAIT
variable {K L : Int → Int → List Int} {D : Int → List Int} {d : zD} {b : Nat} {N : Int}
theorem R_wait {ds : zD} {k : Int} (h : RC K L D d b (ds 401) N) (hk : 0 ≤ k ∧ k ≤ 20) (hN : N ≤ 999999900) : ∃ ds' L' D', f_X12_passes k ds = some (0, ds') ∧ RC K L' D' (zu d b 9 (ds 401 3 + k)) b (ds' 401) (N + 20) ∧ RZ L' (ds' 401 0) (ds' 401 3) (rT (ds' 401)) ∧ Fs ds ds' ∧ Fk (ds 401) (ds' 401) ∧ FL L L' ∧ ds' 401 3 = ds 401 3 + k := by
  obtain ⟨i1, i2, i3, i4, -⟩ := RC_i h
  have h2 := RC_pair (i := 9) (j := 3) (v := ds 401 3 + k) (N' := N + 20) h RS_p9 (by omega) (fun q => by
    obtain ⟨a0, a1, a2, a3, a4, a5, a6, a7, a8, a9, a10, a11, a12, a13, a14, a15, a16, a17⟩ := RI_N q (show N ≤ N + 20 by omega) (by omega)
    exact ⟨a0, a1, a2, ⟨by rw [us_eq]; omega, by rw [us_eq]; omega⟩, a4, a5, a6, a7, a8, a9, a10, a11, a12, a13, a14, a15, a16, a17⟩) (by rw [us_eq]; omega)
  obtain ⟨d1, L1, D1, r1, r2, r3, r4, r5, r6, r7, r8⟩ := R_passes h2 (by omega)
  exact ⟨d1, L1, D1, r1, r2, r3, r7, ⟨fun j j1 j2 j3 j4 => r4 j j1 j2, r8⟩, r6, r5⟩
theorem R_call {ds : zD} {g : Nat} {x : Int} (h : RC K L D d b (ds 401) N) (hg : g < b) (hx : 0 ≤ x ∧ x < ds 401 0) (hgx : d g 2 = x) (hN : N ≤ 999999800) : ∃ v d' ds' L' D', f_X1_call g b d = some (v, d') ∧ f_X12_calls x ds = some (v, ds') ∧ (v = 0 ∨ v = 1) ∧ RC K L' D' d' b (ds' 401) (N + 40) ∧ RZ L' (ds' 401 0) (ds' 401 3) (rT (ds' 401)) ∧ Fr b d d' ∧ Fs ds ds' ∧ Fk (ds 401) (ds' 401) ∧ FL L L' ∧ (ds 401 3 < ds' 401 3 ∧ ds' 401 3 ≤ ds 401 3 + 21) := by
  obtain ⟨v, d1, s1, L1, D1, a1, a2, a3, a4, a5, a6, a7, a8, a9, a10⟩ := R_send h (k := 1) (by omega) (by omega)
  obtain ⟨⟨i1, i2⟩, i3, i4, i5, i6⟩ := RC_i a4
  have e0 : s1 401 0 = ds 401 0 := a8.1 0 (by omega) (by omega) (by omega) (by omega)
  have hh := a4
  obtain ⟨⟨-, s9, -⟩, ⟨aS, -⟩, hQ, -, -, -, -, -, -, -, ⟨-, -, -, -, -, -, t0, -⟩, -, hIT, -, hU, hb⟩ := hh
  have hgx1 : d1 g 2 = x := by rw [a6 g (by omega)]; exact hgx
  have t6 := aS 0 (by omega) (by omega)
  simp only [Int.reduceToNat, Int.reduceAdd] at t6
  have hq := (hQ x hx.1 (by omega)).1
  have hit := hIT x hx.1 (by omega)
  have hd0 := (hU.2 x hx.1 (by omega)).1
  have wait : ∀ k : Int, 0 ≤ k ∧ k ≤ 20 → ∃ ds' L' D', f_X12_passes k s1 = some (0, ds') ∧ RC K L' D' (zu d1 b 9 (s1 401 3 + k)) b (ds' 401) (N + 40) ∧ RZ L' (ds' 401 0) (ds' 401 3) (rT (ds' 401)) ∧ Fr b d (zu d1 b 9 (s1 401 3 + k)) ∧ Fs ds ds' ∧ Fk (ds 401) (ds' 401) ∧ FL L L' ∧ (ds 401 3 < ds' 401 3 ∧ ds' 401 3 ≤ ds 401 3 + 21) := fun k hk => by
    obtain ⟨s2, L2, D2, b1, b2, b3, b4, b5, b6, b7⟩ := R_wait a4 hk (by omega)
    have e : N + 20 + 20 = N + 40 := by omega
    rw [e] at b2
    exact ⟨s2, L2, D2, b1, b2, b3, Fr.tr a6 (Fr.u (by omega)), Fs.tr a7 b4, Fk.tr a8 b5, FL.tr a9 b6, by omega⟩
  have no : v = 0 ∨ rT (s1 401) x 3 ≠ 1 → ∃ v d' ds' L' D', f_X1_call g b d = some (v, d') ∧ f_X12_calls x ds = some (v, ds') ∧ (v = 0 ∨ v = 1) ∧ RC K L' D' d' b (ds' 401) (N + 40) ∧ RZ L' (ds' 401 0) (ds' 401 3) (rT (ds' 401)) ∧ Fr b d d' ∧ Fs ds ds' ∧ Fk (ds 401) (ds' 401) ∧ FL L L' ∧ (ds 401 3 < ds' 401 3 ∧ ds' 401 3 ≤ ds 401 3 + 21) := fun hno => by
    obtain ⟨s2, L2, D2, b1, b2⟩ := wait (s1 401 6) (by omega)
    refine ⟨0, _, s2, L2, D2, ?_, ?_, Or.inl rfl, b2⟩
    · have hj : j_X1_call_36 g b d1 = some (0, zu d1 b 9 (s1 401 3 + s1 401 6)) := by
        simp only [j_X1_call_36, j_X1_call_37, zl_n]
        rw [if_pos trivial, zg_t (by omega), zz_t (by omega), s9]
        show some (0, zu d1 b 9 (zw (s1 401 3 + d1 (b + 27) 0))) = _
        rw [t6, zw_id (by omega) (by omega)]
      unfold f_X1_call
      rw [a1, zc_n]
      by_cases hv : v = 0
      · rw [if_pos hv, hj]
      · rw [if_neg hv, zl_n, hgx1, zg_t (by omega), zl_n, hq, if_neg (by omega), hj]
    · have hj : j_X12_calls_24 x s1 = some (0, s2) := by
        simp only [j_X12_calls_24, j_X12_calls_25, j_X12_calls_47]
        rw [if_pos trivial, zg_t (by omega), zl_n]
        show zc (f_X12_passes (s1 401 6) s1) _ = _
        rw [b1, zc_n, zz_t (by omega)]
      unfold f_X12_calls
      rw [a2, zc_n]
      by_cases hv : v = 0
      · rw [if_neg (show ¬ 1 - v = 0 by omega), hj]
      · rw [if_pos (show 1 - v = 0 by omega), e_of (by omega) (by omega), zc_n, if_neg (by omega), hj]
  by_cases hv : v = 0
  · exact no (Or.inl hv)
  · have hv1 : 1 - v = 0 := by clear no; omega
    have hx8 : 0 ≤ x ∧ x < 8 := by clear no; omega
    have hw3 : (0 : Int) ≤ 3 ∧ (3 : Int) < 16 := by decide
    have hw0 : (0 : Int) ≤ 0 ∧ (0 : Int) < 16 := by decide
    have hx1 : 0 ≤ rT (s1 401) x 0 ∧ rT (s1 401) x 0 ≤ 20 := by clear no; omega
    have hz9 : zw (s1 401 3 + rT (s1 401) x 0) = s1 401 3 + rT (s1 401) x 0 := by clear no; exact zw_id (by omega) (by omega)
    have hbb : (b ≤ b ∧ b < b + 30) ∧ b ≠ b + 17 := by clear no; omega
    by_cases ha : rT (s1 401) x 3 = 1
    · obtain ⟨s2, L2, D2, b1, b2⟩ := wait (rT (s1 401) x 0) hx1
      refine ⟨1, _, s2, L2, D2, ?_, ?_, Or.inr rfl, b2⟩
      · unfold f_X1_call
        rw [a1, zc_n, if_neg hv, zl_n, hgx1, zg_t hx8, zl_n, hq, if_pos ha]
        simp only [j_X1_call_37, zl_n]
        rw [if_neg (by decide), hgx1, zg_t hx8]
        show zz 1 (some (1, zu d1 b 9 (zw (d1 b 9 + d1 3 x.toNat)))) = _
        rw [zz_t (Or.inr rfl), s9, hd0, hz9]
      · unfold f_X12_calls
        rw [a2, zc_n, if_pos hv1, e_of hx8 hw3, zc_n, if_pos ha]
        simp only [j_X12_calls_25, j_X12_calls_47]
        rw [if_neg (by decide), e_of hx8 hw0, zc_n, b1, zc_n, zz_t (Or.inr rfl)]
    · exact no (Or.inr ha)
end WAIT
