/-! The steps of polls and selects. -/
theorem zxor1 {v : Int} (h : v = 0 ∨ v = 1) : zxor v 1 = 1 - v := by
  rcases h with rfl | rfl <;> decide
theorem RQ_up {d : zD} {b : Nat} {n x v w : Int} {T : zM} {c : Nat} (h : RQ d b n T) (hx : 0 ≤ x) (hc : (c = 16 ∧ w = 3) ∨ (c = 17 ∧ w = 4) ∨ (c = 18 ∧ w = 5) ∨ (c = 19 ∧ w = 6) ∨ (c = 20 ∧ w = 7) ∨ (c = 21 ∧ w = 8) ∨ (c = 22 ∧ w = 9)) : RQ (zu d (b + c) x.toNat v) b n (up2 T x w v) := by
  intro y y0 yn
  obtain ⟨h1, h2, h3, h4, h5, h6, h7, h8⟩ := h y y0 yn
  have e : ∀ c' w', (c' = c ↔ w' = w) → d (b + c') y.toNat = T y w' → zu d (b + c) x.toNat v (b + c') y.toNat = up2 T x w v y w' := fun c' w' hcw ho => by
    rw [zu_t hx y0]
    unfold up2
    by_cases hq : b + c' = b + c ∧ y = x
    · rw [if_pos hq, if_pos ⟨hq.2, hcw.mp (by omega)⟩]
    · rw [if_neg hq, if_neg (fun q => hq ⟨by have := hcw.mpr q.2; omega, q.1⟩)]
      exact ho
  refine ⟨e 16 3 (by omega) h1, e 17 4 (by omega) h2, e 18 5 (by omega) h3, e 19 6 (by omega) h4, e 20 7 (by omega) h5, e 21 8 (by omega) h6, e 22 9 (by omega) h7, fun w' w0 w4 => ?_⟩
  rw [zu_o (by omega), up2_ne (by omega)]
  exact h8 w' w0 w4
theorem RM_up {D : Int → List Int} {d : zD} {b : Nat} {n m v w : Int} {M : zM} {c : Nat} (h : RM D d b n M) (hm : 0 ≤ m) (hc : (c = 5 ∧ w = 3) ∨ (c = 7 ∧ w = 5) ∨ (c = 8 ∧ w = 6) ∨ (c = 9 ∧ w = 7)) : RM D (zu d (b + c) m.toNat v) b n (up2 M m w v) := by
  intro y y0 yn
  obtain ⟨h1, h2, h3, h4, h5, h6, h7⟩ := h y y0 yn
  have e : ∀ c' w', (c' = c ↔ w' = w) → d (b + c') y.toNat = M y w' → zu d (b + c) m.toNat v (b + c') y.toNat = up2 M m w v y w' := fun c' w' hcw ho => by
    rw [zu_t hm y0]
    unfold up2
    by_cases hq : b + c' = b + c ∧ y = m
    · rw [if_pos hq, if_pos ⟨hq.2, hcw.mp (by omega)⟩]
    · rw [if_neg hq, if_neg (fun q => hq ⟨by have := hcw.mpr q.2; omega, q.1⟩)]
      exact ho
  refine ⟨e 2 0 (by omega) h1, e 3 1 (by omega) h2, e 4 2 (by omega) h3, e 6 4 (by omega) h4, e 7 5 (by omega) h5, e 8 6 (by omega) h6, fun hq => ⟨e 5 3 (by omega) (h7 hq).1, e 9 7 (by omega) (h7 hq).2⟩⟩
theorem RM_M {D : Int → List Int} {d : zD} {b : Nat} {n : Int} {M M' : zM} (h : RM D d b n M) (e : ∀ j w : Int, w ≤ 7 → M' j w = M j w) : RM D d b n M' := by
  intro y y0 yn
  rw [e y 0 (by omega), e y 1 (by omega), e y 2 (by omega), e y 3 (by omega), e y 4 (by omega), e y 5 (by omega), e y 6 (by omega), e y 7 (by omega)]
  exact h y y0 yn
theorem RIT_up {n tm x v w : Int} {T : zM} (h : RIT n tm T) (hw : 6 ≤ w ∧ w ≤ 9) (hv : v = 0 ∨ v = 1) : RIT n tm (up2 T x w v) := by
  intro y y0 yn
  obtain ⟨g0, g1, g2, g3, g4, g6, g7, g8, g9, g10⟩ := h y y0 yn
  have e : ∀ w', (T y w' = 0 ∨ T y w' = 1) → (up2 T x w v y w' = 0 ∨ up2 T x w v y w' = 1) := fun w' hq => by
    unfold up2
    split
    · exact hv
    · exact hq
  rw [up2_ne (u := 0) (by omega), up2_ne (u := 1) (by omega), up2_ne (u := 2) (by omega), up2_ne (u := 10) (by omega)]
  exact ⟨g0, g1, g2, e 3 g3, e 4 g4, e 6 g6, e 7 g7, e 8 g8, e 9 g9, g10⟩
section STEPS
variable {K L K' L' : Int → Int → List Int} {D : Int → List Int} {d d' : zD} {b : Nat} {s s' : Nat → Int} {N N' : Int}
theorem RC_gen (h : RC K L D d b s N) (elo : ∀ k, k < 50 → k ≠ 46 → s' k = s k) (ehi : ∀ k, 700 ≤ k → s' k = s k) (e46 : 0 ≤ s' 46 ∧ s' 46 ≤ N') (hN : N ≤ N' ∧ N' ≤ 1000000000)
    (ed : ∀ c, c < b + 5 ∨ c = b + 6 ∨ 25 + b ≤ c → d' c = d c) (hQ' : RQ d' b (s 0) (rT s')) (hM' : RM D d' b (s 2) (rM s')) (hD' : RD D d' b (s 0) (s 3) (rT s') (rM s')) (hK' : KR K' d' b (s 2) (rM s')) (hL' : RLL L' (s 2) (rM s')) (hKL' : RKL K' L' D) (hP' : RP L' (s 0) (s 2) (s 3) (s 8) (rT s') (rM s')) (hIT' : RIT (s 0) (s 3) (rT s')) (hIM' : RIM (s 0) (s 2) (s' 46) (rM s')) (eT : ∀ y u : Int, (0 ≤ u ∧ u ≤ 2) ∨ u = 15 → rT s' y u = rT s y u) : RC K' L' D d' b s' N' := by
  obtain ⟨hS, hA, hQ, hM, hD, hK, hL, hKL, hP, hG, hI, hIL, hIT, hIM, hU, hb⟩ := h
  have hI1 := hI
  obtain ⟨-, ⟨-, i16⟩, -⟩ := hI1
  unfold RC
  rw [elo 0 (by omega) (by omega), elo 2 (by omega) (by omega), elo 3 (by omega) (by omega), elo 8 (by omega) (by omega)]
  refine ⟨?_, ⟨fun k k0 k1 => ?_, fun k k0 k1 => ?_, fun k k0 k1 => ?_⟩, hQ', hM', hD', hK', hL', hKL', hP', ?_, ?_, fun k k0 k1 => ?_, hIT', hIM', ?_, hb⟩
  · unfold RS
    rw [ed b (by omega), ed (b + 1) (by omega), elo 1 (by omega) (by omega), elo 2 (by omega) (by omega), elo 3 (by omega) (by omega), elo 4 (by omega) (by omega), elo 5 (by omega) (by omega), elo 25 (by omega) (by omega), elo 26 (by omega) (by omega), elo 27 (by omega) (by omega), elo 28 (by omega) (by omega)]
    exact hS
  · rw [ed _ (by omega), elo _ (by omega) (by omega)]; exact hA.1 k k0 k1
  · rw [ed _ (by omega), elo _ (by omega) (by omega)]; exact hA.2.1 k k0 k1
  · rw [elo 1 (by omega) (by omega)] at k1
    rw [ed _ (by omega), elo _ (by omega) (by omega)]; exact hA.2.2 k k0 k1
  · have hG1 := RG_d hG (d' := d') (ed _ (by omega)) (ed _ (by omega))
    obtain ⟨h1, h2, h3⟩ := hG1
    refine ⟨by rw [elo 29 (by omega) (by omega)]; exact h1, h2, fun i w i0 i1 w0 w1 => ?_⟩
    rw [elo 29 (by omega) (by omega)] at i1 ⊢
    rw [ehi _ (by omega)]
    exact h3 i w i0 i1 w0 w1
  · obtain ⟨a0, a1, a2, a3, a4, a5, a6, a7, a8, a9, a10, a11, a12, a13, a14, a15, a16, a17⟩ := RI_N hI hN.1 hN.2
    unfold RI
    rw [elo 0 (by omega) (by omega), elo 1 (by omega) (by omega), elo 2 (by omega) (by omega), elo 3 (by omega) (by omega), elo 4 (by omega) (by omega), elo 5 (by omega) (by omega), elo 6 (by omega) (by omega), elo 7 (by omega) (by omega), elo 8 (by omega) (by omega), elo 9 (by omega) (by omega), elo 10 (by omega) (by omega), elo 11 (by omega) (by omega), elo 12 (by omega) (by omega), elo 13 (by omega) (by omega), elo 26 (by omega) (by omega), elo 27 (by omega) (by omega), elo 28 (by omega) (by omega), elo 29 (by omega) (by omega)]
    exact ⟨a0, a1, a2, a3, a4, a5, a6, a7, a8, a9, a10, a11, a12, a13, a14, a15, e46, a17⟩
  · rw [elo 1 (by omega) (by omega)] at k1
    rw [elo _ (by omega) (by omega), elo 0 (by omega) (by omega)]
    exact hIL k k0 k1
  · exact RU_T (RU_d hU fun c _ _ => ed c (by omega)) eT
theorem RD_c {n tm : Int} {T T' M M' : zM} (h : RD D d b n tm T M) (e : d' (b + 23) = d (b + 23)) (eT : ∀ y, T' y 2 = T y 2 ∧ T' y 10 = T y 10) (eM : ∀ y j, 0 ≤ y → y < n → j ∈ D y → M' j 3 = M j 3 ∧ M' j 7 = M j 7) : RD D d' b n tm T' M' := by
  intro y y0 yn
  rw [e, (eT y).1, (eT y).2]
  exact due_congr (Int.le_refl _) (h y y0 yn) fun j hj => eM y j y0 yn hj
/-- what is in a buffer's part that is due has left the reference's rows -/
theorem RC_D3 (h : RC K L D d b s N) {y j : Int} (hy : 0 ≤ y ∧ y < s 0) (hj : j ∈ D y) : rM s j 3 = 3 := by
  obtain ⟨-, -, -, -, hD, -⟩ := h
  have key : ∀ {P tm : Int} {l : List Int} {F E : Int}, due (rM s) P tm F l E → j ∈ l → rM s j 3 = 3 := by
    intro P tm l
    induction l with
    | nil => intro F E _ h; cases h
    | cons a l ih =>
      intro F E h hj
      rcases List.mem_cons.mp hj with e | e
      · rw [e]; exact h.1.1
      · exact ih h.2 e
  exact key (hD y hy.1 hy.2) hj
theorem RC_in0 (h : RC K L D d b s N) {x m : Int} (hx : 0 ≤ x ∧ x < s 0) (hm : m ∈ L 0 x) : (0 ≤ m ∧ m < s 2) ∧ rM s m 0 = x ∧ rM s m 8 = 1 := by
  obtain ⟨⟨i1, i2⟩, -⟩ := RC_i h
  obtain ⟨-, -, -, -, -, -, hL, -⟩ := h
  have h1 := ((hL 0 x (by omega) (by omega) hx.1 (by omega)).2 m).mp hm
  refine ⟨h1.1, ?_⟩
  have h2 := h1.2
  unfold ord at h2
  rw [if_pos rfl] at h2
  by_cases e0 : rM s m 0 = x
  · rw [if_pos e0] at h2
    by_cases e8 : rM s m 8 = 1
    · exact ⟨e0, e8⟩
    · rw [if_neg e8] at h2; omega
  · rw [if_neg e0] at h2; omega
theorem RC_in1 (h : RC K L D d b s N) {r x m : Int} (hr : r = 1 ∨ r = 2) (hx : 0 ≤ x ∧ x < s 0) (hm : m ∈ L r x) : (0 ≤ m ∧ m < s 2) ∧ rM s m 1 = x ∧ 0 < rM s m (if r = 1 then 9 else 10) := by
  obtain ⟨⟨i1, i2⟩, -⟩ := RC_i h
  obtain ⟨-, -, -, -, -, -, hL, -⟩ := h
  have h1 := ((hL r x (by omega) (by omega) hx.1 (by omega)).2 m).mp hm
  refine ⟨h1.1, ?_⟩
  have h2 := h1.2
  unfold ord at h2
  rw [if_neg (by omega)] at h2
  by_cases e0 : rM s m 1 = x
  · rw [if_pos e0] at h2
    exact ⟨e0, h2⟩
  · rw [if_neg e0] at h2; omega
theorem RC_nd (h : RC K L D d b s N) {r x : Int} (hr : 0 ≤ r ∧ r < 3) (hx : 0 ≤ x ∧ x < s 0) : (L r x).Nodup := by
  obtain ⟨⟨i1, i2⟩, -⟩ := RC_i h
  obtain ⟨-, -, -, -, -, -, hL, -⟩ := h
  exact rwl_nodup (hL r x hr.1 hr.2 hx.1 (by omega))
/-- the terminal takes the message out of its row -/
theorem RC_pop0 {x m v : Int} {l : List Int} {d1 : zD} (h : RC K L D d b s N) (hx : 0 ≤ x ∧ x < s 0) (hl : L 0 x = m :: l) (hne : rT s x 6 ≠ rT s x 9) (hv : v = 1 - rT s x 6) (hK1 : KR (uK K 0 x l) d1 b (s 2) (rM s)) (hf : ∀ c, c < b + 11 ∨ b + 14 < c → d1 c = d c) :
    RC (uK K 0 x l) (uK L 0 x l) D (zu d1 (b + 19) x.toNat v) b (uT (uM s m 8 0) x 6 v) N := by
  obtain ⟨⟨i1, i2⟩, -, i4, -, hN⟩ := RC_i h
  have hm := RC_in0 h hx (by rw [hl]; exact List.mem_cons_self)
  have hm40 : 0 ≤ m ∧ m < 40 := by omega
  have hx8 : 0 ≤ x ∧ x < 8 := by omega
  have hh := h
  obtain ⟨hS, hA, hQ, hM, hD, hK, hL, hKL, hP, hG, hI, hIL, hIT, hIM, hU, hb⟩ := hh
  have hit := hIT x hx.1 hx.2
  have hT : rT (uT (uM s m 8 0) x 6 v) = up2 (rT s) x 6 v := by rw [rT_u hx8 (by omega), rT_uM hm40 (by omega)]
  have hMe : rM (uT (uM s m 8 0) x 6 v) = up2 (rM s) m 8 0 := by rw [rM_uT hx8 (by omega), rM_u hm40 (by omega)]
  have e46 : uT (uM s m 8 0) x 6 v 46 = s 46 := by rw [uT_k hx8 (by omega) (by omega), uM_k hm40 (by omega) (by omega)]
  have hq46 : 0 ≤ s 46 ∧ s 46 ≤ N := by
    obtain ⟨-, -, -, -, -, -, -, -, -, -, -, -, -, -, -, -, q, -⟩ := hI
    exact q
  have hnd := RC_nd h (r := 0) (x := x) (by omega) hx
  rw [hl] at hnd
  refine RC_gen h (fun k k1 k2 => by rw [uT_k hx8 (by omega) (by omega), uM_k hm40 (by omega) (by omega)]) (fun k k1 => by rw [uT_k hx8 (by omega) (by omega), uM_k hm40 (by omega) (by omega)]) (by rw [e46]; exact hq46) ⟨Int.le_refl _, hN⟩ (fun c hc => by rw [zu_row (by omega), hf c (by omega)]) ?_ ?_ ?_ ?_ ?_ ?_ ?_ ?_ ?_ (fun y u hu => by rw [hT, up2_ne (by omega)])
  · rw [hT]; exact RQ_up (RQ_d hQ fun c _ _ => hf c (by omega)) hx.1 (by omega)
  · rw [hMe]
    exact RM_M (RM_d (RM_d hM fun c _ _ => hf c (by omega)) fun c _ _ => zu_row (by omega)) fun j w hw => up2_ne (by omega)
  · rw [hT, hMe]
    exact RD_c hD (by rw [zu_row (by omega), hf _ (by omega)]) (fun y => ⟨up2_ne (by omega), up2_ne (by omega)⟩) fun y j _ _ _ => ⟨up2_ne (by omega), up2_ne (by omega)⟩
  · rw [hMe]
    exact KR_s (KR_d hK1 fun c _ _ => zu_row (by omega)) (Int.le_refl _) fun j _ _ => ⟨up2_ne (by omega), up2_ne (by omega)⟩
  · rw [hMe]
    intro r y r0 r3 y0 y8
    have ho : ∀ j, j ≠ m → ord (up2 (rM s) m 8 0) r y j = ord (rM s) r y j := fun j hj => ord_congr (up2_ne (by omega)) (up2_ne (by omega)) (up2_ne (by omega)) (up2_ne (by omega)) (up2_ne (by omega))
    by_cases hq : r = 0 ∧ y = x
    · obtain ⟨rfl, rfl⟩ := hq
      rw [uK_eq]
      have hr := hL 0 y r0 r3 y0 y8
      rw [hl] at hr
      refine rwl_tail hr ?_ fun j hj _ _ => ho j hj
      unfold ord
      rw [if_pos rfl, up2_ne (by omega), if_pos hm.2.1, up2_eq, if_neg (by omega)]
      exact Int.le_refl _
    · rw [uK_ne (by omega)]
      refine rwl_congr (hL r y r0 r3 y0 y8) fun j _ _ => ?_
      by_cases hj : j = m
      · subst hj
        unfold ord
        rw [up2_ne (u := 0) (by omega), up2_ne (u := 1) (by omega)]
        by_cases hr0 : r = 0
        · rw [if_pos hr0, if_pos hr0, if_neg (by omega), if_neg (by omega)]
        · rw [if_neg hr0, if_neg hr0]
          by_cases hr1 : r = 1
          · rw [if_pos hr1, up2_ne (by omega)]
          · rw [if_neg hr1, up2_ne (by omega)]
      · exact ho j hj
  · intro y
    obtain ⟨g1, g2, g3⟩ := hKL y
    rw [uK_ne (r := 0) (r' := 1) (by omega), uK_ne (r := 0) (r' := 2) (by omega), uK_ne (r := 0) (r' := 1) (by omega), uK_ne (r := 0) (r' := 2) (by omega)]
    refine ⟨?_, g2, g3⟩
    by_cases hyx : y = x
    · subst hyx; rw [uK_eq, uK_eq]
    · rw [uK_ne (by omega), uK_ne (by omega)]; exact g1
  · rw [hT, hMe]
    refine ⟨fun y y0 yn => ?_, fun j j0 jn => ?_, fun y y0 yn => ?_⟩
    · obtain ⟨g1, g2, g3, g4⟩ := hP.1 y y0 yn
      rw [uK_ne (r := 0) (r' := 1) (by omega), up2_ne (u := 7) (by omega), up2_ne (u := 8) (by omega), up2_ne (u := 9) (by omega)]
      refine ⟨fun a q hq => ⟨fun j hj => ?_, fun hbt => ?_⟩, fun hbt => ?_, fun a q hq => ⟨fun j hj => ?_, fun hbt => ?_⟩, g4⟩
      · rw [up2_ne (by omega)]
        by_cases hyx : y = x
        · subst hyx
          rw [uK_eq] at hq
          exact (g1 m l hl).1 j (by rw [hq]; exact List.mem_cons_of_mem _ hj)
        · rw [uK_ne (by omega)] at hq
          exact (g1 a q hq).1 j hj
      · rw [up2_ne (by omega)]
        by_cases hyx : y = x
        · subst hyx
          rw [uK_eq] at hq
          exact (g1 m l hl).1 a (by rw [hq]; exact List.mem_cons_self)
        · rw [uK_ne (by omega)] at hq
          rw [up2_ne (by omega)] at hbt
          exact (g1 a q hq).2 hbt
      · by_cases hyx : y = x
        · subst hyx
          rw [up2_eq] at hbt
          omega
        · rw [uK_ne (by omega)]
          rw [up2_ne (by omega)] at hbt
          exact g2 hbt
      · rw [up2_ne (by omega)]; exact (g3 a q hq).1 j hj
      · rw [up2_ne (by omega)]; exact (g3 a q hq).2 hbt
    · by_cases hj : j = m
      · subst hj
        exact RJm_8 (hP.2.1 j j0 jn) (fun w _ hw => up2_ne (by omega)) ((hP.2.2 x hx.1 hx.2).1 hne j l hl) (up2_ne (by omega))
      · exact RJm_c (hP.2.1 j j0 jn) (fun w _ => up2_ne (Or.inl hj)) (up2_ne (by omega))
    · obtain ⟨g1, g2, g3, g4, g5, g6⟩ := hP.2.2 y y0 yn
      unfold RJx
      rw [uK_ne (r := 0) (r' := 1) (by omega), uK_ne (r := 0) (r' := 2) (by omega), up2_ne (u := 9) (by omega), up2_ne (u := 8) (by omega), up2_ne (u := 7) (by omega), up2_ne (u := 1) (by omega), up2_ne (u := 2) (by omega), up2_ne (u := 4) (by omega), up2_ne (u := 5) (by omega), up2_ne (u := 10) (by omega)]
      refine ⟨fun q a r hr => ?_, fun q a r hr => by rw [up2_ne (by omega)]; exact g2 q a r hr, g3, fun a r hr => ?_, g5, g6⟩
      · by_cases hyx : y = x
        · subst hyx
          rw [up2_eq] at q
          omega
        · rw [uK_ne (Or.inr hyx)] at hr
          rw [up2_ne (Or.inl hyx)] at q
          rw [up2_ne (by omega)]
          exact g1 q a r hr
      · obtain ⟨p1, p2⟩ := g4 a r hr
        exact ⟨by rw [up2_ne (by omega)]; exact p1, fun z hz => by rw [up2_ne (by omega)]; exact p2 z hz⟩
  · rw [hT]; exact RIT_up hIT (by omega) (by omega)
  · rw [e46, hMe]
    intro j j0 jn
    rw [up2_ne (u := 0) (by omega), up2_ne (u := 1) (by omega), up2_ne (u := 2) (by omega), up2_ne (u := 3) (by omega), up2_ne (u := 9) (by omega), up2_ne (u := 10) (by omega)]
    exact hIM j j0 jn
/-- the host takes the message out of its row -/
theorem RC_pop1 {x m v : Int} {l : List Int} {d1 : zD} (h : RC K L D d b s N) (hx : 0 ≤ x ∧ x < s 0) (hl : L 1 x = m :: l) (hne : rT s x 8 ≠ rT s x 7) (hv : v = 1 - rT s x 8) (hK1 : KR (uK K 1 x l) d1 b (s 2) (rM s)) (hf : ∀ c, c < b + 11 ∨ b + 14 < c → d1 c = d c) :
    RC (uK K 1 x l) (uK L 1 x l) D (zu d1 (b + 21) x.toNat v) b (uT (uM s m 9 0) x 8 v) N := by
  obtain ⟨⟨i1, i2⟩, -, i4, -, hN⟩ := RC_i h
  have hm := RC_in1 h (Or.inl rfl) hx (by rw [hl]; exact List.mem_cons_self)
  have hm40 : 0 ≤ m ∧ m < 40 := by omega
  have hx8 : 0 ≤ x ∧ x < 8 := by omega
  have hh := h
  obtain ⟨hS, hA, hQ, hM, hD, hK, hL, hKL, hP, hG, hI, hIL, hIT, hIM, hU, hb⟩ := hh
  have hit := hIT x hx.1 hx.2
  have hT : rT (uT (uM s m 9 0) x 8 v) = up2 (rT s) x 8 v := by rw [rT_u hx8 (by omega), rT_uM hm40 (by omega)]
  have hMe : rM (uT (uM s m 9 0) x 8 v) = up2 (rM s) m 9 0 := by rw [rM_uT hx8 (by omega), rM_u hm40 (by omega)]
  have e46 : uT (uM s m 9 0) x 8 v 46 = s 46 := by rw [uT_k hx8 (by omega) (by omega), uM_k hm40 (by omega) (by omega)]
  have hq46 : 0 ≤ s 46 ∧ s 46 ≤ N := by
    obtain ⟨-, -, -, -, -, -, -, -, -, -, -, -, -, -, -, -, q, -⟩ := hI
    exact q
  have hnd := RC_nd h (r := 1) (x := x) (by omega) hx
  rw [hl] at hnd
  refine RC_gen h (fun k k1 k2 => by rw [uT_k hx8 (by omega) (by omega), uM_k hm40 (by omega) (by omega)]) (fun k k1 => by rw [uT_k hx8 (by omega) (by omega), uM_k hm40 (by omega) (by omega)]) (by rw [e46]; exact hq46) ⟨Int.le_refl _, hN⟩ (fun c hc => by rw [zu_row (by omega), hf c (by omega)]) ?_ ?_ ?_ ?_ ?_ ?_ ?_ ?_ ?_ (fun y u hu => by rw [hT, up2_ne (by omega)])
  · rw [hT]; exact RQ_up (RQ_d hQ fun c _ _ => hf c (by omega)) hx.1 (by omega)
  · rw [hMe]
    exact RM_M (RM_d (RM_d hM fun c _ _ => hf c (by omega)) fun c _ _ => zu_row (by omega)) fun j w hw => up2_ne (by omega)
  · rw [hT, hMe]
    exact RD_c hD (by rw [zu_row (by omega), hf _ (by omega)]) (fun y => ⟨up2_ne (by omega), up2_ne (by omega)⟩) fun y j _ _ _ => ⟨up2_ne (by omega), up2_ne (by omega)⟩
  · rw [hMe]
    exact KR_s (KR_d hK1 fun c _ _ => zu_row (by omega)) (Int.le_refl _) fun j _ _ => ⟨up2_ne (by omega), up2_ne (by omega)⟩
  · rw [hMe]
    intro r y r0 r3 y0 y8
    have ho : ∀ j, j ≠ m → ord (up2 (rM s) m 9 0) r y j = ord (rM s) r y j := fun j hj => ord_congr (up2_ne (by omega)) (up2_ne (by omega)) (up2_ne (by omega)) (up2_ne (by omega)) (up2_ne (by omega))
    by_cases hq : r = 1 ∧ y = x
    · obtain ⟨rfl, rfl⟩ := hq
      rw [uK_eq]
      have hr := hL 1 y r0 r3 y0 y8
      rw [hl] at hr
      refine rwl_tail hr ?_ fun j hj _ _ => ho j hj
      unfold ord
      rw [if_neg (by omega), up2_ne (by omega), if_pos hm.2.1, if_pos rfl, up2_eq]
      exact Int.le_refl _
    · rw [uK_ne (by omega)]
      refine rwl_congr (hL r y r0 r3 y0 y8) fun j _ _ => ?_
      by_cases hj : j = m
      · subst hj
        unfold ord
        rw [up2_ne (u := 0) (by omega), up2_ne (u := 1) (by omega), up2_ne (u := 8) (by omega)]
        by_cases hr0 : r = 0
        · rw [if_pos hr0, if_pos hr0]
        · rw [if_neg hr0, if_neg hr0]
          by_cases hr1 : r = 1
          · rw [if_neg (by omega), if_neg (by omega)]
          · rw [if_neg hr1, up2_ne (by omega)]
      · exact ho j hj
  · intro y
    obtain ⟨g1, g2, g3⟩ := hKL y
    rw [uK_ne (r := 1) (r' := 0) (by omega), uK_ne (r := 1) (r' := 2) (by omega), uK_ne (r := 1) (r' := 0) (by omega), uK_ne (r := 1) (r' := 2) (by omega)]
    refine ⟨g1, ?_, g3⟩
    by_cases hyx : y = x
    · subst hyx; rw [uK_eq, uK_eq]
    · rw [uK_ne (by omega), uK_ne (by omega)]; exact g2
  · rw [hT, hMe]
    refine ⟨fun y y0 yn => ?_, fun j j0 jn => ?_, fun y y0 yn => ?_⟩
    · obtain ⟨g1, g2, g3, g4⟩ := hP.1 y y0 yn
      rw [uK_ne (r := 1) (r' := 0) (by omega), up2_ne (u := 7) (by omega), up2_ne (u := 6) (by omega), up2_ne (u := 9) (by omega)]
      refine ⟨fun a q hq => ⟨fun j hj => ?_, fun hbt => ?_⟩, g2, fun a q hq => ⟨fun j hj => ?_, fun hbt => ?_⟩, fun hbt => ?_⟩
      · rw [up2_ne (by omega)]; exact (g1 a q hq).1 j hj
      · rw [up2_ne (by omega)]; exact (g1 a q hq).2 hbt
      · rw [up2_ne (by omega)]
        by_cases hyx : y = x
        · subst hyx
          rw [uK_eq] at hq
          exact (g3 m l hl).1 j (by rw [hq]; exact List.mem_cons_of_mem _ hj)
        · rw [uK_ne (by omega)] at hq
          exact (g3 a q hq).1 j hj
      · rw [up2_ne (by omega)]
        by_cases hyx : y = x
        · subst hyx
          rw [uK_eq] at hq
          exact (g3 m l hl).1 a (by rw [hq]; exact List.mem_cons_self)
        · rw [uK_ne (by omega)] at hq
          rw [up2_ne (by omega)] at hbt
          exact (g3 a q hq).2 hbt
      · by_cases hyx : y = x
        · subst hyx
          rw [up2_eq] at hbt
          omega
        · rw [uK_ne (by omega)]
          rw [up2_ne (by omega)] at hbt
          exact g4 hbt
    · by_cases hj : j = m
      · subst hj
        exact RJm_9 (hP.2.1 j j0 jn) (fun w _ hw => up2_ne (by omega)) (by have := (hP.2.2 x hx.1 hx.2).2.1 hne j l hl; omega) (up2_ne (by omega))
      · exact RJm_c (hP.2.1 j j0 jn) (fun w _ => up2_ne (Or.inl hj)) (up2_ne (by omega))
    · obtain ⟨g1, g2, g3, g4, g5, g6⟩ := hP.2.2 y y0 yn
      unfold RJx
      rw [uK_ne (r := 1) (r' := 0) (by omega), uK_ne (r := 1) (r' := 2) (by omega), up2_ne (u := 6) (by omega), up2_ne (u := 9) (by omega), up2_ne (u := 7) (by omega), up2_ne (u := 1) (by omega), up2_ne (u := 2) (by omega), up2_ne (u := 4) (by omega), up2_ne (u := 5) (by omega), up2_ne (u := 10) (by omega)]
      refine ⟨fun q a r hr => by rw [up2_ne (by omega)]; exact g1 q a r hr, fun q a r hr => ?_, g3, fun a r hr => ?_, g5, g6⟩
      · by_cases hyx : y = x
        · subst hyx
          rw [up2_eq] at q
          omega
        · rw [uK_ne (Or.inr hyx)] at hr
          rw [up2_ne (Or.inl hyx)] at q
          rw [up2_ne (by omega)]
          exact g2 q a r hr
      · obtain ⟨p1, p2⟩ := g4 a r hr
        exact ⟨by rw [up2_ne (by omega)]; exact p1, fun z hz => by rw [up2_ne (by omega)]; exact p2 z hz⟩
  · rw [hT]; exact RIT_up hIT (by omega) (by omega)
  · rw [e46, hMe]
    intro j j0 jn
    rw [up2_ne (u := 0) (by omega), up2_ne (u := 1) (by omega), up2_ne (u := 2) (by omega), up2_ne (u := 3) (by omega), up2_ne (u := 10) (by omega)]
    obtain ⟨g0, g1, g2, g3, g9, g10, ga, gb⟩ := hIM j j0 jn
    by_cases hj : j = m
    · subst hj
      rw [up2_eq]
      exact ⟨g0, g1, g2, g3, by omega, g10, fun q => ⟨rfl, (ga q).2⟩, gb⟩
    · rw [up2_ne (Or.inl hj)]
      exact ⟨g0, g1, g2, g3, g9, g10, ga, gb⟩
end STEPS
