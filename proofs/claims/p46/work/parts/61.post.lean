/-! A message is posted. -/
theorem rwl_ext {M M' : zM} {n r x : Int} {l : List Int} (h : rwl M n r x l) (e : ∀ j, 0 ≤ j → j < n → ord M' r x j = ord M r x j) (h0 : ord M' r x n ≤ 0) : rwl M' (n + 1) r x l := by
  have h1 := rwl_congr h e
  refine ⟨h1.1, fun m => ?_⟩
  have h2 := h1.2 m
  by_cases hm : m = n
  · subst hm
    constructor
    · intro q; have := h2.mp q; omega
    · intro q; omega
  · constructor
    · intro q; have := h2.mp q; exact ⟨by omega, this.2⟩
    · intro q; exact h2.mpr ⟨by omega, q.2⟩
theorem rwl_new {M M' : zM} {n r x : Int} {l : List Int} (h : rwl M n r x l) (hn : 0 ≤ n) (e : ∀ j, 0 ≤ j → j < n → ord M' r x j = ord M r x j) (h0 : 0 < ord M' r x n) (hb : ∀ j, j ∈ l → ord M r x j < ord M' r x n) : rwl M' (n + 1) r x (l ++ [n]) := by
  have h1 := rwl_congr h e
  have hnl : n ∉ l := fun q => by have := (h1.2 n).mp q; omega
  refine ⟨List.pairwise_append.mpr ⟨h1.1, List.pairwise_singleton _ _, fun a ha c hc => ?_⟩, fun m => ?_⟩
  · rw [List.mem_singleton.mp hc, e a ((h1.2 a).mp ha).1.1 ((h1.2 a).mp ha).1.2]
    exact hb a ha
  · rw [List.mem_append, List.mem_singleton]
    have h2 := h1.2 m
    constructor
    · intro q
      rcases q with q | q
      · have := h2.mp q; exact ⟨by omega, this.2⟩
      · subst q; exact ⟨by omega, h0⟩
    · intro q
      by_cases hm : m = n
      · exact Or.inr hm
      · exact Or.inl (h2.mpr ⟨by omega, q.2⟩)
theorem LR_post {d d0 d' : zD} {b : Nat} {s s' : Nat → Int} {a r len ρ w v5 : Int} {K L : Int → Int → List Int} (h : RC K L D0 d b s (1000 * s 4 + s 2)) (hz : RZ L (s 0) (s 3) (rT s)) (hs2 : s 2 < 40) (hρ : ρ = 0 ∧ w = a ∧ a ≠ -1 ∨ ρ = 1 ∧ w = r ∧ a = -1) (hw : 0 ≤ w ∧ w < s 0) (har : (-1 ≤ a ∧ a < s 0) ∧ -1 ≤ r ∧ r < s 0) (hlen : 1 ≤ len ∧ len ≤ 20) (hv5 : (ρ = 0 → v5 = -1) ∧ (ρ = 1 → v5 = s 3))
    (elo : ∀ k, k < 50 ∨ 700 ≤ k → k ≠ 2 → k ≠ 46 → s' k = s k) (e2 : s' 2 = s 2 + 1) (e46 : s' 46 = if ρ = 1 then s 46 + 1 else s 46) (eT : rT s' = rT s) (eM : ∀ j u : Int, j ≠ s 2 → rM s' j u = rM s j u)
    (m0 : rM s' (s 2) 0 = a) (m1 : rM s' (s 2) 1 = r) (m2 : rM s' (s 2) 2 = len) (m3 : rM s' (s 2) 3 = ρ) (m4 : rM s' (s 2) 4 = s 3) (m5 : rM s' (s 2) 5 = v5) (m6 : rM s' (s 2) 6 = -1) (m7 : rM s' (s 2) 7 = -1) (m8 : rM s' (s 2) 8 = 1 - ρ) (m9 : rM s' (s 2) 9 = if ρ = 1 then s 46 + 1 else 0) (m10 : rM s' (s 2) 10 = 0)
    (hd0 : ∀ c, c ≠ b + 1 → c ≠ b + 2 → c ≠ b + 3 → c ≠ b + 4 → c ≠ b + 5 → c ≠ b + 6 → c ≠ b + 7 → c ≠ b + 8 → c ≠ b + 9 → d0 c = d c) (d01 : d0 (b + 1) 0 = s 2 + 1)
    (hdo : ∀ (o : Nat) (j : Int), 2 ≤ o → o ≤ 9 → 0 ≤ j → j ≠ s 2 → d0 (b + o) j.toNat = d (b + o) j.toNat)
    (n2 : d0 (b + 2) (s 2).toNat = a) (n3 : d0 (b + 3) (s 2).toNat = r) (n4 : d0 (b + 4) (s 2).toNat = len) (n5 : d0 (b + 5) (s 2).toNat = ρ) (n6 : d0 (b + 6) (s 2).toNat = s 3) (n7 : d0 (b + 7) (s 2).toNat = v5) (n8 : d0 (b + 8) (s 2).toNat = -1) (n9 : d0 (b + 9) (s 2).toNat = -1)
    (hK' : KR (uK K ρ w (K ρ w ++ [s 2])) d' b (s 2 + 1) (rM s')) (hd' : ∀ c, c < b + 11 ∨ b + 14 < c → d' c = d0 c) : LR d' b s' := by
  obtain ⟨⟨i1, i2⟩, i3, i4, i5, iN⟩ := RC_i h
  have hq46 := RC_q h
  have hin1 := fun {r y j} hr hy hj => RC_in1 h (r := r) (x := y) (m := j) hr hy hj
  have hin0 := fun {y j} hy hj => RC_in0 h (x := y) (m := j) hy hj
  obtain ⟨hS, hA, hQ, hM, hD, hK, hL, hKL, hP, hG, hI, hIL, hIT, hIM, hU, hb⟩ := h
  have e0 := elo 0 (by omega) (by omega) (by omega)
  have e3 := elo 3 (by omega) (by omega) (by omega)
  have e4 := elo 4 (by omega) (by omega) (by omega)
  have er : ∀ c, c < b + 1 ∨ b + 15 ≤ c → d' c = d c := fun c hc => by rw [hd' c (by omega), hd0 c (by omega) (by omega) (by omega) (by omega) (by omega) (by omega) (by omega) (by omega) (by omega)]
  refine ⟨uK K ρ w (K ρ w ++ [s 2]), uK L ρ w (L ρ w ++ [s 2]), ?_, ?_⟩
  · unfold RC
    rw [e0, e2, e3, e4, eT, e46, elo 8 (by omega) (by omega) (by omega)]
    refine ⟨?_, ⟨fun k k0 k1 => ?_, fun k k0 k1 => ?_, fun k k0 k1 => ?_⟩, RQ_d hQ fun c _ _ => er c (by omega), fun j j0 jn => ?_, fun y y0 yn => ?_, hK', fun r' x' r0 r3 x0 x8 => ?_, fun x' => ?_, ⟨fun y y0 yn => ?_, fun j j0 jn => ?_, fun y y0 yn => ?_⟩, ?_, ?_, fun k k0 k1 => ?_, hIT, fun j j0 jn => ?_, RU_d hU fun c _ _ => er c (by omega), hb⟩
    · obtain ⟨t1, t2, t3, t4, t5, t6, t7, t8, t9⟩ := hS
      unfold RS
      rw [er b (by omega), hd' (b + 1) (by omega), d01, e2, elo 1 (by omega) (by omega) (by omega), e3, e4, elo 5 (by omega) (by omega) (by omega), elo 25 (by omega) (by omega) (by omega), elo 26 (by omega) (by omega) (by omega), elo 27 (by omega) (by omega) (by omega), elo 28 (by omega) (by omega) (by omega)]
      exact ⟨t1, t2, t3, t4, t5, t6, t7, t8, rfl⟩
    · rw [er _ (by omega), elo _ (by omega) (by omega) (by omega)]; exact hA.1 k k0 k1
    · rw [er _ (by omega), elo _ (by omega) (by omega) (by omega)]; exact hA.2.1 k k0 k1
    · rw [elo 1 (by omega) (by omega) (by omega)] at k1
      rw [er _ (by omega), elo _ (by omega) (by omega) (by omega)]; exact hA.2.2 k k0 k1
    · rw [hd' (b + 2) (by omega), hd' (b + 3) (by omega), hd' (b + 4) (by omega), hd' (b + 5) (by omega), hd' (b + 6) (by omega), hd' (b + 7) (by omega), hd' (b + 8) (by omega), hd' (b + 9) (by omega)]
      by_cases hj : j = s 2
      · subst hj
        rw [n2, n3, n4, n5, n6, n7, n8, n9, m0, m1, m2, m3, m4, m5, m6, m7]
        exact ⟨rfl, rfl, rfl, rfl, rfl, rfl, fun _ => ⟨rfl, rfl⟩⟩
      · rw [hdo 2 j (by omega) (by omega) j0 hj, hdo 3 j (by omega) (by omega) j0 hj, hdo 4 j (by omega) (by omega) j0 hj, hdo 5 j (by omega) (by omega) j0 hj, hdo 6 j (by omega) (by omega) j0 hj, hdo 7 j (by omega) (by omega) j0 hj, hdo 8 j (by omega) (by omega) j0 hj, hdo 9 j (by omega) (by omega) j0 hj, eM j 0 hj, eM j 1 hj, eM j 2 hj, eM j 3 hj, eM j 4 hj, eM j 5 hj, eM j 6 hj, eM j 7 hj]
        exact hM j j0 (by omega)
    · rw [er _ (by omega)]
      exact hD y y0 yn
    · have ho : ∀ j, 0 ≤ j → j < s 2 → ord (rM s') r' x' j = ord (rM s) r' x' j := fun j j0 jn => ord_congr (eM _ _ (by omega)) (eM _ _ (by omega)) (eM _ _ (by omega)) (eM _ _ (by omega)) (eM _ _ (by omega))
      by_cases hq : r' = ρ ∧ x' = w
      · obtain ⟨rfl, rfl⟩ := hq
        rw [uK_eq]
        have hom : ord (rM s') r' x' (s 2) = if r' = 1 then s 46 + 1 else s 2 + 1 := by
          unfold ord
          rw [m0, m1, m8]
          rcases hρ with ⟨h1, h2, h3⟩ | ⟨h1, h2, h3⟩
          · rw [if_pos h1, if_pos h2.symm, if_pos (by omega), if_neg (by omega)]
          · rw [if_neg (by omega), if_pos h2.symm, if_pos h1, m9, if_pos h1, if_pos h1]
        refine rwl_new (hL r' x' r0 r3 x0 x8) i4.1 ho (by rw [hom]; split <;> omega) fun j hj => ?_
        rw [hom]
        have hj1 := ((hL r' x' r0 r3 x0 x8).2 j).mp hj
        rcases hρ with ⟨h1, h2, h3⟩ | ⟨h1, h2, h3⟩
        · rw [if_neg (by omega)]
          have := hin0 (y := x') hw (by rw [h1] at hj; exact hj)
          unfold ord
          rw [if_pos h1, if_pos this.2.1, if_pos this.2.2]
          omega
        · rw [if_pos h1]
          have g := hin1 (r := 1) (Or.inl rfl) (y := x') hw (by rw [h1] at hj; exact hj)
          have := (hIM j g.1.1 g.1.2).2.2.2.2.1
          unfold ord
          rw [if_neg (by omega), if_pos g.2.1, if_pos h1]
          omega
      · rw [uK_ne (by omega)]
        refine rwl_ext (hL r' x' r0 r3 x0 x8) ho ?_
        unfold ord
        rw [m0, m1, m8]
        rcases hρ with ⟨h1, h2, h3⟩ | ⟨h1, h2, h3⟩
        · by_cases hr0 : r' = 0
          · rw [if_pos hr0, if_neg (by omega)]
            exact Int.le_refl _
          · rw [if_neg hr0]
            split
            · split
              · rw [m9, if_neg (by omega)]; exact Int.le_refl _
              · rw [m10]; exact Int.le_refl _
            · exact Int.le_refl _
        · by_cases hr0 : r' = 0
          · rw [if_pos hr0]
            split
            · rw [if_neg (by omega)]; exact Int.le_refl _
            · exact Int.le_refl _
          · rw [if_neg hr0]
            by_cases hr1 : r' = 1
            · rw [if_neg (by omega)]; exact Int.le_refl _
            · rw [if_neg hr1, m10]
              split <;> exact Int.le_refl _
    · obtain ⟨g1, g2, g3⟩ := hKL x'
      refine ⟨?_, ?_, ?_⟩
      · by_cases hq : (0 : Int) = ρ ∧ x' = w
        · obtain ⟨rfl, rfl⟩ := hq; rw [uK_eq, uK_eq, g1]
        · rw [uK_ne (by omega), uK_ne (by omega)]; exact g1
      · by_cases hq : (1 : Int) = ρ ∧ x' = w
        · obtain ⟨rfl, rfl⟩ := hq; rw [uK_eq, uK_eq, g2]
        · rw [uK_ne (by omega), uK_ne (by omega)]; exact g2
      · rw [uK_ne (by omega), uK_ne (by omega)]; exact g3
    · obtain ⟨g1, g2, g3, g4⟩ := hP.1 y y0 yn
      have o0 : ∀ j, j ∈ L 0 y → rM s' j 3 = rM s j 3 := fun j hj => eM _ _ (by have := hin0 (y := y) ⟨y0, yn⟩ hj; omega)
      have o1 : ∀ j, j ∈ L 1 y → rM s' j 3 = rM s j 3 := fun j hj => eM _ _ (by have := hin1 (r := 1) (Or.inl rfl) (y := y) ⟨y0, yn⟩ hj; omega)
      refine ⟨fun c q hq => ?_, fun hbt => ?_, fun c q hq => ?_, fun hbt => ?_⟩
      · by_cases hqq : (0 : Int) = ρ ∧ y = w
        · obtain ⟨h1, rfl⟩ := hqq
          have hst : rM s' (s 2) 3 = 0 := m3.trans h1.symm
          rw [← h1, uK_eq] at hq
          cases hl : L 0 y with
          | nil =>
            rw [hl] at hq
            cases hq
            exact ⟨fun j hj => (nomatch hj), fun _ => hst⟩
          | cons c1 q1 =>
            rw [hl] at hq
            cases hq
            refine ⟨fun j hj => ?_, fun hbt => ?_⟩
            · rcases List.mem_append.mp hj with hj | hj
              · rw [o0 j (by rw [hl]; exact List.mem_cons_of_mem _ hj)]; exact (g1 _ _ hl).1 j hj
              · rw [List.mem_singleton.mp hj]; exact hst
            · rw [o0 _ (by rw [hl]; exact List.mem_cons_self)]; exact (g1 _ _ hl).2 hbt
        · rw [uK_ne (by omega)] at hq
          exact ⟨fun j hj => by rw [o0 j (by rw [hq]; exact List.mem_cons_of_mem _ hj)]; exact (g1 c q hq).1 j hj, fun hbt => by rw [o0 c (by rw [hq]; exact List.mem_cons_self)]; exact (g1 c q hq).2 hbt⟩
      · by_cases hqq : (0 : Int) = ρ ∧ y = w
        · obtain ⟨h1, rfl⟩ := hqq
          rw [← h1, uK_eq]
          simp
        · rw [uK_ne (by omega)]; exact g2 hbt
      · by_cases hqq : (1 : Int) = ρ ∧ y = w
        · obtain ⟨h1, rfl⟩ := hqq
          have hst : rM s' (s 2) 3 = 1 := m3.trans h1.symm
          rw [← h1, uK_eq] at hq
          cases hl : L 1 y with
          | nil =>
            rw [hl] at hq
            cases hq
            exact ⟨fun j hj => (nomatch hj), fun _ => hst⟩
          | cons c1 q1 =>
            rw [hl] at hq
            cases hq
            refine ⟨fun j hj => ?_, fun hbt => ?_⟩
            · rcases List.mem_append.mp hj with hj | hj
              · rw [o1 j (by rw [hl]; exact List.mem_cons_of_mem _ hj)]; exact (g3 _ _ hl).1 j hj
              · rw [List.mem_singleton.mp hj]; exact hst
            · rw [o1 _ (by rw [hl]; exact List.mem_cons_self)]; exact (g3 _ _ hl).2 hbt
        · rw [uK_ne (by omega)] at hq
          exact ⟨fun j hj => by rw [o1 j (by rw [hq]; exact List.mem_cons_of_mem _ hj)]; exact (g3 c q hq).1 j hj, fun hbt => by rw [o1 c (by rw [hq]; exact List.mem_cons_self)]; exact (g3 c q hq).2 hbt⟩
      · by_cases hqq : (1 : Int) = ρ ∧ y = w
        · obtain ⟨h1, rfl⟩ := hqq
          rw [← h1, uK_eq]
          simp
        · rw [uK_ne (by omega)]; exact g4 hbt
    · by_cases hj : j = s 2
      · subst hj
        obtain ⟨hva, hvb⟩ := hv5
        unfold RJm
        rw [m0, m1, m2, m3, m4, m5, m6, m7, m8, m9, m10]
        refine ⟨fun q => ⟨hva q, rfl, rfl, ?_, ?_⟩, fun q => ⟨?_, fun q2 => ?_, ?_⟩, fun q => Or.inl ?_, fun q => ⟨fun q2 => ⟨rfl, rfl, ?_⟩, fun q2 => ?_, fun q2 => ?_, fun q2 => ?_⟩, fun q => rfl, Int.le_refl _⟩
        · clear hva hvb; omega
        · clear hva hvb; omega
        · rw [hvb (by clear hva hvb; omega)]; exact Int.le_refl _
        · exact absurd (show a = -1 by clear hva hvb; omega) q2
        · rw [hvb (by clear hva hvb; omega)]; exact Int.le_refl _
        · clear hva hvb; omega
        · rw [if_pos q2]; clear hva hvb; omega
        · exact absurd q2 (by clear hva hvb; omega)
        · exact absurd q2 (by clear hva hvb; omega)
        · exact absurd q2 (by clear hva hvb; omega)
      · exact RJm_c (hP.2.1 j j0 (by clear hv5; omega)) (fun u _ => eM _ _ hj) rfl
    · clear hv5
      obtain ⟨g1, g2, g3, g4, g5, g6⟩ := hP.2.2 y y0 yn
      have k2 := (hP.1 y y0 yn).2.1
      have k4 := (hP.1 y y0 yn).2.2.2
      have o0 : ∀ j, j ∈ L 0 y → rM s' j 3 = rM s j 3 := fun j hj => eM _ _ (by have := hin0 (y := y) ⟨y0, yn⟩ hj; omega)
      have o1 : ∀ j, j ∈ L 1 y → rM s' j 3 = rM s j 3 := fun j hj => eM _ _ (by have := hin1 (r := 1) (Or.inl rfl) (y := y) ⟨y0, yn⟩ hj; omega)
      have o2 : ∀ j, j ∈ L 2 y → rM s' j 6 = rM s j 6 := fun j hj => eM _ _ (by have := hin1 (r := 2) (Or.inr rfl) (y := y) ⟨y0, yn⟩ hj; omega)
      unfold RJx
      rw [uK_ne (r := ρ) (r' := 2) (by omega)]
      refine ⟨fun q c r' hr' => ?_, fun q c r' hr' => ?_, g3, fun c r' hr' => ?_, g5, g6⟩
      · by_cases hqq : (0 : Int) = ρ ∧ y = w
        · obtain ⟨h1, rfl⟩ := hqq
          rw [← h1, uK_eq] at hr'
          cases hl : L 0 y with
          | nil => exact absurd hl (k2 q)
          | cons c1 q1 =>
            rw [hl] at hr'
            cases hr'
            rw [o0 _ (by rw [hl]; exact List.mem_cons_self)]
            exact g1 q _ _ hl
        · rw [uK_ne (by omega)] at hr'
          rw [o0 c (by rw [hr']; exact List.mem_cons_self)]
          exact g1 q _ _ hr'
      · by_cases hqq : (1 : Int) = ρ ∧ y = w
        · obtain ⟨h1, rfl⟩ := hqq
          rw [← h1, uK_eq] at hr'
          cases hl : L 1 y with
          | nil => exact absurd hl (k4 q)
          | cons c1 q1 =>
            rw [hl] at hr'
            cases hr'
            rw [o1 _ (by rw [hl]; exact List.mem_cons_self)]
            exact g2 q _ _ hl
        · rw [uK_ne (by omega)] at hr'
          rw [o1 c (by rw [hr']; exact List.mem_cons_self)]
          exact g2 q _ _ hr'
      · obtain ⟨p1, p2⟩ := g4 c r' hr'
        exact ⟨by rw [o2 c (by rw [hr']; exact List.mem_cons_self)]; exact p1, fun z hz => by rw [o2 z (by rw [hr']; exact List.mem_cons_of_mem _ hz)]; exact p2 z hz⟩
    · obtain ⟨g1, g2, g3⟩ := hG
      refine ⟨by rw [er _ (by omega), elo 29 (by omega) (by omega) (by omega)]; exact g1, by rw [er _ (by omega)]; exact g2, fun i u i0 i1 w0 w1 => ?_⟩
      rw [elo 29 (by omega) (by omega) (by omega)] at i1 ⊢
      rw [er _ (by omega), er _ (by omega), elo _ (by omega) (by omega) (by omega)]
      exact g3 i u i0 i1 w0 w1
    · obtain ⟨a0, a1, a2, a3, a4, a5, a6, a7, a8, a9, a10, a11, a12, a13, a14, a15, a16, a17⟩ := hI
      unfold RI
      rw [e0, e2, e3, e4, e46, elo 1 (by omega) (by omega) (by omega), elo 5 (by omega) (by omega) (by omega), elo 6 (by omega) (by omega) (by omega), elo 7 (by omega) (by omega) (by omega), elo 8 (by omega) (by omega) (by omega), elo 9 (by omega) (by omega) (by omega), elo 10 (by omega) (by omega) (by omega), elo 11 (by omega) (by omega) (by omega), elo 12 (by omega) (by omega) (by omega), elo 13 (by omega) (by omega) (by omega), elo 26 (by omega) (by omega) (by omega), elo 27 (by omega) (by omega) (by omega), elo 28 (by omega) (by omega) (by omega), elo 29 (by omega) (by omega) (by omega)]
      exact ⟨a0, a1, by omega, by omega, a4, a5, a6, a7, a8, a9, a10, a11, a12, a13, a14, a15, by split <;> omega, by omega⟩
    · rw [elo 1 (by omega) (by omega) (by omega)] at k1
      rw [elo _ (by omega) (by omega) (by omega), e0]
      exact hIL k k0 k1
    · by_cases hj : j = s 2
      · subst hj
        rw [m0, m1, m2, m3, m9, m10]
        refine ⟨har.1, har.2, hlen, by omega, ?_, ?_, ?_, fun _ => rfl⟩
        · split <;> omega
        · split <;> omega
        · intro h0
          rw [if_neg (by omega)]
          exact ⟨rfl, rfl⟩
      · obtain ⟨g0, g1, g2, g3, g9, g10, ga, gb⟩ := hIM j j0 (by omega)
        rw [eM _ _ hj, eM _ _ hj, eM _ _ hj, eM _ _ hj, eM _ _ hj, eM _ _ hj]
        exact ⟨g0, g1, g2, g3, by split <;> omega, by split <;> omega, ga, gb⟩
  · rw [e0, e3, eT]
    intro y y0 yn hne
    rw [uK_ne (by omega)] at hne
    exact hz y y0 yn hne
theorem L_zero {a r l m : Int} (hm : 0 ≤ m ∧ m < 40) : ∀ (k q : Nat) {ds : zD} {i : Int}, 0 ≤ i → i + k = 12 → k < q → ∃ ds' q', l_X12_postsNow_21 q a r l m i ds = l_X12_postsNow_21F q' a r l m 12 ds' ∧ Fs ds ds' ∧ (∀ j, j < 200 ∨ 680 ≤ j → ds' 401 j = ds 401 j) ∧ (∀ j u : Int, rM (ds' 401) j u = if j = m ∧ i ≤ u ∧ u < 12 then 0 else rM (ds 401) j u) := by
  intro k
  induction k with
  | zero =>
    intro q ds i i0 ik hq
    obtain ⟨q, rfl⟩ : ∃ q0, q = q0 + 1 := ⟨q - 1, by omega⟩
    have hi : i = 12 := by omega
    subst hi
    exact ⟨ds, l_X12_postsNow_21 q, rfl, Fs.rf, fun _ _ => rfl, fun j u => by rw [if_neg (by omega)]⟩
  | succ k ih =>
    intro q ds i i0 ik hq
    obtain ⟨q, rfl⟩ : ∃ q0, q = q0 + 1 := ⟨q - 1, by omega⟩
    obtain ⟨d2, q2, r1, r2, r3, r4⟩ := ih q (ds := mD ds m i 0) (i := i + 1) (by omega) (by omega) (by omega)
    refine ⟨d2, q2, ?_, Fs.tr Fs.u r2, fun j hj => ?_, fun j u => ?_⟩
    · rw [← r1]
      show l_X12_postsNow_21F _ a r l m i ds = _
      unfold l_X12_postsNow_21F
      rw [if_neg (by omega), e_tells hm (by omega), zc_n, zl_n, zw_id (by omega) (by omega)]
    · rw [r3 j hj, mD_s, uM_k hm (by omega) (by omega)]
    · rw [r4, mD_s, rM_u hm (by omega)]
      unfold up2
      by_cases h1 : j = m ∧ i + 1 ≤ u ∧ u < 12
      · rw [if_pos h1, if_pos (by omega)]
      · rw [if_neg h1]
        by_cases h2 : j = m ∧ u = i
        · rw [if_pos h2, if_pos (by omega)]
        · rw [if_neg h2, if_neg (by omega)]
theorem rT_lo {s s' : Nat → Int} (e : ∀ j, j < 200 → s' j = s j) : rT s' = rT s := by
  funext y u
  unfold rT
  split
  · rw [e _ (by omega)]
  · rfl
/-- eight numbers of a message, told one by one -/
theorem R_post {dc ds : zD} {a r len : Int} (h : LR dc 30 (ds 401)) (hs2 : ds 401 2 < 40) (har : (-1 ≤ a ∧ a < ds 401 0) ∧ -1 ≤ r ∧ r < ds 401 0) (hne : a ≠ r) (hlen : 1 ≤ len ∧ len ≤ 20) : ∃ dc' ds', f_X2_addMessage 30 a r len dc = some (ds 401 2, dc') ∧ f_X12_postsNow a r len ds = some (ds 401 2, ds') ∧ LR dc' 30 (ds' 401) ∧ (ds' 401 4 = ds 401 4 ∧ ds' 401 2 = ds 401 2 + 1) ∧ (∀ c, c < 30 ∨ 60 ≤ c → dc' c = dc c) ∧ Fs ds ds' := by
  obtain ⟨i0, i1, i2, i4, -⟩ := LR_2 h
  have sm := LR_s2 h
  obtain ⟨-, s9, -⟩ := LR_10 h
  have h' := h
  obtain ⟨K, L, hr, hz⟩ := h'
  obtain ⟨-, -, -, i5, iN⟩ := RC_i hr
  have hq46 := RC_q hr
  have hh := hr
  obtain ⟨-, -, -, -, -, hK, hL, hKL, -⟩ := hh
  have e2 : ds 401 (2 : Int).toNat = ds 401 2 := rfl
  generalize hm : ds 401 2 = m at *
  have hm40 : 0 ≤ m ∧ m < 40 := by omega
  have w12 : ∀ {k : Int}, 0 ≤ k → k < 12 → 0 ≤ k ∧ k < 12 := fun a b => ⟨a, b⟩
  -- the reference
  obtain ⟨s1, q', z1, z2, z3, z4⟩ := L_zero (a := a) (r := r) (l := len) hm40 12 zF (ds := zu ds 401 2 (m + 1)) (i := 0) (by omega) (by omega) (by have := zF_big; omega)
  have zs : zu ds 401 2 (m + 1) 401 = us (ds 401) 2 (m + 1) := zu_r
  have s12 : s1 401 2 = m + 1 := by rw [z3 2 (by omega), zu_eq]
  have s1k : ∀ j, j < 200 ∨ 680 ≤ j → j ≠ 2 → s1 401 j = ds 401 j := fun j hj h2 => by rw [z3 j hj, zu_ne (Or.inr h2)]
  have s13 : s1 401 3 = ds 401 3 := s1k 3 (by omega) (by omega)
  have s1M : ∀ j u : Int, rM (s1 401) j u = if j = m ∧ 0 ≤ u ∧ u < 12 then 0 else rM (ds 401) j u := fun j u => by rw [z4, zs, rM_f (by omega)]
  have s1T : rT (s1 401) = rT (ds 401) := by
    funext y u
    unfold rT
    split
    · rw [s1k _ (by omega) (by omega)]
    · rfl
  have eref : f_X12_postsNow a r len ds = if a = -1 then some (m, mD (zu (mD (mD (mD (mD (mD (mD (mD (mD (mD s1 m 0 a) m 1 r) m 2 len) m 4 (ds 401 3)) m 5 (-1)) m 6 (-1)) m 7 (-1)) m 3 1) m 5 (ds 401 3)) 401 46 (ds 401 46 + 1)) m 9 (ds 401 46 + 1)) else some (m, mD (mD (mD (mD (mD (mD (mD (mD s1 m 0 a) m 1 r) m 2 len) m 4 (ds 401 3)) m 5 (-1)) m 6 (-1)) m 7 (-1)) m 8 1) := by
    unfold f_X12_postsNow
    rw [zg_t (by omega), zl_n, e2, zl_n, zw_id (by omega) (by omega), zg_t (by omega), zl_n]
    show l_X12_postsNow_21 zF a r len m 0 (zu ds 401 2 (m + 1)) = _
    rw [z1]
    unfold l_X12_postsNow_21F
    rw [if_pos (by omega), e_tells hm40 (by omega), zc_n, e_tells hm40 (by omega), zc_n, e_tells hm40 (by omega), zc_n, zg_t (by omega), zl_n]
    have t3 : mD (mD (mD s1 m 0 a) m 1 r) m 2 len 401 (3 : Int).toNat = ds 401 3 := by
      show mD (mD (mD s1 m 0 a) m 1 r) m 2 len 401 3 = _
      rw [mD_s, mD_s, mD_s, uM_k hm40 (by omega) (by omega), uM_k hm40 (by omega) (by omega), uM_k hm40 (by omega) (by omega), s13]
    rw [t3, e_tells hm40 (by omega), zc_n, e_tells hm40 (by omega), zc_n, e_tells hm40 (by omega), zc_n, e_tells hm40 (by omega), zc_n]
    by_cases ha : a = -1
    · rw [if_pos ha, if_pos ha, e_tells hm40 (by omega), zc_n, zg_t (by omega), zl_n]
      have t3b : mD (mD (mD (mD (mD (mD (mD (mD s1 m 0 a) m 1 r) m 2 len) m 4 (ds 401 3)) m 5 (-1)) m 6 (-1)) m 7 (-1)) m 3 1 401 (3 : Int).toNat = ds 401 3 := by
        show mD (mD (mD (mD (mD (mD (mD (mD s1 m 0 a) m 1 r) m 2 len) m 4 (ds 401 3)) m 5 (-1)) m 6 (-1)) m 7 (-1)) m 3 1 401 3 = _
        rw [mD_s, mD_s, mD_s, mD_s, mD_s, mD_s, mD_s, mD_s, uM_k hm40 (by omega) (by omega), uM_k hm40 (by omega) (by omega), uM_k hm40 (by omega) (by omega), uM_k hm40 (by omega) (by omega), uM_k hm40 (by omega) (by omega), uM_k hm40 (by omega) (by omega), uM_k hm40 (by omega) (by omega), uM_k hm40 (by omega) (by omega), s13]
      have t46 : mD (mD (mD (mD (mD (mD (mD (mD (mD s1 m 0 a) m 1 r) m 2 len) m 4 (ds 401 3)) m 5 (-1)) m 6 (-1)) m 7 (-1)) m 3 1) m 5 (ds 401 3) 401 46 = ds 401 46 := by
        rw [mD_s, mD_s, mD_s, mD_s, mD_s, mD_s, mD_s, mD_s, mD_s, uM_k hm40 (by omega) (by omega), uM_k hm40 (by omega) (by omega), uM_k hm40 (by omega) (by omega), uM_k hm40 (by omega) (by omega), uM_k hm40 (by omega) (by omega), uM_k hm40 (by omega) (by omega), uM_k hm40 (by omega) (by omega), uM_k hm40 (by omega) (by omega), uM_k hm40 (by omega) (by omega), s1k 46 (by omega) (by omega)]
      rw [t3b, e_tells hm40 (by omega), zc_n, e_nextNumber, zc_n, t46, zw_id (by omega) (by omega), e_tells hm40 (by omega), zc_n]
    · rw [if_neg ha, if_neg ha, e_tells hm40 (by omega), zc_n]
  -- the class, ahead of the row
  have ecl : ∀ {x : Option (Int × zD)} {ρ w v5 : Int}, (ρ = 0 ∧ w = a ∧ a ≠ -1 ∧ v5 = -1 ∨ ρ = 1 ∧ w = r ∧ a = -1 ∧ v5 = ds 401 3) → zc (f_X4_append 30 ρ w m (zu (zu (zu (zu (zu (zu (zu (zu (zu dc (30 + 1) 0 (m + 1)) (30 + 2) m.toNat a) (30 + 3) m.toNat r) (30 + 4) m.toNat len) (30 + 6) m.toNat (ds 401 3)) (30 + 7) m.toNat v5) (30 + 8) m.toNat (-1)) (30 + 9) m.toNat (-1)) (30 + 5) m.toNat ρ)) (fun _ d => some (m, d)) = x → f_X2_addMessage 30 a r len dc = x := fun {x ρ w v5} hρ hx => by
    unfold f_X2_addMessage j_X2_addMessage_100 j_X2_addMessage_133 j_X2_addMessage_163
    have t9 : (zu (zu (zu (zu dc (30 + 1) 0 (m + 1)) (30 + 2) m.toNat a) (30 + 3) m.toNat r) (30 + 4) m.toNat len) 30 9 = ds 401 3 := by rw [zu_row (by omega), zu_row (by omega), zu_row (by omega), zu_row (by omega)]; exact s9
    have t9b : (zu (zu (zu (zu (zu dc (30 + 1) 0 (m + 1)) (30 + 2) m.toNat a) (30 + 3) m.toNat r) (30 + 4) m.toNat len) (30 + 6) m.toNat (ds 401 3)) 30 9 = ds 401 3 := by rw [zu_row (by omega), zu_row (by omega), zu_row (by omega), zu_row (by omega), zu_row (by omega)]; exact s9
    rw [zl_n, sm, if_pos (by omega), zl_n, zl_n, zw_id (by omega) (by omega), zl_n, zg_t (by omega), zl_n, zg_t (by omega), zl_n, zg_t (by omega), zl_n, zl_n, t9, zg_t (by omega), zl_n]
    rcases hρ with ⟨h1, h2, h3, h4⟩ | ⟨h1, h2, h3, h4⟩
    · rw [if_neg h3, zg_t (by omega), zl_n, zg_t (by omega), zl_n, zg_t (by omega), zl_n, if_neg h3, zg_t (by omega), zl_n, if_neg h3]
      rw [← hx, h1, h2, h4]
    · rw [if_pos h3, zl_n, t9b, zg_t (by omega), zl_n, zg_t (by omega), zl_n, zg_t (by omega), zl_n, if_pos h3, zg_t (by omega), zl_n, if_pos h3]
      rw [← hx, h1, h2, h4]
  have fin : ∀ {ρ w v5 : Int} {s' : zD}, (ρ = 0 ∧ w = a ∧ a ≠ -1 ∧ v5 = -1 ∨ ρ = 1 ∧ w = r ∧ a = -1 ∧ v5 = ds 401 3) → f_X12_postsNow a r len ds = some (m, s') → Fs ds s' → (∀ k, k < 50 ∨ 700 ≤ k → k ≠ 2 → k ≠ 46 → s' 401 k = ds 401 k) → s' 401 2 = m + 1 → s' 401 46 = (if ρ = 1 then ds 401 46 + 1 else ds 401 46) → rT (s' 401) = rT (ds 401) → (∀ j u : Int, j ≠ m → rM (s' 401) j u = rM (ds 401) j u) → rM (s' 401) m 0 = a → rM (s' 401) m 1 = r → rM (s' 401) m 2 = len → rM (s' 401) m 3 = ρ → rM (s' 401) m 4 = ds 401 3 → rM (s' 401) m 5 = v5 → rM (s' 401) m 6 = -1 → rM (s' 401) m 7 = -1 → rM (s' 401) m 8 = 1 - ρ → rM (s' 401) m 9 = (if ρ = 1 then ds 401 46 + 1 else 0) → rM (s' 401) m 10 = 0 → ∃ dc' ds', f_X2_addMessage 30 a r len dc = some (m, dc') ∧ f_X12_postsNow a r len ds = some (m, ds') ∧ LR dc' 30 (ds' 401) ∧ (ds' 401 4 = ds 401 4 ∧ ds' 401 2 = m + 1) ∧ (∀ c, c < 30 ∨ 60 ≤ c → dc' c = dc c) ∧ Fs ds ds' := fun {ρ w v5 s'} hρ hres hfs elo e2' e46 eT eM m0 m1 m2 m3 m4 m5 m6 m7 m8 m9 m10 => by
    have hw : 0 ≤ w ∧ w < ds 401 0 := by omega
    have hmw : m ∉ K ρ w := fun q => by
      have := (hK ρ w (by omega) (by omega) (by omega) (by omega)).2.2 m q
      omega
    have hK0 : KR K (zu (zu (zu (zu (zu (zu (zu (zu (zu dc (30 + 1) 0 (m + 1)) (30 + 2) m.toNat a) (30 + 3) m.toNat r) (30 + 4) m.toNat len) (30 + 6) m.toNat (ds 401 3)) (30 + 7) m.toNat v5) (30 + 8) m.toNat (-1)) (30 + 9) m.toNat (-1)) (30 + 5) m.toNat ρ) 30 (m + 1) (rM (s' 401)) := KR_s (KR_d hK fun c _ _ => by rw [zu_row (by omega), zu_row (by omega), zu_row (by omega), zu_row (by omega), zu_row (by omega), zu_row (by omega), zu_row (by omega), zu_row (by omega), zu_row (by omega)]) (by omega) fun j j0 jn => ⟨eM _ _ (by omega), eM _ _ (by omega)⟩
    obtain ⟨d', p1, p2, p3⟩ := KR_append hK0 (r := ρ) (x := w) (m := m) (by omega) (by omega) (by omega) (by
      unfold own
      rcases hρ with ⟨h1, h2, -⟩ | ⟨h1, h2, -⟩
      · rw [if_pos h1, m0, h2]
      · rw [if_neg (by omega), m1, h2]) hmw
    refine ⟨d', s', ecl hρ (by rw [p1, zc_n]), hres, ?_, ⟨elo 4 (by omega) (by omega) (by omega), e2'⟩, fun c hc => by rw [p3 c (by omega), zu_row (by omega), zu_row (by omega), zu_row (by omega), zu_row (by omega), zu_row (by omega), zu_row (by omega), zu_row (by omega), zu_row (by omega), zu_row (by omega)], hfs⟩
    rw [← hm] at hr p2 eM m0 m1 m2 m3 m4 m5 m6 m7 m8 m9 m10 e2'
    refine LR_post hr hz (by omega) (by omega) hw har hlen ⟨fun q => by omega, fun q => by omega⟩ elo e2' e46 eT eM m0 m1 m2 m3 m4 m5 m6 m7 m8 m9 m10 (fun c h1 h2 h3 h4 h5 h6 h7 h8 h9 => by rw [zu_row h5, zu_row h9, zu_row h8, zu_row h7, zu_row h6, zu_row h4, zu_row h3, zu_row h2, zu_row h1]) ?_ (fun o j o2 o9 j0 jm => ?_) ?_ ?_ ?_ ?_ ?_ ?_ ?_ ?_ p2 p3
    · rw [zu_o (by omega), zu_o (by omega), zu_o (by omega), zu_o (by omega), zu_o (by omega), zu_o (by omega), zu_o (by omega), zu_o (by omega), zu_eq, hm]
    · rw [hm] at jm
      rw [zu_ne (Or.inr (by omega)), zu_ne (Or.inr (by omega)), zu_ne (Or.inr (by omega)), zu_ne (Or.inr (by omega)), zu_ne (Or.inr (by omega)), zu_ne (Or.inr (by omega)), zu_ne (Or.inr (by omega)), zu_ne (Or.inr (by omega)), zu_o (by omega)]
    · rw [hm, zu_o (by omega), zu_o (by omega), zu_o (by omega), zu_o (by omega), zu_o (by omega), zu_o (by omega), zu_o (by omega), zu_eq]
    · rw [hm, zu_o (by omega), zu_o (by omega), zu_o (by omega), zu_o (by omega), zu_o (by omega), zu_o (by omega), zu_eq]
    · rw [hm, zu_o (by omega), zu_o (by omega), zu_o (by omega), zu_o (by omega), zu_o (by omega), zu_eq]
    · rw [hm, zu_eq]
    · rw [hm, zu_o (by omega), zu_o (by omega), zu_o (by omega), zu_o (by omega), zu_eq]
    · rw [hm, zu_o (by omega), zu_o (by omega), zu_o (by omega), zu_eq]
    · rw [hm, zu_o (by omega), zu_o (by omega), zu_eq]
    · rw [hm, zu_o (by omega), zu_eq]
  by_cases ha : a = -1
  · rw [if_pos ha] at eref
    have hM : rM (mD (zu (mD (mD (mD (mD (mD (mD (mD (mD (mD s1 m 0 a) m 1 r) m 2 len) m 4 (ds 401 3)) m 5 (-1)) m 6 (-1)) m 7 (-1)) m 3 1) m 5 (ds 401 3)) 401 46 (ds 401 46 + 1)) m 9 (ds 401 46 + 1) 401) = up2 (up2 (up2 (up2 (up2 (up2 (up2 (up2 (up2 (up2 (rM (s1 401)) m 0 a) m 1 r) m 2 len) m 4 (ds 401 3)) m 5 (-1)) m 6 (-1)) m 7 (-1)) m 3 1) m 5 (ds 401 3)) m 9 (ds 401 46 + 1) := by
      rw [mD_s, rM_u hm40 (by omega), zu_r, rM_f (by omega), mD_s, rM_u hm40 (by omega), mD_s, rM_u hm40 (by omega), mD_s, rM_u hm40 (by omega), mD_s, rM_u hm40 (by omega), mD_s, rM_u hm40 (by omega), mD_s, rM_u hm40 (by omega), mD_s, rM_u hm40 (by omega), mD_s, rM_u hm40 (by omega), mD_s, rM_u hm40 (by omega)]
    have hk : ∀ k, k < 200 ∨ 680 ≤ k → k ≠ 46 → mD (zu (mD (mD (mD (mD (mD (mD (mD (mD (mD s1 m 0 a) m 1 r) m 2 len) m 4 (ds 401 3)) m 5 (-1)) m 6 (-1)) m 7 (-1)) m 3 1) m 5 (ds 401 3)) 401 46 (ds 401 46 + 1)) m 9 (ds 401 46 + 1) 401 k = s1 401 k := fun k hk h46 => by
      rw [mD_s, uM_k hm40 (by omega) hk, zu_ne (Or.inr h46), mD_s, uM_k hm40 (by omega) hk, mD_s, uM_k hm40 (by omega) hk, mD_s, uM_k hm40 (by omega) hk, mD_s, uM_k hm40 (by omega) hk, mD_s, uM_k hm40 (by omega) hk, mD_s, uM_k hm40 (by omega) hk, mD_s, uM_k hm40 (by omega) hk, mD_s, uM_k hm40 (by omega) hk, mD_s, uM_k hm40 (by omega) hk]
    refine fin (ρ := 1) (w := r) (v5 := ds 401 3) (Or.inr ⟨rfl, rfl, ha, rfl⟩) eref ?_ (fun k k1 k2 k3 => by rw [hk k (by omega) k3, s1k k (by omega) k2]) (by rw [hk 2 (by omega) (by omega), s12]) ?_ ?_ (fun j u hj => by rw [hM]; simp only [up2, hj, false_and, if_false]; rw [s1M, if_neg (by omega)]) ?_ ?_ ?_ ?_ ?_ ?_ ?_ ?_ ?_ ?_ ?_
    · exact Fs.tr (Fs.tr Fs.u z2) (fun c hc => by unfold mD; rw [zu_row hc, zu_row hc, zu_row hc, zu_row hc, zu_row hc, zu_row hc, zu_row hc, zu_row hc, zu_row hc, zu_row hc, zu_row hc])
    · rw [mD_s, uM_k hm40 (by omega) (by omega), zu_eq, if_pos rfl]
    · rw [← s1T]
      funext y u
      unfold rT
      split
      · rw [hk _ (by omega) (by omega)]
      · rfl
    all_goals (rw [hM]; simp [up2])
    · rw [s1M, if_pos (by omega)]
    · rw [s1M, if_pos (by omega)]
  · rw [if_neg ha] at eref
    have hM : rM (mD (mD (mD (mD (mD (mD (mD (mD s1 m 0 a) m 1 r) m 2 len) m 4 (ds 401 3)) m 5 (-1)) m 6 (-1)) m 7 (-1)) m 8 1 401) = up2 (up2 (up2 (up2 (up2 (up2 (up2 (up2 (rM (s1 401)) m 0 a) m 1 r) m 2 len) m 4 (ds 401 3)) m 5 (-1)) m 6 (-1)) m 7 (-1)) m 8 1 := by
      rw [mD_s, rM_u hm40 (by omega), mD_s, rM_u hm40 (by omega), mD_s, rM_u hm40 (by omega), mD_s, rM_u hm40 (by omega), mD_s, rM_u hm40 (by omega), mD_s, rM_u hm40 (by omega), mD_s, rM_u hm40 (by omega), mD_s, rM_u hm40 (by omega)]
    have hk : ∀ k, k < 200 ∨ 680 ≤ k → mD (mD (mD (mD (mD (mD (mD (mD s1 m 0 a) m 1 r) m 2 len) m 4 (ds 401 3)) m 5 (-1)) m 6 (-1)) m 7 (-1)) m 8 1 401 k = s1 401 k := fun k hk => by
      rw [mD_s, uM_k hm40 (by omega) hk, mD_s, uM_k hm40 (by omega) hk, mD_s, uM_k hm40 (by omega) hk, mD_s, uM_k hm40 (by omega) hk, mD_s, uM_k hm40 (by omega) hk, mD_s, uM_k hm40 (by omega) hk, mD_s, uM_k hm40 (by omega) hk, mD_s, uM_k hm40 (by omega) hk]
    refine fin (ρ := 0) (w := a) (v5 := -1) (Or.inl ⟨rfl, rfl, ha, rfl⟩) eref ?_ (fun k k1 k2 k3 => by rw [hk k (by omega), s1k k (by omega) k2]) (by rw [hk 2 (by omega), s12]) ?_ ?_ (fun j u hj => by rw [hM]; simp only [up2, hj, false_and, if_false]; rw [s1M, if_neg (by omega)]) ?_ ?_ ?_ ?_ ?_ ?_ ?_ ?_ ?_ ?_ ?_
    · exact Fs.tr (Fs.tr Fs.u z2) (fun c hc => by unfold mD; rw [zu_row hc, zu_row hc, zu_row hc, zu_row hc, zu_row hc, zu_row hc, zu_row hc, zu_row hc])
    · rw [hk 46 (by omega), s1k 46 (by omega) (by omega), if_neg (by decide)]
    · rw [← s1T]
      funext y u
      unfold rT
      split
      · rw [hk _ (by omega)]
      · rfl
    all_goals (rw [hM]; simp [up2])
    · rw [s1M, if_pos (by omega)]
    · rw [s1M, if_pos (by omega)]
    · rw [s1M, if_pos (by omega)]
theorem G_post (a r l : Int) : GO [1, 0, 2] (f_X11_post a r l) (f_X12_post a r l) := by
  intro dc ds hg hR
  obtain ⟨i0, i1, i2, i4, -⟩ := LR_2 hg.1
  have sm := LR_s2 hg.1
  obtain ⟨K, L, hr, hz⟩ := GR_L hg
  obtain ⟨-, -, -, -, -, -, -, -, -, -, -, -, -, -, hU, -⟩ := hr
  have e2 : ds 401 (2 : Int).toNat = ds 401 2 := rfl
  have cw : ∀ x : Int, f_X11_isParty x dc = some (if x = -1 ∨ (0 ≤ x ∧ x < ds 401 0) then 1 else 0, dc) := fun x => by
    unfold f_X11_isParty
    by_cases h1 : x = -1
    · rw [if_pos h1, if_pos (Or.inl h1)]
    · rw [if_neg h1, e_has6, zc_n, hU.1]
      by_cases h2 : 0 ≤ x ∧ x < ds 401 0
      · rw [if_pos h2, if_neg (show ¬ (1 : Int) = 0 by decide), if_pos (Or.inr h2)]
      · rw [if_neg h2, if_pos rfl, if_neg (fun q => by omega)]
  have mw : ∀ x : Int, f_X12_isWho x ds = some (if x = -1 ∨ (0 ≤ x ∧ x < ds 401 0) then 1 else 0, ds) := fun x => by
    unfold f_X12_isWho
    by_cases h1 : x = -1
    · rw [if_pos h1, if_pos (Or.inl h1)]
    · rw [if_neg h1, e_isTerminal (by omega), zc_n]
      by_cases h2 : 0 ≤ x ∧ x < ds 401 0
      · rw [if_pos h2, if_neg (show ¬ (1 : Int) = 0 by decide), if_pos (Or.inr h2)]
      · rw [if_neg h2, if_pos rfl, if_neg (fun q => by omega)]
  have j68 : ∀ {t : Int}, t ≠ 0 → j_X12_post_68 a r l t ds = some (0, zu ds 400 0 t) := fun {t} ht => by
    unfold j_X12_post_68
    rw [zl_n, zl_n, zu_q, if_neg ht]
  by_cases ha : a = -1 ∨ (0 ≤ a ∧ a < ds 401 0)
  · by_cases hr' : r = -1 ∨ (0 ≤ r ∧ r < ds 401 0)
    · have m21 : ∀ {x : Option (Int × zD)}, j_X12_post_21 a r l 1 ds = x → f_X12_post a r l ds = x := fun {x} hx => by
        unfold f_X12_post
        rw [mw a, zc_n, if_pos ha, if_neg (show ¬ (1 : Int) = 0 by decide), mw r, zc_n, if_pos hr', if_neg (show ¬ (1 : Int) = 0 by decide)]
        exact hx
      by_cases hb : a = r ∨ l < 1 ∨ 20 < l
      · refine GO_q hg (v := 4294967296 + 0) (v' := 0) (t := 2) ?_ (m21 ?_) (Or.inr ⟨1, 0, rfl, rfl, rfl⟩)
        · unfold f_X11_post j_X11_post_40
          rw [cw a, zc_n, if_pos ha, if_neg (show ¬ (1 : Int) = 0 by decide), cw r, zc_n, if_pos hr', if_neg (show ¬ (1 : Int) = 0 by decide)]
          by_cases h1 : a = r
          · rw [if_pos h1]
          · rw [if_neg h1]
            by_cases h2 : l < 1
            · rw [if_pos h2]
            · rw [if_neg h2, if_neg (by omega)]
        · unfold j_X12_post_21
          rw [if_neg (show ¬ (1 : Int) = 0 by decide)]
          by_cases h1 : a = r
          · rw [if_pos h1, j68 (by decide)]
          · rw [if_neg h1, e_isIn, zc_n, if_neg (show ¬ (1 ≤ l ∧ l ≤ 20) by omega), if_pos (show (0:Int) = 0 from rfl), j68 (by decide)]
      · have c1 : f_X11_post a r l dc = zc (f_X3_isFull 30 dc) fun v55 d => if v55 = 0 then (zc (f_X0_remember 30 d) fun _ d => zc (f_X2_addMessage 30 a r l d) fun v87 d => some (v87, d)) else some (4294967296 + 2, d) := by
          unfold f_X11_post
          rw [cw a, zc_n, if_pos ha, if_neg (show ¬ (1 : Int) = 0 by decide), cw r, zc_n, if_pos hr', if_neg (show ¬ (1 : Int) = 0 by decide), if_neg (by omega), if_neg (by omega), if_pos (by omega)]
        have m1 : ∀ {x : Option (Int × zD)}, (if ds 401 2 = 40 then j_X12_post_68 a r l 3 ds else j_X12_post_68 a r l 0 ds) = x → f_X12_post a r l ds = x := fun {x} hx => m21 (by
          unfold j_X12_post_21
          rw [if_neg (show ¬ (1 : Int) = 0 by decide), if_neg (show ¬ a = r by omega), e_isIn, zc_n, if_pos (show 1 ≤ l ∧ l ≤ 20 by omega), if_neg (show ¬ (1 : Int) = 0 by decide), zg_t (by omega), zl_n, e2]
          exact hx)
        by_cases hf : ds 401 2 = 40
        · refine GO_q hg (v := 4294967296 + 2) (v' := 0) (t := 3) ?_ (m1 ?_) (Or.inr ⟨2, 2, rfl, rfl, rfl⟩)
          · rw [c1]
            unfold f_X3_isFull
            rw [zl_n, sm, if_neg (by omega), zc_n, if_neg (show ¬ (1 : Int) = 0 by decide)]
          · rw [if_pos hf, j68 (by decide)]
        · have hg0 := GR_0 (t := 0) hg
          obtain ⟨d1, s1, a1, a2, a3, a4, a5, a6⟩ := R_keep hg0
          have e0 : s1 401 = ds 401 := by rw [a5 401 (by omega) (by omega), zu_row (by omega)]
          obtain ⟨d2, s2, b1, b2, b3, b5, b6, b7⟩ := R_post (a := a) (r := r) (len := l) a3.1 (by rw [e0]; omega) (by rw [e0]; omega) (by omega) (by omega)
          rw [e0] at b1 b2
          refine ⟨ds 401 2, d2, ds 401 2, s2, ?_, m1 ?_, GR_line a3 (fun c c1 c2 => b6 c (by omega)) (fun c c1 c2 => b7 c c2) (fun j _ _ _ => by rw [b7 400 (by omega)]) b3 (by rw [b5.1]; exact a3.2.1), Fc.tr (keepF a4 a5).1 fun c hc => b6 c (by omega), Fm.tr (Fm.tr (Fm.u (by omega)) (keepF a4 a5).2) fun c hc => b7 c (by omega), ?_⟩
          · rw [c1]
            unfold f_X3_isFull
            rw [zl_n, sm, if_pos (by omega), zc_n, if_pos rfl, a1, zc_n, b1, zc_n]
          · rw [if_neg hf]
            unfold j_X12_post_68
            rw [zl_n, zl_n, zu_q, if_pos rfl, a2, zc_n, b2, zc_n]
          · rw [b7 400 (by omega), a6 0 (by omega), zu_eq]; exact GX_ok rfl (zR_s (by omega) (by omega))
    · refine G_noT hg ?_ ?_ rfl
      · unfold f_X11_post j_X11_post_16
        rw [cw a, zc_n, if_pos ha, if_neg (show ¬ (1 : Int) = 0 by decide), cw r, zc_n, if_neg hr', if_pos rfl]
      · unfold f_X12_post j_X12_post_20 j_X12_post_21
        rw [mw a, zc_n, if_pos ha, if_neg (show ¬ (1 : Int) = 0 by decide), mw r, zc_n, if_neg hr', if_pos rfl, if_pos rfl, j68 (by decide)]
  · refine G_noT hg ?_ ?_ rfl
    · unfold f_X11_post j_X11_post_16
      rw [cw a, zc_n, if_neg ha, if_pos rfl]
    · unfold f_X12_post j_X12_post_20 j_X12_post_21
      rw [mw a, zc_n, if_neg ha, if_pos rfl, if_pos rfl, j68 (by decide)]
