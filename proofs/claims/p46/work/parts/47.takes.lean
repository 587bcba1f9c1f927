/-! The host takes a message; one comes into a buffer. -/
section TAKES
variable {K L : Int → Int → List Int} {D : Int → List Int} {d : zD} {b : Nat} {s : Nat → Int} {N : Int}
theorem RC_q (h : RC K L D d b s N) : 0 ≤ s 46 ∧ s 46 ≤ N := by
  obtain ⟨-, -, -, -, -, -, -, -, -, -, ⟨-, -, -, -, -, -, -, -, -, -, -, -, -, -, -, -, q, -⟩, -⟩ := h
  exact q
theorem RC_fresh (h : RC K L D d b s N) {x m : Int} {l : List Int} (hx : 0 ≤ x ∧ x < s 0) (hl : L 0 x = m :: l) (hb : rT s x 6 = rT s x 9) : rM s m 3 = 0 ∧ rM s m 9 = 0 ∧ rM s m 10 = 0 := by
  have hm := RC_in0 h hx (by rw [hl]; exact List.mem_cons_self)
  obtain ⟨-, -, -, -, -, -, -, -, hP, -, -, -, -, hIM, -⟩ := h
  have h1 := ((hP.1 x hx.1 hx.2).1 m l hl).2 hb
  have h2 := (hIM m hm.1.1 hm.1.2).2.2.2.2.2.2.1 h1
  exact ⟨h1, h2⟩
theorem RC_takeH {x m v : Int} {l : List Int} (h : RC K L D d b s N) (hx : 0 ≤ x ∧ x < s 0) (hl : L 0 x = m :: l) (hbt : rT s x 6 = rT s x 9) (hv : v = 1 - rT s x 9) (hr1 : rM s m 1 = -1) (hln : rM s m 4 + rM s m 2 ≤ s 3) :
    RC K L D (zu (zu (zu (zu d (b + 22) x.toNat v) (b + 7) m.toNat (s 3)) (b + 9) m.toNat (s 3)) (b + 5) m.toNat 3) b (uT (uM (uM (uM s m 5 (s 3)) m 3 3) m 7 (s 3)) x 9 v) N := by
  obtain ⟨⟨i1, i2⟩, -, i4, -, hN⟩ := RC_i h
  have hm := RC_in0 h hx (by rw [hl]; exact List.mem_cons_self)
  obtain ⟨f3, f9, f10⟩ := RC_fresh h hx hl hbt
  have hq46 := RC_q h
  have hm40 : 0 ≤ m ∧ m < 40 := by omega
  have hx8 : 0 ≤ x ∧ x < 8 := by omega
  have hnd := RC_nd h (r := 0) (x := x) (by omega) hx
  have hin1 := fun {r y j} hr hy hj => RC_in1 h (r := r) (x := y) (m := j) hr hy hj
  have hin0 := fun {y j} hy hj => RC_in0 h (x := y) (m := j) hy hj
  have hD3 := fun {y j} hy hj => RC_D3 h (y := y) (j := j) hy hj
  have hh := h
  obtain ⟨hS, hA, hQ, hM, hD, hK, hL, hKL, hP, hG, hI, hIL, hIT, hIM, hU, hb⟩ := hh
  have hit := hIT x hx.1 hx.2
  rw [hl] at hnd
  generalize hs : uT (uM (uM (uM s m 5 (s 3)) m 3 3) m 7 (s 3)) x 9 v = s'
  have ek : ∀ k, k < 50 ∨ 700 ≤ k → s' k = s k := fun k hk => by
    rw [← hs, uT_k hx8 (by omega) (by omega), uM_k hm40 (by omega) (by omega), uM_k hm40 (by omega) (by omega), uM_k hm40 (by omega) (by omega)]
  have hT : rT s' = up2 (rT s) x 9 v := by rw [← hs, rT_u hx8 (by omega), rT_uM hm40 (by omega), rT_uM hm40 (by omega), rT_uM hm40 (by omega)]
  have hMe : rM s' = up2 (up2 (up2 (rM s) m 5 (s 3)) m 3 3) m 7 (s 3) := by rw [← hs, rM_uT hx8 (by omega), rM_u hm40 (by omega), rM_u hm40 (by omega), rM_u hm40 (by omega)]
  have eM : ∀ j w : Int, j ≠ m ∨ (w ≠ 3 ∧ w ≠ 5 ∧ w ≠ 7) → rM s' j w = rM s j w := fun j w hw => by
    rw [hMe, up2_ne (by omega), up2_ne (by omega), up2_ne (by omega)]
  have eM3 : rM s' m 3 = 3 := by rw [hMe, up2_ne (by omega), up2_eq]
  have eT : ∀ y u : Int, y ≠ x ∨ u ≠ 9 → rT s' y u = rT s y u := fun y u hu => by rw [hT, up2_ne hu]
  have eT9 : rT s' x 9 = v := by rw [hT, up2_eq]
  refine RC_gen h (fun k k1 k2 => ek k (by omega)) (fun k k1 => ek k (by omega)) (by rw [ek 46 (by omega)]; exact hq46) ⟨Int.le_refl _, hN⟩ (fun c hc => by rw [zu_row (by omega), zu_row (by omega), zu_row (by omega), zu_row (by omega)]) ?_ ?_ ?_ ?_ ?_ hKL ?_ ?_ ?_ (fun y u hu => eT y u (by omega))
  · rw [hT]
    exact RQ_d (RQ_d (RQ_d (RQ_up hQ hx.1 (by omega)) fun c _ _ => zu_row (by omega)) fun c _ _ => zu_row (by omega)) fun c _ _ => zu_row (by omega)
  · rw [hMe]
    have h1 := RM_up (RM_up (RM_up (RM_d (d' := zu d (b + 22) x.toNat v) hM fun c _ _ => zu_row (by omega)) hm40.1 (c := 7) (w := 5) (v := s 3) (by omega)) hm40.1 (c := 9) (w := 7) (v := s 3) (by omega)) hm40.1 (c := 5) (w := 3) (v := 3) (by omega)
    refine RM_M h1 fun j w hw => ?_
    unfold up2
    by_cases e : j = m
    · by_cases e3 : w = 3
      · simp [e, e3]
      · by_cases e7 : w = 7
        · simp [e, e7]
        · simp [e3, e7]
    · simp [e]
  · refine RD_c hD (by rw [zu_row (by omega), zu_row (by omega), zu_row (by omega), zu_row (by omega)]) (fun y => ⟨eT _ _ (by omega), eT _ _ (by omega)⟩) fun y j y0 yn hj => ?_
    have hjm : j ≠ m := fun e => by
      have := hD3 ⟨y0, yn⟩ hj
      rw [e, f3] at this
      omega
    exact ⟨eM _ _ (by omega), eM _ _ (by omega)⟩
  · refine KR_s (KR_d hK fun c _ _ => by rw [zu_row (by omega), zu_row (by omega), zu_row (by omega), zu_row (by omega)]) (Int.le_refl _) fun j _ _ => ⟨eM _ _ (by omega), eM _ _ (by omega)⟩
  · intro r y r0 r3 y0 y8
    exact rwl_congr (hL r y r0 r3 y0 y8) fun j _ _ => ord_congr (eM _ _ (by omega)) (eM _ _ (by omega)) (eM _ _ (by omega)) (eM _ _ (by omega)) (eM _ _ (by omega))
  · refine ⟨fun y y0 yn => ?_, fun j j0 jn => ?_, fun y y0 yn => ?_⟩
    · obtain ⟨g1, g2, g3, g4⟩ := hP.1 y y0 yn
      rw [eT y 6 (by omega), eT y 7 (by omega), eT y 8 (by omega)]
      refine ⟨fun a q hq => ⟨fun j hj => ?_, fun hbb => ?_⟩, fun hbb => ?_, fun a q hq => ⟨fun j hj => ?_, fun hbb => ?_⟩, g4⟩
      · have hjm : j ≠ m := fun e => by
          by_cases hyx : y = x
          · subst hyx
            rw [hl] at hq
            cases hq
            exact (List.nodup_cons.mp hnd).1 (by rw [← e]; exact hj)
          · have := hin0 (y := y) ⟨y0, yn⟩ (show j ∈ L 0 y by rw [hq]; exact List.mem_cons_of_mem _ hj)
            rw [e] at this
            exact hyx (this.2.1.symm.trans hm.2.1)
        rw [eM _ _ (Or.inl hjm)]
        exact (g1 a q hq).1 j hj
      · by_cases hyx : y = x
        · subst hyx
          rw [eT9] at hbb
          omega
        · have ham : a ≠ m := fun e => by
            have := hin0 (y := y) ⟨y0, yn⟩ (show a ∈ L 0 y by rw [hq]; exact List.mem_cons_self)
            rw [e] at this
            exact hyx (this.2.1.symm.trans hm.2.1)
          rw [eM _ _ (Or.inl ham)]
          rw [eT y 9 (Or.inl hyx)] at hbb
          exact (g1 a q hq).2 hbb
      · by_cases hyx : y = x
        · subst hyx
          rw [hl]
          exact fun q => by cases q
        · rw [eT y 9 (Or.inl hyx)] at hbb
          exact g2 hbb
      · have hjm : j ≠ m := fun e => by
          have := (hin1 (r := 1) (Or.inl rfl) ⟨y0, yn⟩ (show j ∈ L 1 y by rw [hq]; exact List.mem_cons_of_mem _ hj)).2.2
          rw [e, if_pos rfl, f9] at this
          omega
        rw [eM _ _ (Or.inl hjm)]
        exact (g3 a q hq).1 j hj
      · have hjm : a ≠ m := fun e => by
          have := (hin1 (r := 1) (Or.inl rfl) ⟨y0, yn⟩ (show a ∈ L 1 y by rw [hq]; exact List.mem_cons_self)).2.2
          rw [e, if_pos rfl, f9] at this
          omega
        rw [eM _ _ (Or.inl hjm)]
        exact (g3 a q hq).2 hbb
    · by_cases hj : j = m
      · subst hj
        obtain ⟨ga, gb, gc, gd, ge, gf⟩ := hP.2.1 j j0 jn
        obtain ⟨p5, p6, p7, p0, p8⟩ := ga f3
        have m5 : rM s' j 5 = s 3 := by rw [hMe, up2_ne (by omega), up2_ne (by omega), up2_eq]
        have m7 : rM s' j 7 = s 3 := by rw [hMe, up2_eq]
        unfold RJm
        rw [eM j 0 (by omega), eM j 1 (by omega), eM j 2 (by omega), eM3, eM j 4 (by omega), m5, eM j 6 (by omega), m7, eM j 8 (by omega), eM j 9 (by omega), eM j 10 (by omega)]
        exact ⟨fun q => absurd q (by decide), fun _ => ⟨gf, fun _ => hln, Int.le_refl _⟩, fun _ => Or.inr ⟨rfl, rfl, p6⟩, fun q => absurd hr1 q, fun _ => f10, gf⟩
      · exact RJm_c (hP.2.1 j j0 jn) (fun w _ => eM _ _ (Or.inl hj)) (eT _ _ (by omega))
    · obtain ⟨g1, g2, g3, g4, g5, g6⟩ := hP.2.2 y y0 yn
      unfold RJx
      rw [eT y 6 (by omega), eT y 8 (by omega), eT y 7 (by omega), eT y 1 (by omega), eT y 2 (by omega), eT y 4 (by omega), eT y 5 (by omega), eT y 10 (by omega)]
      refine ⟨fun q a r hr => ?_, fun q a r hr => ?_, g3, fun a r hr => ?_, g5, g6⟩
      · by_cases ha : a = m
        · rw [ha, eM3]; decide
        · have hyx : y ≠ x := fun e => by
            rw [e, hl] at hr
            cases hr
            exact ha rfl
          rw [eT y 9 (Or.inl hyx)] at q
          rw [eM _ _ (Or.inl ha)]
          exact g1 q a r hr
      · by_cases ha : a = m
        · rw [ha, eM3]; decide
        · rw [eM _ _ (Or.inl ha)]
          exact g2 q a r hr
      · obtain ⟨p1, p2⟩ := g4 a r hr
        exact ⟨by rw [eM _ 6 (by omega)]; exact p1, fun z hz => by rw [eM _ 6 (by omega)]; exact p2 z hz⟩
  · rw [hT]; exact RIT_up hIT (by omega) (by omega)
  · rw [ek 46 (by omega)]
    intro j j0 jn
    obtain ⟨g0, g1, g2, g3, g9, g10, ga, gb⟩ := hIM j j0 jn
    rw [eM _ 0 (by omega), eM _ 1 (by omega), eM _ 2 (by omega), eM _ 9 (by omega), eM _ 10 (by omega)]
    by_cases hj : j = m
    · subst hj
      rw [eM3]
      exact ⟨g0, g1, g2, by omega, g9, g10, by omega, by omega⟩
    · rw [eM _ _ (Or.inl hj)]
      exact ⟨g0, g1, g2, g3, g9, g10, ga, gb⟩
theorem RC_takeR {x m v r q : Int} {l : List Int} {d1 : zD} (h : RC K L D d b s N) (hx : 0 ≤ x ∧ x < s 0) (hl : L 0 x = m :: l) (hbt : rT s x 6 = rT s x 9) (hv : v = 1 - rT s x 9) (hr : rM s m 1 = r) (hr0 : r ≠ -1) (hq : q = s 46 + 1) (hN1 : N ≤ 999999999) (hln : rM s m 4 + rM s m 2 ≤ s 3)
    (hK1 : KR (uK K 1 r (K 1 r ++ [m])) d1 b (s 2) (rM s)) (hf : ∀ c, c < b + 11 ∨ b + 14 < c → d1 c = zu (zu (zu d (b + 22) x.toNat v) (b + 7) m.toNat (s 3)) (b + 5) m.toNat 1 c) :
    RC (uK K 1 r (K 1 r ++ [m])) (uK L 1 r (L 1 r ++ [m])) D d1 b (uT (uM (us (uM (uM s m 5 (s 3)) m 3 1) 46 q) m 9 q) x 9 v) (N + 1) := by
  obtain ⟨⟨i1, i2⟩, -, i4, -, hN⟩ := RC_i h
  have hm := RC_in0 h hx (by rw [hl]; exact List.mem_cons_self)
  obtain ⟨f3, f9, f10⟩ := RC_fresh h hx hl hbt
  have hq46 := RC_q h
  have hm40 : 0 ≤ m ∧ m < 40 := by omega
  have hx8 : 0 ≤ x ∧ x < 8 := by omega
  have hnd := RC_nd h (r := 0) (x := x) (by omega) hx
  have hin1 := fun {r y j} hr hy hj => RC_in1 h (r := r) (x := y) (m := j) hr hy hj
  have hin0 := fun {y j} hy hj => RC_in0 h (x := y) (m := j) hy hj
  have hD3 := fun {y j} hy hj => RC_D3 h (y := y) (j := j) hy hj
  have hh := h
  obtain ⟨hS, hA, hQ, hM, hD, hK, hL, hKL, hP, hG, hI, hIL, hIT, hIM, hU, hb⟩ := hh
  have hit := hIT x hx.1 hx.2
  have himm := hIM m hm.1.1 hm.1.2
  have hrn : 0 ≤ r ∧ r < s 0 := by omega
  rw [hl] at hnd
  generalize hs : uT (uM (us (uM (uM s m 5 (s 3)) m 3 1) 46 q) m 9 q) x 9 v = s'
  have ek : ∀ k, k < 50 ∨ 700 ≤ k → k ≠ 46 → s' k = s k := fun k hk h46 => by
    rw [← hs, uT_k hx8 (by omega) (by omega), uM_k hm40 (by omega) (by omega), us_ne h46, uM_k hm40 (by omega) (by omega), uM_k hm40 (by omega) (by omega)]
  have ek46 : s' 46 = q := by
    rw [← hs, uT_k hx8 (by omega) (by omega), uM_k hm40 (by omega) (by omega), us_eq]
  have hT : rT s' = up2 (rT s) x 9 v := by rw [← hs, rT_u hx8 (by omega), rT_uM hm40 (by omega), rT_f (by omega), rT_uM hm40 (by omega), rT_uM hm40 (by omega)]
  have hMe : rM s' = up2 (up2 (up2 (rM s) m 5 (s 3)) m 3 1) m 9 q := by rw [← hs, rM_uT hx8 (by omega), rM_u hm40 (by omega), rM_f (by omega), rM_u hm40 (by omega), rM_u hm40 (by omega)]
  have eM : ∀ j w : Int, j ≠ m ∨ (w ≠ 3 ∧ w ≠ 5 ∧ w ≠ 9) → rM s' j w = rM s j w := fun j w hw => by
    rw [hMe, up2_ne (by omega), up2_ne (by omega), up2_ne (by omega)]
  have eM3 : rM s' m 3 = 1 := by rw [hMe, up2_ne (by omega), up2_eq]
  have eM9 : rM s' m 9 = q := by rw [hMe, up2_eq]
  have eT : ∀ y u : Int, y ≠ x ∨ u ≠ 9 → rT s' y u = rT s y u := fun y u hu => by rw [hT, up2_ne hu]
  have eT9 : rT s' x 9 = v := by rw [hT, up2_eq]
  have hmr : m ∉ L 1 r := fun hq1 => by
    have := (hin1 (r := 1) (Or.inl rfl) hrn hq1).2.2
    rw [if_pos rfl, f9] at this
    omega
  refine RC_gen h (fun k k1 k2 => ek k (by omega) k2) (fun k k1 => ek k (by omega) (by omega)) (by rw [ek46]; omega) ⟨by omega, by omega⟩ (fun c hc => by rw [hf c (by omega), zu_row (by omega), zu_row (by omega), zu_row (by omega)]) ?_ ?_ ?_ ?_ ?_ ?_ ?_ ?_ ?_ (fun y u hu => eT y u (by omega))
  · rw [hT]
    exact RQ_d (RQ_d (RQ_d (RQ_up hQ hx.1 (by omega)) fun c _ _ => zu_row (by omega)) fun c _ _ => zu_row (by omega)) fun c _ _ => hf c (by omega)
  · rw [hMe]
    have h1 := RM_d (d' := d1) (RM_up (RM_up (RM_d (d' := zu d (b + 22) x.toNat v) hM fun c _ _ => zu_row (by omega)) hm40.1 (c := 7) (w := 5) (v := s 3) (by omega)) hm40.1 (c := 5) (w := 3) (v := 1) (by omega)) fun c _ _ => hf c (by omega)
    exact RM_M h1 fun j w hw => up2_ne (by omega)
  · refine RD_c hD (by rw [hf _ (by omega), zu_row (by omega), zu_row (by omega), zu_row (by omega)]) (fun y => ⟨eT _ _ (by omega), eT _ _ (by omega)⟩) fun y j y0 yn hj => ?_
    have hjm : j ≠ m := fun e => by
      have := hD3 ⟨y0, yn⟩ hj
      rw [e, f3] at this
      omega
    exact ⟨eM _ _ (by omega), eM _ _ (by omega)⟩
  · exact KR_s hK1 (Int.le_refl _) fun j _ _ => ⟨eM _ _ (by omega), eM _ _ (by omega)⟩
  · intro r' y r0 r3 y0 y8
    have ho : ∀ j, j ≠ m → ord (rM s') r' y j = ord (rM s) r' y j := fun j hj => ord_congr (eM _ _ (by omega)) (eM _ _ (by omega)) (eM _ _ (by omega)) (eM _ _ (by omega)) (eM _ _ (by omega))
    by_cases hqq : r' = 1 ∧ y = r
    · obtain ⟨rfl, rfl⟩ := hqq
      rw [uK_eq]
      have hom : ord (rM s') 1 y m = q := by
        unfold ord
        rw [if_neg (by omega), eM _ 1 (by omega), if_pos hr, if_pos rfl, eM9]
      refine rwl_snoc (hL 1 y r0 r3 y0 y8) hm.1 hmr (by rw [hom]; omega) (fun j hj => ?_) fun j hj _ _ => ho j hj
      rw [hom]
      have g := hin1 (r := 1) (Or.inl rfl) hrn hj
      have := (hIM j g.1.1 g.1.2).2.2.2.2.1
      unfold ord
      rw [if_neg (by omega), if_pos g.2.1, if_pos rfl]
      omega
    · rw [uK_ne (by omega)]
      refine rwl_congr (hL r' y r0 r3 y0 y8) fun j _ _ => ?_
      by_cases hj : j = m
      · subst hj
        unfold ord
        rw [eM _ 0 (by omega), eM _ 1 (by omega), eM _ 8 (by omega)]
        by_cases hr0 : r' = 0
        · rw [if_pos hr0, if_pos hr0]
        · rw [if_neg hr0, if_neg hr0]
          by_cases hr1 : r' = 1
          · rw [if_neg (by omega), if_neg (by omega)]
          · rw [if_neg hr1, eM _ 10 (by omega)]
      · exact ho j hj
  · intro y
    obtain ⟨g1, g2, g3⟩ := hKL y
    rw [uK_ne (r := 1) (r' := 0) (by omega), uK_ne (r := 1) (r' := 2) (by omega), uK_ne (r := 1) (r' := 0) (by omega), uK_ne (r := 1) (r' := 2) (by omega)]
    refine ⟨g1, ?_, g3⟩
    by_cases hyr : y = r
    · subst hyr; rw [uK_eq, uK_eq, g2]
    · rw [uK_ne (by omega), uK_ne (by omega)]; exact g2
  · refine ⟨fun y y0 yn => ?_, fun j j0 jn => ?_, fun y y0 yn => ?_⟩
    · obtain ⟨g1, g2, g3, g4⟩ := hP.1 y y0 yn
      rw [uK_ne (r := 1) (r' := 0) (by omega), eT y 6 (by omega), eT y 7 (by omega), eT y 8 (by omega)]
      refine ⟨fun a q hq => ⟨fun j hj => ?_, fun hbb => ?_⟩, fun hbb => ?_, fun a q hq => ?_, fun hbb => ?_⟩
      · have hjm : j ≠ m := fun e => by
          by_cases hyx : y = x
          · subst hyx
            rw [hl] at hq
            cases hq
            exact (List.nodup_cons.mp hnd).1 (by rw [← e]; exact hj)
          · have := hin0 (y := y) ⟨y0, yn⟩ (show j ∈ L 0 y by rw [hq]; exact List.mem_cons_of_mem _ hj)
            rw [e] at this
            exact hyx (this.2.1.symm.trans hm.2.1)
        rw [eM _ _ (Or.inl hjm)]
        exact (g1 a q hq).1 j hj
      · by_cases hyx : y = x
        · subst hyx
          rw [eT9] at hbb
          omega
        · have ham : a ≠ m := fun e => by
            have := hin0 (y := y) ⟨y0, yn⟩ (show a ∈ L 0 y by rw [hq]; exact List.mem_cons_self)
            rw [e] at this
            exact hyx (this.2.1.symm.trans hm.2.1)
          rw [eM _ _ (Or.inl ham)]
          rw [eT y 9 (Or.inl hyx)] at hbb
          exact (g1 a q hq).2 hbb
      · by_cases hyx : y = x
        · subst hyx
          rw [hl]
          exact fun q => by cases q
        · rw [eT y 9 (Or.inl hyx)] at hbb
          exact g2 hbb
      · have old : ∀ j, j ∈ L 1 y → rM s' j 3 = rM s j 3 := fun j hj => eM _ _ (Or.inl fun e => by
          have := (hin1 (r := 1) (Or.inl rfl) ⟨y0, yn⟩ hj).2.2
          rw [e, if_pos rfl, f9] at this
          omega)
        by_cases hyr : y = r
        · subst hyr
          rw [uK_eq] at hq
          cases hl1 : L 1 y with
          | nil =>
            rw [hl1] at hq
            cases hq
            exact ⟨fun j hj => (nomatch hj), fun _ => eM3⟩
          | cons a1 q1 =>
            rw [hl1] at hq
            cases hq
            refine ⟨fun j hj => ?_, fun hbb => ?_⟩
            · rcases List.mem_append.mp hj with hj | hj
              · rw [old j (by rw [hl1]; exact List.mem_cons_of_mem _ hj)]
                exact (g3 _ _ hl1).1 j hj
              · rw [List.mem_singleton.mp hj]; exact eM3
            · rw [old _ (by rw [hl1]; exact List.mem_cons_self)]
              exact (g3 _ _ hl1).2 hbb
        · rw [uK_ne (by omega)] at hq
          refine ⟨fun j hj => ?_, fun hbb => ?_⟩
          · rw [old j (by rw [hq]; exact List.mem_cons_of_mem _ hj)]
            exact (g3 a q hq).1 j hj
          · rw [old a (by rw [hq]; exact List.mem_cons_self)]
            exact (g3 a q hq).2 hbb
      · by_cases hyr : y = r
        · subst hyr
          rw [uK_eq]
          simp
        · rw [uK_ne (by omega)]
          exact g4 hbb
    · by_cases hj : j = m
      · subst hj
        obtain ⟨ga, gb, gc, gd, ge, gf⟩ := hP.2.1 j j0 jn
        obtain ⟨p5, p6, p7, p0, p8⟩ := ga f3
        have m5 : rM s' j 5 = s 3 := by rw [hMe, up2_ne (by omega), up2_ne (by omega), up2_eq]
        unfold RJm
        rw [eM j 0 (by omega), eM j 1 (by omega), eM j 2 (by omega), eM3, eM j 4 (by omega), m5, eM j 6 (by omega), eM j 7 (by omega), eM j 8 (by omega), eM9, eM j 10 (by omega)]
        exact ⟨fun q => absurd q (by decide), fun _ => ⟨gf, fun _ => hln, Int.le_refl _⟩, fun w => absurd (hr.symm.trans w) hr0, fun _ => ⟨fun _ => ⟨p6, p7, by omega⟩, fun w => absurd w (by decide), fun w => absurd w (by decide), fun w => absurd w (by decide)⟩, fun w => absurd w (by decide), gf⟩
      · exact RJm_c (hP.2.1 j j0 jn) (fun w _ => eM _ _ (Or.inl hj)) (eT _ _ (by omega))
    · obtain ⟨g1, g2, g3, g4, g5, g6⟩ := hP.2.2 y y0 yn
      have k4 := (hP.1 y y0 yn).2.2.2
      have nom : ∀ a, a ∈ L 1 y → a ≠ m := fun a ha e => by
        have := (hin1 (r := 1) (Or.inl rfl) ⟨y0, yn⟩ ha).2.2
        rw [e, if_pos rfl, f9] at this
        omega
      unfold RJx
      rw [uK_ne (r := 1) (r' := 0) (by omega), uK_ne (r := 1) (r' := 2) (by omega), eT y 6 (by omega), eT y 8 (by omega), eT y 7 (by omega), eT y 1 (by omega), eT y 2 (by omega), eT y 4 (by omega), eT y 5 (by omega), eT y 10 (by omega)]
      refine ⟨fun q a r hr => ?_, fun q a r' hr' => ?_, g3, fun a r hr => ?_, g5, g6⟩
      · by_cases ha : a = m
        · rw [ha, eM3]; decide
        · have hyx : y ≠ x := fun e => by
            rw [e, hl] at hr
            cases hr
            exact ha rfl
          rw [eT y 9 (Or.inl hyx)] at q
          rw [eM _ _ (Or.inl ha)]
          exact g1 q a r hr
      · have h1 := k4 q
        by_cases hyr : y = r
        · subst hyr
          rw [uK_eq] at hr'
          cases hl1 : L 1 y with
          | nil => exact absurd hl1 h1
          | cons a1 q1 =>
            rw [hl1] at hr'
            cases hr'
            rw [eM _ _ (Or.inl (nom a (by rw [hl1]; exact List.mem_cons_self)))]
            exact g2 q _ _ hl1
        · rw [uK_ne (by omega)] at hr'
          rw [eM _ _ (Or.inl (nom a (by rw [hr']; exact List.mem_cons_self)))]
          exact g2 q _ _ hr'
      · obtain ⟨p1, p2⟩ := g4 a r hr
        exact ⟨by rw [eM _ 6 (by omega)]; exact p1, fun z hz => by rw [eM _ 6 (by omega)]; exact p2 z hz⟩
  · rw [hT]; exact RIT_up hIT (by omega) (by omega)
  · rw [ek46]
    intro j j0 jn
    obtain ⟨g0, g1, g2, g3, g9, g10, ga, gb⟩ := hIM j j0 jn
    rw [eM _ 0 (by omega), eM _ 1 (by omega), eM _ 2 (by omega), eM _ 10 (by omega)]
    by_cases hj : j = m
    · subst hj
      rw [eM3, eM9]
      exact ⟨g0, g1, g2, by omega, by omega, by omega, by omega, fun _ => f10⟩
    · rw [eM _ _ (Or.inl hj), eM _ _ (Or.inl hj)]
      exact ⟨g0, g1, g2, g3, by omega, by omega, ga, gb⟩
/-- a message comes into the buffer of a terminal -/
theorem RC_come {x m v q f : Int} {l : List Int} {d0 d1 : zD} (h : RC K L D d b s N) (hx : 0 ≤ x ∧ x < s 0) (hl : L 1 x = m :: l) (hbt : rT s x 8 = rT s x 7) (hv : v = 1 - rT s x 7) (hq : q = s 46 + 1) (hN1 : N ≤ 999999999) (hDx : D x = []) (hf10 : f = if L 2 x = [] then s 3 else rT s x 10) (hz : L 2 x ≠ [] → s 3 < rT s x 10 + rT s x 2) (hroom : ((L 2 x).length : Int) < rT s x 1) (hln : rM s m 5 + rM s m 2 ≤ s 3)
    (hd0 : d0 = zu (zu (zu (zu d (b + 20) x.toNat v) (b + 23) x.toNat f) (b + 8) m.toNat (s 3)) (b + 5) m.toNat 2)
    (hK1 : KR (uK K 2 x (K 2 x ++ [m])) d1 b (s 2) (rM s)) (hf : ∀ c, c < b + 11 ∨ b + 14 < c → d1 c = d0 c) :
    RC (uK K 2 x (K 2 x ++ [m])) (uK L 2 x (L 2 x ++ [m])) D d1 b (uT (uM (us (uM (uM (uT s x 10 f) m 6 (s 3)) m 3 2) 46 q) m 10 q) x 7 v) (N + 1) := by
  obtain ⟨⟨i1, i2⟩, -, i4, i5, hN⟩ := RC_i h
  have hm := RC_in1 h (r := 1) (Or.inl rfl) hx (by rw [hl]; exact List.mem_cons_self)
  have hq46 := RC_q h
  have hm40 : 0 ≤ m ∧ m < 40 := by omega
  have hx8 : 0 ≤ x ∧ x < 8 := by omega
  have hnd := RC_nd h (r := 1) (x := x) (by omega) hx
  have hin1 := fun {r y j} hr hy hj => RC_in1 h (r := r) (x := y) (m := j) hr hy hj
  have hin0 := fun {y j} hy hj => RC_in0 h (x := y) (m := j) hy hj
  have hD3 := fun {y j} hy hj => RC_D3 h (y := y) (j := j) hy hj
  have hh := h
  obtain ⟨hS, hA, hQ, hM, hD, hK, hL, hKL, hP, hG, hI, hIL, hIT, hIM, hU, hb⟩ := hh
  have hit := hIT x hx.1 hx.2
  have himm := hIM m hm.1.1 hm.1.2
  have f3 : rM s m 3 = 1 := ((hP.1 x hx.1 hx.2).2.2.1 m l hl).2 hbt
  have f10 : rM s m 10 = 0 := himm.2.2.2.2.2.2.2 f3
  rw [hl] at hnd
  generalize hs : uT (uM (us (uM (uM (uT s x 10 f) m 6 (s 3)) m 3 2) 46 q) m 10 q) x 7 v = s'
  have ek : ∀ k, k < 50 ∨ 700 ≤ k → k ≠ 46 → s' k = s k := fun k hk h46 => by
    rw [← hs, uT_k hx8 (by omega) (by omega), uM_k hm40 (by omega) (by omega), us_ne h46, uM_k hm40 (by omega) (by omega), uM_k hm40 (by omega) (by omega), uT_k hx8 (by omega) (by omega)]
  have ek46 : s' 46 = q := by
    rw [← hs, uT_k hx8 (by omega) (by omega), uM_k hm40 (by omega) (by omega), us_eq]
  have hT : rT s' = up2 (up2 (rT s) x 10 f) x 7 v := by rw [← hs, rT_u hx8 (by omega), rT_uM hm40 (by omega), rT_f (by omega), rT_uM hm40 (by omega), rT_uM hm40 (by omega), rT_u hx8 (by omega)]
  have hMe : rM s' = up2 (up2 (up2 (rM s) m 6 (s 3)) m 3 2) m 10 q := by rw [← hs, rM_uT hx8 (by omega), rM_u hm40 (by omega), rM_f (by omega), rM_u hm40 (by omega), rM_u hm40 (by omega), rM_uT hx8 (by omega)]
  have eM : ∀ j w : Int, j ≠ m ∨ (w ≠ 3 ∧ w ≠ 6 ∧ w ≠ 10) → rM s' j w = rM s j w := fun j w hw => by
    rw [hMe, up2_ne (by omega), up2_ne (by omega), up2_ne (by omega)]
  have eM3 : rM s' m 3 = 2 := by rw [hMe, up2_ne (by omega), up2_eq]
  have eM10 : rM s' m 10 = q := by rw [hMe, up2_eq]
  have eT : ∀ y u : Int, y ≠ x ∨ (u ≠ 7 ∧ u ≠ 10) → rT s' y u = rT s y u := fun y u hu => by rw [hT, up2_ne (by omega), up2_ne (by omega)]
  have eT7 : rT s' x 7 = v := by rw [hT, up2_eq]
  have eT10 : rT s' x 10 = f := by rw [hT, up2_ne (by omega), up2_eq]
  have hmr : m ∉ L 2 x := fun hq1 => by
    have := (hin1 (r := 2) (Or.inr rfl) hx hq1).2.2
    rw [if_neg (by omega), f10] at this
    omega
  have hfd : ∀ c, c ≠ b + 20 → c ≠ b + 23 → c ≠ b + 8 → c ≠ b + 5 → (c < b + 11 ∨ b + 14 < c) → d1 c = d c := fun c h1 h2 h3 h4 h5 => by
    rw [hf c h5, hd0, zu_row h4, zu_row h3, zu_row h2, zu_row h1]
  have hf0 : 0 ≤ f ∧ f ≤ s 3 := by
    rw [hf10]
    split <;> omega
  refine RC_gen h (fun k k1 k2 => ek k (by omega) k2) (fun k k1 => ek k (by omega) (by omega)) (by rw [ek46]; omega) ⟨by omega, by omega⟩ (fun c hc => hfd c (by omega) (by omega) (by omega) (by omega) (by omega)) ?_ ?_ ?_ ?_ ?_ ?_ ?_ ?_ ?_ (fun y u hu => eT y u (by omega))
  · have h1 : RQ d1 b (s 0) (up2 (rT s) x 7 v) := RQ_d (d := d0) (by
      rw [hd0]
      intro y y0 yn
      have h2 := RQ_up hQ hx.1 (c := 20) (w := 7) (v := v) (by omega) y y0 yn
      rw [zu_row (a := b + 5) (b := b + 16) (by omega), zu_row (a := b + 5) (b := b + 17) (by omega), zu_row (a := b + 5) (b := b + 18) (by omega), zu_row (a := b + 5) (b := b + 19) (by omega), zu_row (a := b + 5) (b := b + 20) (by omega), zu_row (a := b + 5) (b := b + 21) (by omega), zu_row (a := b + 5) (b := b + 22) (by omega), zu_row (a := b + 5) (b := b + 24) (by omega)]
      rw [zu_row (a := b + 8) (b := b + 16) (by omega), zu_row (a := b + 8) (b := b + 17) (by omega), zu_row (a := b + 8) (b := b + 18) (by omega), zu_row (a := b + 8) (b := b + 19) (by omega), zu_row (a := b + 8) (b := b + 20) (by omega), zu_row (a := b + 8) (b := b + 21) (by omega), zu_row (a := b + 8) (b := b + 22) (by omega), zu_row (a := b + 8) (b := b + 24) (by omega)]
      rw [zu_row (a := b + 23) (b := b + 16) (by omega), zu_row (a := b + 23) (b := b + 17) (by omega), zu_row (a := b + 23) (b := b + 18) (by omega), zu_row (a := b + 23) (b := b + 19) (by omega), zu_row (a := b + 23) (b := b + 20) (by omega), zu_row (a := b + 23) (b := b + 21) (by omega), zu_row (a := b + 23) (b := b + 22) (by omega), zu_row (a := b + 23) (b := b + 24) (by omega)]
      exact h2) fun c _ _ => hf c (by omega)
    refine RQ_T h1 fun y u hu => ?_
    rw [hT]
    unfold up2
    by_cases e : y = x ∧ u = 7
    · rw [if_pos e, if_pos e]
    · rw [if_neg e, if_neg e, if_neg (by omega)]
  · rw [hMe]
    have h1 := RM_d (d' := d1) (RM_up (RM_up (RM_d (d' := zu (zu d (b + 20) x.toNat v) (b + 23) x.toNat f) hM fun c _ _ => by rw [zu_row (by omega), zu_row (by omega)]) hm40.1 (c := 8) (w := 6) (v := s 3) (by omega)) hm40.1 (c := 5) (w := 3) (v := 2) (by omega)) fun c _ _ => by rw [hf c (by omega), hd0]
    exact RM_M h1 fun j w hw => up2_ne (by omega)
  · intro y y0 yn
    rw [eT y 2 (by omega)]
    have e23 : d1 (b + 23) y.toNat = if y = x then f else d (b + 23) y.toNat := by
      rw [hf _ (by omega), hd0, zu_o (by omega), zu_o (by omega), zu_t hx.1 y0, zu_o (by omega)]
      by_cases hyx : y = x
      · rw [if_pos ⟨rfl, hyx⟩, if_pos hyx]
      · rw [if_neg (fun q => hyx q.2), if_neg hyx]
    rw [e23]
    by_cases hyx : y = x
    · subst hyx
      rw [if_pos rfl, hDx, eT10]
      rfl
    · rw [if_neg hyx, eT y 10 (by omega)]
      refine due_congr (Int.le_refl _) (hD y y0 yn) fun j hj => ?_
      have hjm : j ≠ m := fun e => by
        have := hD3 ⟨y0, yn⟩ hj
        rw [e, f3] at this
        omega
      exact ⟨eM _ _ (by omega), eM _ _ (by omega)⟩
  · exact KR_s hK1 (Int.le_refl _) fun j _ _ => ⟨eM _ _ (by omega), eM _ _ (by omega)⟩
  · intro r' y r0 r3 y0 y8
    have ho : ∀ j, j ≠ m → ord (rM s') r' y j = ord (rM s) r' y j := fun j hj => ord_congr (eM _ _ (by omega)) (eM _ _ (by omega)) (eM _ _ (by omega)) (eM _ _ (by omega)) (eM _ _ (by omega))
    by_cases hqq : r' = 2 ∧ y = x
    · obtain ⟨rfl, rfl⟩ := hqq
      rw [uK_eq]
      have hom : ord (rM s') 2 y m = q := by
        unfold ord
        rw [if_neg (by omega), eM _ 1 (by omega), if_pos hm.2.1, if_neg (by omega), eM10]
      refine rwl_snoc (hL 2 y r0 r3 y0 y8) hm.1 hmr (by rw [hom]; omega) (fun j hj => ?_) fun j hj _ _ => ho j hj
      rw [hom]
      have g := hin1 (r := 2) (Or.inr rfl) hx hj
      have := (hIM j g.1.1 g.1.2).2.2.2.2.2.1
      unfold ord
      rw [if_neg (by omega), if_pos g.2.1, if_neg (by omega)]
      omega
    · rw [uK_ne (by omega)]
      refine rwl_congr (hL r' y r0 r3 y0 y8) fun j _ _ => ?_
      by_cases hj : j = m
      · subst hj
        have hj1 := hm.2.1
        unfold ord
        rw [eM _ 0 (by omega), eM _ 1 (by omega), eM _ 8 (by omega)]
        by_cases hr0 : r' = 0
        · rw [if_pos hr0, if_pos hr0]
        · rw [if_neg hr0, if_neg hr0]
          by_cases hr1 : r' = 1
          · rw [if_pos hr1, eM _ 9 (by omega)]
          · rw [if_neg (by omega), if_neg (by omega)]
      · exact ho j hj
  · intro y
    obtain ⟨g1, g2, g3⟩ := hKL y
    rw [uK_ne (r := 2) (r' := 0) (by omega), uK_ne (r := 2) (r' := 1) (by omega), uK_ne (r := 2) (r' := 0) (by omega), uK_ne (r := 2) (r' := 1) (by omega)]
    refine ⟨g1, g2, ?_⟩
    by_cases hyr : y = x
    · subst hyr; rw [uK_eq, uK_eq, g3, List.append_assoc]
    · rw [uK_ne (by omega), uK_ne (by omega)]; exact g3
  · refine ⟨fun y y0 yn => ?_, fun j j0 jn => ?_, fun y y0 yn => ?_⟩
    · obtain ⟨g1, g2, g3, g4⟩ := hP.1 y y0 yn
      have n1 : ∀ j, rM s j 3 = 0 → rM s' j 3 = 0 := fun j hj => by
        rw [eM _ _ (Or.inl fun e => by rw [e, f3] at hj; omega)]
        exact hj
      rw [uK_ne (r := 2) (r' := 0) (by omega), uK_ne (r := 2) (r' := 1) (by omega), eT y 6 (by omega), eT y 8 (by omega), eT y 9 (by omega)]
      refine ⟨fun a q hq => ⟨fun j hj => n1 j ((g1 a q hq).1 j hj), fun hbb => n1 a ((g1 a q hq).2 hbb)⟩, g2, fun a q hq => ⟨fun j hj => ?_, fun hbb => ?_⟩, fun hbb => ?_⟩
      · have hjm : j ≠ m := fun e => by
          by_cases hyx : y = x
          · subst hyx
            rw [hl] at hq
            cases hq
            exact (List.nodup_cons.mp hnd).1 (by rw [← e]; exact hj)
          · have := hin1 (r := 1) (Or.inl rfl) (y := y) ⟨y0, yn⟩ (show j ∈ L 1 y by rw [hq]; exact List.mem_cons_of_mem _ hj)
            rw [e] at this
            exact hyx (this.2.1.symm.trans hm.2.1)
        rw [eM _ _ (Or.inl hjm)]
        exact (g3 a q hq).1 j hj
      · by_cases hyx : y = x
        · subst hyx
          rw [eT7] at hbb
          omega
        · have ham : a ≠ m := fun e => by
            have := hin1 (r := 1) (Or.inl rfl) (y := y) ⟨y0, yn⟩ (show a ∈ L 1 y by rw [hq]; exact List.mem_cons_self)
            rw [e] at this
            exact hyx (this.2.1.symm.trans hm.2.1)
          rw [eM _ _ (Or.inl ham)]
          rw [eT y 7 (Or.inl hyx)] at hbb
          exact (g3 a q hq).2 hbb
      · by_cases hyx : y = x
        · subst hyx
          rw [hl]
          exact fun q => by cases q
        · rw [eT y 7 (Or.inl hyx)] at hbb
          exact g4 hbb
    · by_cases hj : j = m
      · subst hj
        obtain ⟨ga, gb, gc, gd, ge, gf⟩ := hP.2.1 j j0 jn
        have m6 : rM s' j 6 = s 3 := by rw [hMe, up2_ne (by omega), up2_ne (by omega), up2_eq]
        have hmx := hm.2.1
        have gd1 := gd (by omega)
        unfold RJm
        rw [eM j 0 (by omega), eM j 1 (by omega), eM j 2 (by omega), eM3, eM j 4 (by omega), eM j 5 (by omega), m6, eM j 7 (by omega), eM j 8 (by omega), eM j 9 (by omega), eM10]
        exact ⟨fun q => absurd q (by decide), fun _ => gb (by omega), fun w => by omega, fun _ => ⟨fun w => absurd w (by decide), fun _ => ⟨(gd1.1 f3).2.1, by omega⟩, fun _ => hln, fun w => absurd w (by decide)⟩, fun w => absurd w (by decide), gf⟩
      · exact RJm_c (hP.2.1 j j0 jn) (fun w _ => eM _ _ (Or.inl hj)) (eT _ _ (by omega))
    · obtain ⟨g1, g2, g3, g4, g5, g6⟩ := hP.2.2 y y0 yn
      have nom : ∀ a, a ∈ L 2 y → a ≠ m := fun a ha e => by
        have := (hin1 (r := 2) (Or.inr rfl) ⟨y0, yn⟩ ha).2.2
        rw [e, if_neg (by omega), f10] at this
        omega
      unfold RJx
      rw [uK_ne (r := 2) (r' := 0) (by omega), uK_ne (r := 2) (r' := 1) (by omega), eT y 6 (by omega), eT y 9 (by omega), eT y 8 (by omega), eT y 1 (by omega), eT y 2 (by omega), eT y 4 (by omega), eT y 5 (by omega)]
      refine ⟨fun q a r hr => ?_, fun q a r hr => ?_, ?_, fun a r hr => ?_, g5, g6⟩
      · by_cases ha : a = m
        · rw [ha, eM3]; decide
        · rw [eM _ _ (Or.inl ha)]
          exact g1 q a r hr
      · by_cases ha : a = m
        · rw [ha, eM3]; decide
        · have hyx : y ≠ x := fun e => by
            rw [e, hl] at hr
            cases hr
            exact ha rfl
          rw [eT y 7 (Or.inl hyx)] at q
          rw [eM _ _ (Or.inl ha)]
          exact g2 q a r hr
      · by_cases hyx : y = x
        · subst hyx
          rw [uK_eq, List.length_append]
          simp only [List.length_cons, List.length_nil]
          omega
        · rw [uK_ne (Or.inr hyx)]; exact g3
      · have m6 : rM s' m 6 = s 3 := by rw [hMe, up2_ne (by omega), up2_ne (by omega), up2_eq]
        by_cases hyx : y = x
        · subst hyx
          rw [uK_eq] at hr
          rw [eT10]
          cases hl2 : L 2 y with
          | nil =>
            rw [hl2] at hr
            cases hr
            rw [hf10, if_pos hl2, m6]
            exact ⟨Int.le_refl _, fun z hz => nomatch hz⟩
          | cons a1 q1 =>
            rw [hl2] at hr
            cases hr
            obtain ⟨p1, p2⟩ := g4 _ _ hl2
            have hne2 : L 2 y ≠ [] := by rw [hl2]; exact fun e => by cases e
            have hz1 := hz hne2
            rw [hf10, if_neg hne2, eM _ _ (Or.inl (nom a (by rw [hl2]; exact List.mem_cons_self)))]
            refine ⟨p1, fun z hzz => ?_⟩
            rcases List.mem_append.mp hzz with hzz | hzz
            · rw [eM _ _ (Or.inl (nom z (by rw [hl2]; exact List.mem_cons_of_mem _ hzz)))]
              exact p2 z hzz
            · rw [List.mem_singleton.mp hzz, m6]
              omega
        · rw [uK_ne (Or.inr hyx)] at hr
          rw [eT y 10 (Or.inl hyx)]
          obtain ⟨p1, p2⟩ := g4 a r hr
          exact ⟨by rw [eM _ _ (Or.inl (nom a (by rw [hr]; exact List.mem_cons_self)))]; exact p1, fun z hz => by rw [eM _ _ (Or.inl (nom z (by rw [hr]; exact List.mem_cons_of_mem _ hz)))]; exact p2 z hz⟩
  · intro y y0 yn
    obtain ⟨g0, g1, g2, g3, g4, g6, g7, g8, g9, g10⟩ := hIT y y0 yn
    rw [eT y 0 (by omega), eT y 1 (by omega), eT y 2 (by omega), eT y 3 (by omega), eT y 4 (by omega), eT y 6 (by omega), eT y 8 (by omega), eT y 9 (by omega)]
    refine ⟨g0, g1, g2, g3, g4, g6, ?_, g8, g9, ?_⟩
    · by_cases hyx : y = x
      · subst hyx; rw [eT7]; omega
      · rw [eT y 7 (Or.inl hyx)]; exact g7
    · by_cases hyx : y = x
      · subst hyx; rw [eT10]; exact hf0
      · rw [eT y 10 (Or.inl hyx)]; exact g10
  · rw [ek46]
    intro j j0 jn
    obtain ⟨g0, g1, g2, g3, g9, g10, ga, gb⟩ := hIM j j0 jn
    rw [eM _ 0 (by omega), eM _ 1 (by omega), eM _ 2 (by omega), eM _ 9 (by omega)]
    by_cases hj : j = m
    · subst hj
      rw [eM3, eM10]
      exact ⟨g0, g1, g2, by omega, by omega, by omega, by omega, by omega⟩
    · rw [eM _ _ (Or.inl hj), eM _ _ (Or.inl hj)]
      exact ⟨g0, g1, g2, g3, by omega, by omega, ga, gb⟩
end TAKES
