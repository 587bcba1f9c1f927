/-! What is due leaves the buffers: the reference at once, the class later. -/
theorem ord_congr {M M' : zM} {r x m : Int} (h0 : M' m 0 = M m 0) (h1 : M' m 1 = M m 1) (h8 : M' m 8 = M m 8) (h9 : M' m 9 = M m 9) (h10 : M' m 10 = M m 10) : ord M' r x m = ord M r x m := by
  unfold ord
  rw [h0, h1, h8]
  have : M' m (if r = 1 then 9 else 10) = M m (if r = 1 then 9 else 10) := by
    split
    · exact h9
    · exact h10
  rw [this]
theorem RQ_T {d : zD} {b : Nat} {n : Int} {T T' : zM} (h : RQ d b n T) (e : ∀ y u : Int, (3 ≤ u ∧ u ≤ 9) ∨ 11 ≤ u → T' y u = T y u) : RQ d b n T' := by
  intro y y0 yn
  obtain ⟨h1, h2, h3, h4, h5, h6, h7, h8⟩ := h y y0 yn
  refine ⟨by rw [e _ _ (by omega)]; exact h1, by rw [e _ _ (by omega)]; exact h2, by rw [e _ _ (by omega)]; exact h3, by rw [e _ _ (by omega)]; exact h4, by rw [e _ _ (by omega)]; exact h5, by rw [e _ _ (by omega)]; exact h6, by rw [e _ _ (by omega)]; exact h7, fun w w0 w4 => ?_⟩
  rw [e _ _ (by omega)]
  exact h8 w w0 w4
theorem RU_T {d : zD} {n : Int} {T T' : zM} (h : RU d n T) (e : ∀ y u : Int, (0 ≤ u ∧ u ≤ 2) ∨ u = 15 → T' y u = T y u) : RU d n T' := by
  refine ⟨h.1, fun y y0 yn => ?_⟩
  rw [e y 0 (by omega), e y 1 (by omega), e y 2 (by omega), e y 15 (by omega)]
  exact h.2 y y0 yn
theorem RC_settle {K L : Int → Int → List Int} {D : Int → List Int} {d : zD} {b : Nat} {s : Nat → Int} {N x m F1 : Int} {l : List Int} (h : RC K L D d b s N) (hx : 0 ≤ x ∧ x < s 0) (hl : L 2 x = m :: l) (hF : F1 = rT s x 10 + rT s x 2) (ht : F1 ≤ s 3) :
    RC K (uK L 2 x l) (uD D x (D x ++ [m])) d b (uM (uM (uM (uT s x 10 F1) m 3 3) m 7 F1) m 10 0) N := by
  have hown := fun {r y j} hr hy hj => RC_own h (r := r) (x := y) (m := j) hr hy hj
  obtain ⟨hS, hA, hQ, hM, hD, hK, hL, hKL, hP, hG, hI, hIL, hIT, hIM, hU, hb⟩ := h
  have hI' := hI
  obtain ⟨⟨i1, i2⟩, i3, i4, i5, -⟩ := hI'
  have hx8 : 0 ≤ x ∧ x < 8 := by omega
  have hK2 := (hKL x).2.2
  rw [hl] at hK2
  have hm := hown (r := 2) (by omega) hx8 (show m ∈ K 2 x by rw [hK2]; simp)
  have hm1 : rM s m 1 = x := hm.2
  have hm40 : 0 ≤ m ∧ m < 40 := by omega
  have hrw := hL 2 x (by omega) (by omega) hx8.1 hx8.2
  rw [hl] at hrw
  have hbuf : 0 < rM s m 10 := by
    have h1 := ((hrw.2 m).mp List.mem_cons_self).2
    unfold ord at h1
    rw [if_neg (by omega), if_pos hm1, if_neg (by omega)] at h1
    exact h1
  have him := hIM m hm40.1 (by omega)
  have hst : rM s m 3 ≠ 0 ∧ rM s m 3 ≠ 1 := by
    constructor
    · intro e; have := (him.2.2.2.2.2.2.1 e).2; omega
    · intro e; have := him.2.2.2.2.2.2.2 e; omega
  have hn0 : ∀ j, rM s j 3 = 0 → j ≠ m := fun j h1 h2 => hst.1 (by rw [← h2]; exact h1)
  have hn1 : ∀ j, rM s j 3 = 1 → j ≠ m := fun j h1 h2 => hst.2 (by rw [← h2]; exact h1)
  have hnd := (hK 2 x (by omega) (by omega) hx8.1 hx8.2).2.1
  rw [hK2] at hnd
  have hnd1 := List.nodup_append.mp hnd
  have hmD : m ∉ D x := fun q => hnd1.2.2 m q m List.mem_cons_self rfl
  have hml : m ∉ l := (List.nodup_cons.mp hnd1.2.1).1
  have hit := hIT x hx.1 hx.2
  generalize hs : uM (uM (uM (uT s x 10 F1) m 3 3) m 7 F1) m 10 0 = s'
  have hlo : ∀ k, k < 50 → s' k = s k := fun k hk => by
    rw [← hs, uM_k hm40 (by omega) (by omega), uM_k hm40 (by omega) (by omega), uM_k hm40 (by omega) (by omega), uT_k hx8 (by omega) (by omega)]
  have hhi : ∀ k, 700 ≤ k → s' k = s k := fun k hk => by
    rw [← hs, uM_k hm40 (by omega) (by omega), uM_k hm40 (by omega) (by omega), uM_k hm40 (by omega) (by omega), uT_k hx8 (by omega) (by omega)]
  have hT : rT s' = up2 (rT s) x 10 F1 := by
    rw [← hs, rT_uM hm40 (by omega), rT_uM hm40 (by omega), rT_uM hm40 (by omega), rT_u hx8 (by omega)]
  have hM' : rM s' = up2 (up2 (up2 (rM s) m 3 3) m 7 F1) m 10 0 := by
    rw [← hs, rM_u hm40 (by omega), rM_u hm40 (by omega), rM_u hm40 (by omega), rM_uT hx8 (by omega)]
  have eT : ∀ y u : Int, u ≠ 10 → rT s' y u = rT s y u := fun y u hu => by rw [hT, up2_ne (Or.inr hu)]
  have eM : ∀ j w : Int, j ≠ m ∨ (w ≠ 3 ∧ w ≠ 7 ∧ w ≠ 10) → rM s' j w = rM s j w := fun j w hw => by
    rw [hM', up2_ne (by omega), up2_ne (by omega), up2_ne (by omega)]
  have eM3 : rM s' m 3 = 3 := by rw [hM', up2_ne (by omega), up2_ne (by omega), up2_eq]
  have eM7 : rM s' m 7 = F1 := by rw [hM', up2_ne (by omega), up2_eq]
  have eM10 : rM s' m 10 = 0 := by rw [hM', up2_eq]
  have eT10 : rT s' x 10 = F1 := by rw [hT, up2_eq]
  have h0 := hlo 0 (by omega)
  have h2 := hlo 2 (by omega)
  have h3 := hlo 3 (by omega)
  have h46 := hlo 46 (by omega)
  have h8 := hlo 8 (by omega)
  refine ⟨RS_s hS hlo, RA_s hA (by omega) hlo, ?_, ?_, ?_, ?_, ?_, ?_, ?_, RG_s hG hlo hhi, RI_s hI hlo, RIL_s hIL (by omega) hlo, ?_, ?_, ?_, hb⟩
  · rw [h0]; exact RQ_T hQ fun y u hu => eT y u (by omega)
  · rw [h2]
    intro j j0 jn
    obtain ⟨g1, g2, g3, g4, g5, g6, g7⟩ := hM j j0 jn
    refine ⟨by rw [eM _ _ (by omega)]; exact g1, by rw [eM _ _ (by omega)]; exact g2, by rw [eM _ _ (by omega)]; exact g3, by rw [eM _ _ (by omega)]; exact g4, by rw [eM _ _ (by omega)]; exact g5, by rw [eM _ _ (by omega)]; exact g6, fun hq => ?_⟩
    have hjm : j ≠ m := fun e => by
      have := hq x hx8.1 hx8.2
      rw [uD_eq, e] at this
      exact this (by simp)
    have hjD : ∀ y, 0 ≤ y → y < 8 → j ∉ D y := fun y y0 y8 hy => by
      have := hq y y0 y8
      by_cases hyx : y = x
      · subst hyx
        rw [uD_eq] at this
        exact this (List.mem_append_left _ hy)
      · rw [uD_ne hyx] at this
        exact this hy
    rw [eM _ _ (by omega), eM _ _ (by omega)]
    exact g7 hjD
  · rw [h0, h3]
    intro y y0 yn
    have g := hD y y0 yn
    rw [eT y 2 (by omega)]
    by_cases hyx : y = x
    · subst hyx
      rw [uD_eq, eT10, hF]
      exact due_snoc g (fun j hj => by
        have : j ≠ m := fun e => hmD (by rw [← e]; exact hj)
        exact ⟨eM _ _ (by omega), eM _ _ (by omega)⟩) eM3 (by rw [eM7, hF]) (by omega)
    · rw [uD_ne hyx]
      have e10 : rT s' y 10 = rT s y 10 := by rw [hT, up2_ne (Or.inl hyx)]
      rw [e10]
      refine due_congr (Int.le_refl _) g fun j hj => ?_
      have : j ≠ m := fun e => by
        have := (hown (r := 2) (by omega) (show 0 ≤ y ∧ y < 8 by omega) (show j ∈ K 2 y by rw [(hKL y).2.2]; exact List.mem_append_left _ hj)).2
        rw [e] at this
        exact hyx (this.symm.trans hm1)
      exact ⟨eM _ _ (by omega), eM _ _ (by omega)⟩
  · rw [h2]; exact KR_s hK (Int.le_refl _) fun j j0 jn => ⟨eM _ _ (by omega), eM _ _ (by omega)⟩
  · rw [h2]
    intro r y r0 r3 y0 y8
    by_cases hq : r = 2 ∧ y = x
    · obtain ⟨rfl, rfl⟩ := hq
      rw [uK_eq]
      refine rwl_tail hrw ?_ fun j hj j0 jn => ord_congr (eM _ _ (by omega)) (eM _ _ (by omega)) (eM _ _ (by omega)) (eM _ _ (by omega)) (eM _ _ (by omega))
      unfold ord
      rw [if_neg (by omega), eM _ _ (by omega), if_pos hm1, if_neg (by omega), eM10]
      exact Int.le_refl _
    · rw [uK_ne (by omega)]
      refine rwl_congr (hL r y r0 r3 y0 y8) fun j j0 jn => ?_
      by_cases hj : j = m
      · subst hj
        unfold ord
        rw [eM _ 0 (by omega), eM _ 1 (by omega), eM _ 8 (by omega)]
        by_cases hr0 : r = 0
        · rw [if_pos hr0, if_pos hr0]
        · rw [if_neg hr0, if_neg hr0]
          by_cases hr1 : r = 1
          · rw [if_pos hr1, eM _ 9 (by omega)]
          · have : ¬ rM s j 1 = y := by omega
            rw [if_neg this, if_neg this]
      · exact ord_congr (eM _ _ (by omega)) (eM _ _ (by omega)) (eM _ _ (by omega)) (eM _ _ (by omega)) (eM _ _ (by omega))
  · intro y
    obtain ⟨g1, g2, g3⟩ := hKL y
    rw [uK_ne (by omega), uK_ne (by omega)]
    refine ⟨g1, g2, ?_⟩
    by_cases hyx : y = x
    · subst hyx
      rw [uK_eq, uD_eq, g3, hl]
      simp
    · rw [uK_ne (by omega), uD_ne hyx, g3]
  · rw [h0, h2, h3, h8]
    refine ⟨fun y y0 yn => ?_, fun j j0 jn => ?_, fun y y0 yn => ?_⟩
    · obtain ⟨g1, g2, g3, g4⟩ := hP.1 y y0 yn
      rw [uK_ne (by omega), uK_ne (by omega), eT y 6 (by omega), eT y 7 (by omega), eT y 8 (by omega), eT y 9 (by omega)]
      refine ⟨fun a q hq => ⟨fun j hj => ?_, fun hb => ?_⟩, g2, fun a q hq => ⟨fun j hj => ?_, fun hb => ?_⟩, g4⟩
      · have g := (g1 a q hq).1 j hj
        rw [eM _ _ (Or.inl (hn0 j g))]
        exact g
      · have g := (g1 a q hq).2 hb
        rw [eM _ _ (Or.inl (hn0 a g))]
        exact g
      · have g := (g3 a q hq).1 j hj
        rw [eM _ _ (Or.inl (hn1 j g))]
        exact g
      · have g := (g3 a q hq).2 hb
        rw [eM _ _ (Or.inl (hn1 a g))]
        exact g
    · have g := hP.2.1 j j0 jn
      by_cases hj : j = m
      · subst hj
        obtain ⟨gx1, gx2, gx3, gx4, gx5, gx6⟩ := hP.2.2 x hx.1 hx.2
        have c6 := (gx4 j l hl).1
        obtain ⟨ga, gb, gc, gd, ge, gf⟩ := g
        have st2 : rM s j 3 = 2 := by
          have h1 := him.2.2.2.1
          have h2 : rM s j 3 ≠ 3 := fun e => by have := ge e; omega
          omega
        unfold RJm
        rw [eM j 0 (by omega), eM j 1 (by omega), eM j 2 (by omega), eM3, eM j 4 (by omega), eM j 5 (by omega), eM j 6 (by omega), eM7, eM j 8 (by omega), eM j 9 (by omega), eM10, eT _ 2 (by omega), hm1]
        rw [hm1] at gc gd
        refine ⟨fun q => absurd q (by decide), fun _ => gb (by omega), fun q => by omega, fun q => ⟨fun w => absurd w (by decide), fun w => absurd w (by decide), fun _ => (gd q).2.2.1 (by omega), fun _ => ⟨by omega, ht⟩⟩, fun _ => rfl, gf⟩
      · exact RJm_c g (fun w hw => eM j w (Or.inl hj)) (eT _ _ (by omega))
    · obtain ⟨g1, g2, g3, g4, g5, g6⟩ := hP.2.2 y y0 yn
      unfold RJx
      rw [uK_ne (r' := 0) (by omega), uK_ne (r' := 1) (by omega), eT y 6 (by omega), eT y 9 (by omega), eT y 8 (by omega), eT y 7 (by omega), eT y 1 (by omega), eT y 2 (by omega), eT y 4 (by omega), eT y 5 (by omega)]
      refine ⟨fun q a r hr => ?_, fun q a r hr => ?_, ?_, ?_, g5, g6⟩
      · by_cases ha : a = m
        · rw [ha, eM3]; decide
        · rw [eM a 3 (Or.inl ha)]; exact g1 q a r hr
      · by_cases ha : a = m
        · rw [ha, eM3]; decide
        · rw [eM a 3 (Or.inl ha)]; exact g2 q a r hr
      · by_cases hyx : y = x
        · subst hyx
          rw [uK_eq]
          rw [hl] at g3
          simp only [List.length_cons] at g3
          omega
        · rw [uK_ne (Or.inr hyx)]; exact g3
      · by_cases hyx : y = x
        · subst hyx
          rw [uK_eq, eT10]
          intro a r hr
          have g9 := (g4 m l hl).2
          have nm : ∀ z, z ∈ l → z ≠ m := fun z hz e => hml (by rw [← e]; exact hz)
          have ha : a ∈ l := by rw [hr]; exact List.mem_cons_self
          have hit2 := hit.2.2.1
          refine ⟨by rw [eM a 6 (by omega), hF]; exact g9 a ha, fun z hz => ?_⟩
          have hz2 : z ∈ l := by rw [hr]; exact List.mem_cons_of_mem _ hz
          have := g9 z hz2
          rw [eM z 6 (by omega)]
          omega
        · have e10 : rT s' y 10 = rT s y 10 := by rw [hT, up2_ne (Or.inl hyx)]
          rw [uK_ne (Or.inr hyx), e10]
          intro a r hr
          obtain ⟨p1, p2⟩ := g4 a r hr
          exact ⟨by rw [eM a 6 (by omega)]; exact p1, fun z hz => by rw [eM z 6 (by omega)]; exact p2 z hz⟩
  · rw [h0, h3]
    intro y y0 yn
    obtain ⟨g0, g1, g2, g3, g4, g6, g7, g8, g9, g10⟩ := hIT y y0 yn
    rw [eT y 0 (by omega), eT y 1 (by omega), eT y 2 (by omega), eT y 3 (by omega), eT y 4 (by omega), eT y 6 (by omega), eT y 7 (by omega), eT y 8 (by omega), eT y 9 (by omega)]
    refine ⟨g0, g1, g2, g3, g4, g6, g7, g8, g9, ?_⟩
    by_cases hyx : y = x
    · subst hyx; rw [eT10]; omega
    · rw [hT, up2_ne (Or.inl hyx)]; exact g10
  · rw [h0, h2, h46]
    intro j j0 jn
    obtain ⟨g0, g1, g2, g3, g9, g10, ga, gb⟩ := hIM j j0 jn
    rw [eM j 0 (by omega), eM j 1 (by omega), eM j 2 (by omega), eM j 9 (by omega)]
    by_cases hj : j = m
    · subst hj
      rw [eM3, eM10]
      refine ⟨g0, g1, g2, by omega, g9, by omega, by omega, by omega⟩
    · rw [eM j 3 (by omega), eM j 10 (by omega)]
      exact ⟨g0, g1, g2, g3, g9, g10, ga, gb⟩
  · rw [h0]; exact RU_T hU fun y u hu => eT y u (by omega)
/-- what has gone stays so -/
def P3 (s s' : Nat → Int) : Prop := ∀ m, rM s m 3 = 3 → rM s' m 3 = 3
theorem P3.rf {s : Nat → Int} : P3 s s := fun _ h => h
theorem P3.tr {s s' s2 : Nat → Int} (h : P3 s s') (g : P3 s' s2) : P3 s s2 := fun m q => g m (h m q)
theorem P3.e {s s' : Nat → Int} (h : rM s' = rM s) : P3 s s' := fun m q => by rw [h]; exact q
/-- the reference's own settling of one buffer -/
theorem R_settles_loop {K : Int → Int → List Int} {d : zD} {b : Nat} {N x : Int} : ∀ (q k : Nat) {L : Int → Int → List Int} {D : Int → List Int} {ds : zD}, RC K L D d b (ds 401) N → (0 ≤ x ∧ x < ds 401 0) → (L 2 x).length = k → k < q → ∃ ds' L' D', l_X12_settles_8 q x (hd1 (L 2 x)) ds = some (0, ds') ∧ RC K L' D' d b (ds' 401) N ∧ (∀ k, k < 50 → ds' 401 k = ds 401 k) ∧ (∀ y u, y ≠ x ∨ u ≠ 10 → rT (ds' 401) y u = rT (ds 401) y u) ∧ (∀ r y, r ≠ 2 ∨ y ≠ x → L' r y = L r y) ∧ (L' 2 x ≠ [] → ds 401 3 < rT (ds' 401) x 10 + rT (ds' 401) x 2) ∧ (∀ c, c ≠ 401 → ds' c = ds c) ∧ (∀ m w, w ≠ 3 → w ≠ 7 → w ≠ 10 → rM (ds' 401) m w = rM (ds 401) m w) ∧ P3 (ds 401) (ds' 401) := by
  intro q
  induction q with
  | zero => intro k L D ds h hx hk hq; omega
  | succ q ih =>
    intro k L D ds h hx hk hq
    have h' := h
    obtain ⟨hS, hA, hQ, hM, hD, hK, hL, hKL, hP, hG, hI, hIL, hIT, hIM, hU, hb⟩ := h'
    obtain ⟨⟨i1, i2⟩, i3, i4, ⟨i5, i6⟩, -, -, -, -, -, -, -, -, -, -, -, -, -, hN⟩ := hI
    have hx8 : 0 ≤ x ∧ x < 8 := by omega
    have hit := hIT x hx.1 hx.2
    cases hl : L 2 x with
    | nil =>
      refine ⟨ds, L, D, ?_, h, fun _ _ => rfl, fun _ _ _ => rfl, fun _ _ _ => rfl, fun e => absurd hl e, fun _ _ => rfl, fun _ _ _ _ _ => rfl, P3.rf⟩
      show l_X12_settles_8F _ x (-1) ds = _
      unfold l_X12_settles_8F
      rw [if_pos rfl]
    | cons m l =>
      have hm := RC_own h (r := 2) (m := m) (by omega) hx8 (by rw [(hKL x).2.2, hl]; simp)
      have hm40 : 0 ≤ m ∧ m < 40 := by omega
      show ∃ ds' L' D', l_X12_settles_8F _ x m ds = _ ∧ _
      simp (disch := omega) only [l_X12_settles_8F, e_of, zc_t, zl, zw_id, zg_t, Int.reduceToNat]
      rw [if_neg (by omega)]
      by_cases ht : ds 401 3 < rT (ds 401) x 10 + rT (ds 401) x 2
      · rw [if_pos ht]
        exact ⟨ds, L, D, rfl, h, fun _ _ => rfl, fun _ _ _ => rfl, fun _ _ _ => rfl, fun _ => ht, fun _ _ => rfl, fun _ _ _ _ _ => rfl, P3.rf⟩
      · rw [if_neg ht]
        simp (disch := omega) only [e_puts, zc_t, e_of, tD_s, rT_u, up2_eq, f_X12_delivers, e_tells]
        have hrc := RC_settle h hx hl rfl (by omega)
        generalize hds : mD (mD (mD (tD ds x 10 (rT (ds 401) x 10 + rT (ds 401) x 2)) m 3 3) m 7 (rT (ds 401) x 10 + rT (ds 401) x 2)) m 10 0 = d1
        have hs1 : d1 401 = uM (uM (uM (uT (ds 401) x 10 (rT (ds 401) x 10 + rT (ds 401) x 2)) m 3 3) m 7 (rT (ds 401) x 10 + rT (ds 401) x 2)) m 10 0 := by
          rw [← hds, mD_s, mD_s, mD_s, tD_s]
        have hfr : ∀ c, c ≠ 401 → d1 c = ds c := fun c hc => by
          rw [← hds]
          unfold mD tD
          rw [zu_row hc, zu_row hc, zu_row hc, zu_row hc]
        rw [← hs1] at hrc
        have hlo : ∀ k, k < 50 → d1 401 k = ds 401 k := fun k hk => by
          rw [hs1, uM_k hm40 (by omega) (by omega), uM_k hm40 (by omega) (by omega), uM_k hm40 (by omega) (by omega), uT_k hx8 (by omega) (by omega)]
        have hT1 : rT (d1 401) = up2 (rT (ds 401)) x 10 (rT (ds 401) x 10 + rT (ds 401) x 2) := by
          rw [hs1, rT_uM hm40 (by omega), rT_uM hm40 (by omega), rT_uM hm40 (by omega), rT_u hx8 (by omega)]
        have hM1 : ∀ j w : Int, w ≠ 3 → w ≠ 7 → w ≠ 10 → rM (d1 401) j w = rM (ds 401) j w := fun j w h1 h2 h3 => by
          rw [hs1, rM_u hm40 (by omega), rM_u hm40 (by omega), rM_u hm40 (by omega), rM_uT hx8 (by omega), up2_ne (Or.inr h3), up2_ne (Or.inr h2), up2_ne (Or.inr h1)]
        have hP1 : P3 (ds 401) (d1 401) := fun j hj => by
          rw [hs1, rM_u hm40 (by omega), rM_u hm40 (by omega), rM_u hm40 (by omega), rM_uT hx8 (by omega), up2_ne (Or.inr (by decide)), up2_ne (Or.inr (by decide))]
          by_cases e : j = m
          · rw [e, up2_eq]
          · rw [up2_ne (Or.inl e)]; exact hj
        have hL1 := hrc
        obtain ⟨-, -, -, -, -, -, hL1, -⟩ := hL1
        have hr1 := hL1 2 x (by omega) (by omega) hx8.1 hx8.2
        rw [e_rowAt (by rw [hlo 2 (by omega)]; exact i4), zc_t, rwl_hd hr1 (by rw [hlo 2 (by omega)]; exact i4.1)]
        have hlen : (uK L 2 x l 2 x).length = k - 1 := by
          rw [uK_eq]
          rw [hl] at hk
          simp at hk
          omega
        have hk0 : 0 < k := by rw [← hk, hl]; simp
        obtain ⟨ds', L', D', r1, r2, r3, r4, r5, r6, r7, r8, r9⟩ := ih (k - 1) hrc (by rw [hlo 0 (by omega)]; exact hx) hlen (by omega)
        refine ⟨ds', L', D', r1, r2, fun j hj => (r3 j hj).trans (hlo j hj), fun y u hyu => (r4 y u hyu).trans ?_, fun r y hry => (r5 r y hry).trans (uK_ne hry), fun hne => ?_, fun c hc => (r7 c hc).trans (hfr c hc), fun j w w1 w2 w3 => (r8 j w w1 w2 w3).trans (hM1 j w w1 w2 w3), P3.tr hP1 r9⟩
        · rw [hT1, up2_ne hyu]
        · have := r6 hne
          rw [hlo 3 (by omega)] at this
          exact this
