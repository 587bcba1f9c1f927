/-! The bytes of the input. -/
def Fi (d d' : zD) : Prop := (∀ c, c ≠ 10 → c ≠ 11 → d' c = d c) ∧ ∀ j, j ≠ 1 → d' 10 j = d 10 j
def Fj (d d' : zD) : Prop := (∀ c, c ≠ 400 → c ≠ 405 → d' c = d c) ∧ ∀ j, j ≠ 0 → j ≠ 11 → d' 400 j = d 400 j
theorem Fi.tr {a b c : zD} (h : Fi a b) (q : Fi b c) : Fi a c := ⟨fun k k1 k2 => (q.1 k k1 k2).trans (h.1 k k1 k2), fun j j1 => (q.2 j j1).trans (h.2 j j1)⟩
theorem Fj.tr {a b c : zD} (h : Fj a b) (q : Fj b c) : Fj a c := ⟨fun k k1 k2 => (q.1 k k1 k2).trans (h.1 k k1 k2), fun j j1 j2 => (q.2 j j1 j2).trans (h.2 j j1 j2)⟩
theorem GR_I {dc ds dc' ds' : zD} (h : GR dc ds) (hi : IR dc' ds') (f : Fi dc dc') (g : Fj ds ds') : GR dc' ds' := by
  obtain ⟨h1, h2, ⟨a1, a2, a3, a4⟩, ⟨b1, b2, b3⟩, -, ⟨f1, f2⟩, ⟨g1, g2, g3⟩⟩ := h
  obtain ⟨e1, e2⟩ := f
  obtain ⟨o1, o2⟩ := g
  have ep : ∀ i, pst ds' i = pst ds i := fun i => by
    unfold pst
    rw [o1 404 (by omega) (by omega)]
  unfold GR HR SR ER OR
  rw [o1 401 (by omega) (by omega), o1 403 (by omega) (by omega), o1 408 (by omega) (by omega), e1 8 (by omega) (by omega), e1 0 (by omega) (by omega), e1 25 (by omega) (by omega), e2 5 (by omega), e2 6 (by omega), o2 5 (by omega) (by omega), o2 6 (by omega) (by omega), o2 12 (by omega) (by omega), o2 13 (by omega) (by omega), o2 24 (by omega) (by omega)]
  exact ⟨LR_d h1 fun c hc => e1 c (by omega) (by omega), h2, ⟨a1, a2, a3, fun i hi => by rw [ep]; exact ⟨LR_d (a4 i hi).1 fun c hc => e1 c (by omega) (by omega), (a4 i hi).2⟩⟩, ⟨b1, b2, fun q => ⟨LR_d (b3 q).1 fun c hc => e1 c (by omega) (by omega), (b3 q).2⟩⟩, hi, ⟨f1, f2⟩, ⟨g1, g2, g3⟩⟩
theorem S_byte {dc ds : zD} {w : Int} (h : IR dc ds) (hn : ds 400 11 < 600) (hw : zR w) : f_X9_addByte (zand w 255) dc = some (0, zu (zu dc 11 (ds 400 11).toNat (zand w 255)) 10 1 (ds 400 11 + 1)) ∧ IR (zu (zu dc 11 (ds 400 11).toNat (zand w 255)) 10 1 (ds 400 11 + 1)) (zu (zu ds 405 (ds 400 11).toNat (zb8 (zb8 w))) 400 11 (ds 400 11 + 1)) := by
  obtain ⟨h1, h2, h3⟩ := h
  constructor
  · unfold f_X9_addByte
    rw [zl_n, h1, if_neg (by omega), zl_n, zg_t (by omega), zl_n, zl_n, zu_ne (by omega), h1, zl_n, zw_id (by omega) (by omega), zl_n]
  · refine ⟨by rw [zu_eq, zu_eq], by rw [zu_eq]; omega, fun j j0 j1 => ?_⟩
    rw [zu_eq] at j1
    have r1 : zu (zu dc 11 (ds 400 11).toNat (zand w 255)) 10 1 (ds 400 11 + 1) 11 = zu dc 11 (ds 400 11).toNat (zand w 255) 11 := zu_row (by omega)
    have r2 : zu (zu ds 405 (ds 400 11).toNat (zb8 (zb8 w))) 400 11 (ds 400 11 + 1) 405 = zu ds 405 (ds 400 11).toNat (zb8 (zb8 w)) 405 := zu_row (by omega)
    rw [r1, r2]
    by_cases e : j = ds 400 11
    · subst e
      rw [zu_eq, zu_eq, zb8_255 hw]
      have := zand_255 w
      exact ⟨rfl, by omega, by omega⟩
    · rw [zu_ne (by omega), zu_ne (by omega)]
      exact h3 j j0 (by omega)
theorem S_step {dc ds : zD} {x x2 : Int} (h : IR dc ds) (hn : ds 400 11 < 600) (h2 : 0 ≤ x2 ∧ x2 ≤ 24) : ∃ dc1 ds1, (∀ q, l_X9_addFourBytes_3 (q + 1) x x2 dc = l_X9_addFourBytes_3 q x (x2 - 8) dc1) ∧ (∀ q, l_X12_puts4_3 (q + 1) x x2 ds = l_X12_puts4_3 q x (x2 - 8) ds1) ∧ IR dc1 ds1 ∧ ds1 400 11 = ds 400 11 + 1 ∧ Fi dc dc1 ∧ Fj ds ds1 ∧ ds1 400 0 = ds 400 0 := by
  obtain ⟨i1, i2, -⟩ := id h
  have hw : zR (zshr x x2) := zR_of _
  obtain ⟨a1, a2⟩ := S_byte h hn hw
  refine ⟨_, _, fun q => ?_, fun q => ?_, a2, zu_eq, ⟨fun c c1 c2 => by rw [zu_row c1, zu_row c2], fun j hj => by rw [zu_ne (by omega), zu_row (by omega)]⟩, ⟨fun c c1 c2 => by rw [zu_row c1, zu_row c2], fun j j0 j1 => by rw [zu_ne (Or.inr j1), zu_row (by omega)]⟩, by rw [zu_ne (by omega), zu_row (by omega)]⟩
  · show l_X9_addFourBytes_3F _ x x2 dc = _
    unfold l_X9_addFourBytes_3F
    rw [if_neg (by omega), zl_n, zl_n, a1, zc_n, zl_n, zw_id (by omega) (by omega), show x2 + -8 = x2 - 8 by omega]
  · show l_X12_puts4_3F _ x x2 ds = _
    unfold l_X12_puts4_3F
    rw [if_neg (by omega), zl_n, zl_n, zl_n, zg_t (by omega), zl_n, zl_n, zu_ne (by omega), zl_n, zw_id (by omega) (by omega), zl_n, zl_n, zw_id (by omega) (by omega), show x2 + -8 = x2 - 8 by omega]
theorem S_four {dc ds : zD} {x : Int} (h : IR dc ds) (hn : ds 400 11 ≤ 596) : ∃ dc1 ds1, f_X9_addFourBytes x dc = some (0, dc1) ∧ f_X12_puts4 x ds = some (0, ds1) ∧ IR dc1 ds1 ∧ ds1 400 11 = ds 400 11 + 4 ∧ Fi dc dc1 ∧ Fj ds ds1 ∧ ds1 400 0 = ds 400 0 := by
  obtain ⟨q, hq⟩ : ∃ q, zF = q + 5 := ⟨zF - 5, by have := zF_big; omega⟩
  obtain ⟨c1, s1, a1, a2, a3, a4, a5, a6, a7⟩ := S_step (x := x) (x2 := 24) h (by omega) (by omega)
  obtain ⟨c2, s2, b1, b2, b3, b4, b5, b6, b7⟩ := S_step (x := x) (x2 := 24 - 8) a3 (by omega) (by omega)
  obtain ⟨c3, s3, e1, e2, e3, e4, e5, e6, e7⟩ := S_step (x := x) (x2 := 24 - 8 - 8) b3 (by omega) (by omega)
  obtain ⟨c4, s4, g1, g2, g3, g4, g5, g6, g7⟩ := S_step (x := x) (x2 := 24 - 8 - 8 - 8) e3 (by omega) (by omega)
  refine ⟨c4, s4, ?_, ?_, g3, by omega, a5.tr (b5.tr (e5.tr g5)), a6.tr (b6.tr (e6.tr g6)), by omega⟩
  · unfold f_X9_addFourBytes
    rw [hq, a1, b1, e1, g1]
    show l_X9_addFourBytes_3F _ x _ c4 = _
    unfold l_X9_addFourBytes_3F
    rw [if_pos (by omega)]
  · unfold f_X12_puts4
    rw [hq, a2, b2, e2, g2]
    show l_X12_puts4_3F _ x _ s4 = _
    unfold l_X12_puts4_3F
    rw [if_pos (by omega)]
theorem IR_0 {dc ds : zD} {t : Int} (h : IR dc ds) : IR dc (zu ds 400 0 t) := by
  unfold IR
  rw [zu_ne (by omega), zu_row (by omega)]
  exact h
theorem G_appendInput (x1 x2 x3 x4 x5 : Int) : GO [] (f_X11_appendInput x1 x2 x3 x4 x5) (f_X12_appendInput x1 x2 x3 x4 x5) := by
  intro dc ds hg hR
  obtain ⟨-, -, -, -, hI, -, -⟩ := id hg
  obtain ⟨i1, i2, i3⟩ := id hI
  have en : zu ds 400 0 0 400 11 = ds 400 11 := zu_ne (by omega)
  by_cases hn : ds 400 11 ≤ 580
  · obtain ⟨c1, s1, a1, a2, a3, a4, a5, a6, a7⟩ := S_four (x := x1) (IR_0 (t := 0) hI) (by omega)
    obtain ⟨c2, s2, b1, b2, b3, b4, b5, b6, b7⟩ := S_four (x := x2) a3 (by omega)
    obtain ⟨c3, s3, e1, e2, e3, e4, e5, e6, e7⟩ := S_four (x := x3) b3 (by omega)
    obtain ⟨c4, s4, g1, g2, g3, g4, g5, g6, g7⟩ := S_four (x := x4) e3 (by omega)
    obtain ⟨c5, s5, k1, k2, k3, k4, k5, k6, k7⟩ := S_four (x := x5) g3 (by omega)
    have hF := a5.tr (b5.tr (e5.tr (g5.tr k5)))
    have hG : Fj ds s5 := Fj.tr ⟨fun c c1 _ => zu_row c1, fun j j0 _ => zu_ne (Or.inr j0)⟩ (a6.tr (b6.tr (e6.tr (g6.tr k6))))
    have e0 : s5 400 0 = 0 := by rw [k7, g7, e7, b7, a7, zu_eq]
    refine ⟨s5 400 11, c5, s5 400 11, s5, ?_, ?_, GR_I hg k3 hF hG, fun c hc => hF.1 c (by omega) (by omega), fun c hc => hG.1 c (by omega) (by omega), ?_⟩
    · unfold f_X11_appendInput
      rw [zl_n, i1, if_pos hn, a1, zc_n, b1, zc_n, e1, zc_n, g1, zc_n, k1, zc_n, zl_n, k3.1]
    · unfold f_X12_appendInput
      rw [zl_n, zl_n, en, if_pos hn, a2, zc_n, b2, zc_n, e2, zc_n, g2, zc_n, k2, zc_n, zl_n]
    · rw [e0]
      exact GX_ok rfl (zR_s (by omega) (by omega))
  · refine GO_q hg (v := -1) (v' := -1) (t := 0) ?_ ?_ (GX_ok rfl (zR_s (by omega) (by omega)))
    · unfold f_X11_appendInput
      rw [zl_n, i1, if_neg hn]
    · unfold f_X12_appendInput
      rw [zl_n, zl_n, en, if_neg hn]
theorem G_truncateInput (x : Int) : GO [] (f_X11_truncateInput x) (f_X12_truncateInput x) := by
  intro dc ds hg hR
  obtain ⟨-, -, -, -, hI, -, -⟩ := id hg
  obtain ⟨i1, i2, i3⟩ := id hI
  have en : zu ds 400 0 0 400 11 = ds 400 11 := zu_ne (by omega)
  by_cases hx : 0 ≤ x ∧ x ≤ ds 400 11
  · refine ⟨1, zu dc 10 1 x, 1, zu (zu ds 400 0 0) 400 11 x, ?_, ?_, GR_I hg ⟨?_, ?_, fun j j0 j1 => ?_⟩ ⟨fun c c1 _ => zu_row c1, fun j hj => zu_ne (Or.inr hj)⟩ ⟨fun c c1 _ => by rw [zu_row c1, zu_row c1], fun j j0 j1 => by rw [zu_ne (Or.inr j1), zu_ne (Or.inr j0)]⟩, Fc.u (by omega), Fm.tr (Fm.u (by omega)) (Fm.u (by omega)), ?_⟩
    · unfold f_X11_truncateInput
      rw [if_neg (by omega), zl_n, i1, if_pos hx.2, zl_n]
    · unfold f_X12_truncateInput
      rw [zl_n, zl_n, en, e_isIn, zc_n, if_pos hx, if_neg (by decide), zl_n]
    · rw [zu_eq, zu_eq]
    · rw [zu_eq]; omega
    · rw [zu_eq] at j1
      rw [zu_row (by omega), zu_row (by omega), zu_row (by omega)]
      exact i3 j j0 (by omega)
    · rw [zu_ne (by omega), zu_eq]
      exact GX_ok rfl (zR_s (by omega) (by omega))
  · refine GO_q hg (v := 0) (v' := 0) (t := 0) ?_ ?_ (GX_ok rfl (zR_s (by omega) (by omega)))
    · unfold f_X11_truncateInput
      by_cases h0 : x < 0
      · rw [if_pos h0]
      · rw [if_neg h0, zl_n, i1, if_neg (by omega)]
    · unfold f_X12_truncateInput
      rw [zl_n, zl_n, en, e_isIn, zc_n, if_neg hx, if_pos rfl]
theorem G_errorCode : GO [] f_X11_errorCode f_X12_errorCode := by
  intro dc ds hg hR
  obtain ⟨-, -, -, -, -, ⟨f1, f2⟩, -⟩ := id hg
  refine GO_q hg (v := dc 10 5) (v' := ds 400 12) (t := 0) rfl ?_ (GX_ok f1 (hR _ _))
  unfold f_X12_errorCode
  rw [zl_n, zl_n, zu_ne (by omega)]
theorem G_errorOffset : GO [] f_X11_errorOffset f_X12_errorOffset := by
  intro dc ds hg hR
  obtain ⟨-, -, -, -, -, ⟨f1, f2⟩, -⟩ := id hg
  refine GO_q hg (v := dc 10 6) (v' := ds 400 13) (t := 0) rfl ?_ (GX_ok f2 (hR _ _))
  unfold f_X12_errorOffset
  rw [zl_n, zl_n, zu_ne (by omega)]
theorem G_outputByte (x : Int) : GO [] (f_X11_outputByte x) (f_X12_outputByte x) := by
  intro dc ds hg hR
  obtain ⟨-, -, -, -, -, -, ⟨g1, g2, g3⟩⟩ := id hg
  have en : zu ds 400 0 0 400 24 = ds 400 24 := zu_ne (by omega)
  by_cases hx : 0 ≤ x ∧ x ≤ ds 400 24 - 1
  · refine GO_q hg (v := dc 25 x.toNat) (v' := ds 408 x.toNat) (t := 0) ?_ ?_ (GX_ok (g3 x hx.1 (by omega)) (hR _ _))
    · unfold f_X11_outputByte
      rw [if_neg (by omega), zl_n, g1, if_pos (by omega), zg_t (by omega), zl_n]
    · unfold f_X12_outputByte
      rw [zl_n, zl_n, en, zl_n, zw_id (by omega) (by omega), e_isIn, zc_n, if_pos hx, if_neg (by decide), zg_t (by omega), zl_n, zu_row (by omega)]
  · refine GO_q hg (v := -1) (v' := -1) (t := 0) ?_ ?_ (GX_ok rfl (zR_s (by omega) (by omega)))
    · unfold f_X11_outputByte
      by_cases h0 : x < 0
      · rw [if_pos h0]
      · rw [if_neg h0, zl_n, g1, if_neg (by omega)]
    · unfold f_X12_outputByte
      rw [zl_n, zl_n, en, zl_n, zw_id (by omega) (by omega), e_isIn, zc_n, if_neg hx, if_pos rfl]
