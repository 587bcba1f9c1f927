/-! Numbers, blanks and the whole step from token to token. -/
section T2
variable {B : Int → Int} {n : Int}
/-- one digit more, in the reference -/
theorem T_n1 {dc ds : zD} {t p : Int} (h : TI B n dc ds) (hp : ds 400 15 = p) (ht : ds 400 14 = t) (h0 : 0 ≤ t ∧ t ≤ p ∧ p < n) (hl : 48 ≤ B p ∧ B p ≤ 57) (hls : ∀ i, t ≤ i → i < p → 48 ≤ B i ∧ B i ≤ 57) (hw : p - t ≤ 4 → ds 400 17 = nvl B t (p - t).toNat) : ∃ ds1, (∀ q, l_X12_scans_179 (q + 1) ds = l_X12_scans_179 q ds1) ∧ FS ds ds1 ∧ ds1 400 14 = t ∧ ds1 400 15 = p + 1 ∧ (p + 1 - t ≤ 4 → ds1 400 17 = nvl B t (p + 1 - t).toNat) := by
  have h600 := h.1
  by_cases h6 : p - t < 4
  · have hk := nvl_b (B := B) (p - t).toNat t fun i i0 i1 => hls i i0 (by omega)
    have hk2 := p10' (p - t).toNat (by omega)
    have ew := hw (by omega)
    refine ⟨zu (zu ds 400 17 (10 * ds 400 17 + B p - 48)) 400 15 (p + 1), fun q => ?_, (FS.u (by omega)).tr (FS.u (by omega)), by rw [zu_ne (by omega), zu_ne (by omega)]; exact ht, zu_eq, fun _ => ?_⟩
    · show l_X12_scans_179F _ ds = _
      unfold l_X12_scans_179F j_X12_scans_233
      rw [zl_n, hp, e_bt h (by omega), zc_n, e_isIn, zc_n, if_pos hl, if_neg (show ¬ (1 : Int) = 0 by decide), zl_n, hp, zl_n, ht, zl_n, zw_id (x := p - t) (by omega) (by omega), if_neg (by omega), zl_n, zl_n, zw_id (x := 10 * ds 400 17) (by omega) (by omega), zl_n, e_bt h (by omega), zc_n, zl_n, zw_id (x := 10 * ds 400 17 + B p) (by omega) (by omega), zl_n, zw_id (by omega) (by omega), zl_n, zl_n, zu_ne (by omega), hp, zl_n, zw_id (by omega) (by omega), zl_n]
    · rw [zu_ne (by omega), zu_eq, show (p + 1 - t).toNat = (p - t).toNat + 1 by omega, ew]
      show _ = 10 * nvl B t (p - t).toNat + (B (t + ((p - t).toNat : Int)) - 48)
      rw [show t + ((p - t).toNat : Int) = p by omega]
      omega
  · refine ⟨zu ds 400 15 (p + 1), fun q => ?_, FS.u (by omega), by rw [zu_ne (by omega)]; exact ht, zu_eq, fun q => absurd q (by omega)⟩
    show l_X12_scans_179F _ ds = _
    unfold l_X12_scans_179F j_X12_scans_233
    rw [zl_n, hp, e_bt h (by omega), zc_n, e_isIn, zc_n, if_pos hl, if_neg (show ¬ (1 : Int) = 0 by decide), zl_n, hp, zl_n, ht, zl_n, zw_id (x := p - t) (by omega) (by omega), if_pos (by omega), zl_n, zl_n, zw_id (by omega) (by omega), zl_n]
/-- the end of a number -/
theorem T_nend {dc ds : zD} {t p : Int} {r : zD → Option (Int × zD)} (h : TI B n dc ds) (hk : TKp dc ds t p) (hp : 0 ≤ t ∧ t < p ∧ p ≤ n) (hl : ∀ i, t ≤ i → i < p → 48 ≤ B i ∧ B i ≤ 57) (hw : p - t ≤ 4 → ds 400 17 = nvl B t (p - t).toNat) (hb : ¬ (48 ≤ B p ∧ B p ≤ 57)) : ∃ dc1 ds1, j_X9_advance_230 dc = some (0, dc1) ∧ l_X12_scans_179F r ds = some (0, ds1) ∧ TZ B n dc1 ds1 ∧ FT dc dc1 ∧ FS ds ds1 := by
  obtain ⟨k1, k2, k3, k4⟩ := id hk
  have h600 := h.1
  by_cases h4 : p - t ≤ 4
  · refine ⟨zu dc 10 2 1, zu ds 400 16 2, ?_, ?_, ⟨h.f (FT.u (by omega)) (FS.u (by omega)), t, p, ⟨by rw [zu_ne (by omega)]; exact k1, by rw [zu_ne (by omega)]; exact k2, by rw [zu_ne (by omega)]; exact k3, by rw [zu_ne (by omega)]; exact k4⟩, Or.inr (Or.inl ⟨zu_eq, zu_eq, by omega, h4, hl, by rw [zu_ne (by omega)]; exact hw h4⟩), by omega, by omega, by omega⟩, FT.u (by omega), FS.u (by omega)⟩
    · unfold j_X9_advance_230
      rw [zl_n, k3, zl_n, k1, zl_n, zw_id (by omega) (by omega), if_pos h4, zl_n]
    · unfold l_X12_scans_179F
      rw [zl_n, k4, e_bt h (by omega), zc_n, e_isIn, zc_n, if_neg hb, if_pos (show (0 : Int) = 0 from rfl), zl_n, k4, zl_n, k2, zl_n, zw_id (x := p - t) (by omega) (by omega), if_pos h4, zl_n]
  · refine ⟨zu dc 10 2 4, zu ds 400 16 4, ?_, ?_, ⟨h.f (FT.u (by omega)) (FS.u (by omega)), t, p, ⟨by rw [zu_ne (by omega)]; exact k1, by rw [zu_ne (by omega)]; exact k2, by rw [zu_ne (by omega)]; exact k3, by rw [zu_ne (by omega)]; exact k4⟩, Or.inr (Or.inr (Or.inr (Or.inr ⟨zu_eq, zu_eq, by omega⟩))), by omega, by omega, by omega⟩, FT.u (by omega), FS.u (by omega)⟩
    · unfold j_X9_advance_230
      rw [zl_n, k3, zl_n, k1, zl_n, zw_id (by omega) (by omega), if_neg h4, zl_n]
    · unfold l_X12_scans_179F
      rw [zl_n, k4, e_bt h (by omega), zc_n, e_isIn, zc_n, if_neg hb, if_pos (show (0 : Int) = 0 from rfl), zl_n, k4, zl_n, k2, zl_n, zw_id (x := p - t) (by omega) (by omega), if_neg h4, zl_n]
theorem T_num : ∀ (k q q' : Nat) {dc ds : zD} {t p : Int}, TI B n dc ds → TKp dc ds t p → (0 ≤ t ∧ t < p ∧ p ≤ n) → p + k = n → (∀ i, t ≤ i → i < p → 48 ≤ B i ∧ B i ≤ 57) → (p - t ≤ 4 → ds 400 17 = nvl B t (p - t).toNat) → k < q → k < q' → ∃ dc1 ds1, l_X9_advance_178 q dc = some (0, dc1) ∧ l_X12_scans_179 q' ds = some (0, ds1) ∧ TZ B n dc1 ds1 ∧ FT dc dc1 ∧ FS ds ds1 := by
  intro k
  induction k with
  | zero =>
    intro q q' dc ds t p h hk hp hn hl hw hq hq'
    obtain ⟨k1, k2, k3, k4⟩ := id hk
    obtain ⟨h1, n1, n2, h4, h5⟩ := id h
    obtain ⟨q, rfl⟩ : ∃ q0, q = q0 + 1 := ⟨q - 1, by omega⟩
    obtain ⟨q', rfl⟩ : ∃ q0, q' = q0 + 1 := ⟨q' - 1, by omega⟩
    have hb := h5 p (by omega)
    obtain ⟨dc1, ds1, a1, a2, a3, a4, a5⟩ := T_nend (r := l_X12_scans_179 q') h hk hp hl hw (by omega)
    refine ⟨dc1, ds1, ?_, a2, a3, a4, a5⟩
    show l_X9_advance_178F _ dc = _
    unfold l_X9_advance_178F
    rw [zl_n, k3, zl_n, n1, if_pos (by omega), a1]
  | succ k ih =>
    intro q q' dc ds t p h hk hp hn hl hw hq hq'
    obtain ⟨k1, k2, k3, k4⟩ := id hk
    obtain ⟨h1, n1, n2, h4, h5⟩ := id h
    obtain ⟨q, rfl⟩ : ∃ q0, q = q0 + 1 := ⟨q - 1, by omega⟩
    obtain ⟨q', rfl⟩ : ∃ q0, q' = q0 + 1 := ⟨q' - 1, by omega⟩
    have hb := h4 p (by omega) (by omega)
    by_cases hL : 48 ≤ B p ∧ B p ≤ 57
    · obtain ⟨ds1, r1, r2, r3, r4, r5⟩ := T_n1 h k4 k2 (by omega) hL hl hw
      have f1 : FT dc (zu dc 10 4 (p + 1)) := FT.u (by omega)
      obtain ⟨dc2, ds2, a1, a2, a3, a4, a5⟩ := ih q q' (t := t) (p := p + 1) (h.f f1 r2) ⟨by rw [zu_ne (by omega)]; exact k1, r3, zu_eq, r4⟩ (by omega) (by omega) (fun i i0 i1 => by
        by_cases e : i = p
        · rw [e]; exact hL
        · exact hl i i0 (by omega)) r5 (by omega) (by omega)
      refine ⟨dc2, ds2, ?_, by rw [r1]; exact a2, a3, f1.tr a4, r2.tr a5⟩
      show l_X9_advance_178F _ dc = _
      unfold l_X9_advance_178F
      rw [zl_n, k3, zl_n, n1, if_neg (by omega), zl_n, zg_t (by omega), zl_n, hb.1, if_neg (by omega), zl_n, zg_t (by omega), zl_n, hb.1, if_neg (by omega), zl_n, zl_n, zw_id (by omega) (by omega), zl_n]
      exact a1
    · obtain ⟨dc1, ds1, a1, a2, a3, a4, a5⟩ := T_nend (r := l_X12_scans_179 q') h hk hp hl hw hL
      refine ⟨dc1, ds1, ?_, a2, a3, a4, a5⟩
      show l_X9_advance_178F _ dc = _
      unfold l_X9_advance_178F
      rw [zl_n, k3, zl_n, n1, if_neg (by omega), zl_n, zg_t (by omega), zl_n, hb.1]
      by_cases h97 : B p < 48
      · rw [if_pos h97, a1]
      · rw [if_neg h97, zl_n, zg_t (by omega), zl_n, hb.1, if_pos (by omega), a1]
/-- the reference, past the blanks -/
def scR (d : zD) : Option (Int × zD) :=
  zl (d 400 15) fun v41 =>
  zl (zu d 400 14 v41) fun d =>
  zl (zu d 400 17 0) fun d =>
  zl (zu d 400 18 0) fun d =>
  zl (d 400 14) fun v59 =>
  zc (f_X12_byteAt v59 d) fun v62 d =>
  if v62 = (-1) then (zl (zu d 400 16 0) fun d => some (0, d))
  else (
    zc (f_X12_isIn v62 97 122 d) fun v84 d =>
    if v84 = 0 then (
      zc (f_X12_isIn v62 48 57 d) fun v173 d =>
      if v173 = 0 then (if v62 = 59 then j_X12_scans_283 3 d else j_X12_scans_283 4 d)
      else l_X12_scans_179 zF d)
    else l_X12_scans_90 zF d)
theorem T_skip : ∀ (k q q' : Nat) {dc ds : zD} {p : Int}, TI B n dc ds → dc 10 4 = p → ds 400 15 = p → (0 ≤ p ∧ p ≤ n) → p + k = n → k < q → k < q' → ∃ dc1 ds1 p1, (p ≤ p1 ∧ p1 ≤ n) ∧ dc1 10 4 = p1 ∧ ds1 400 15 = p1 ∧ B p1 ≠ 32 ∧ B p1 ≠ 10 ∧ l_X9_advance_0 q dc = j_X9_advance_52 dc1 ∧ l_X12_scans_0 q' ds = scR ds1 ∧ FT dc dc1 ∧ FS ds ds1 := by
  intro k
  induction k with
  | zero =>
    intro q q' dc ds p h k3 k4 hp hn hq hq'
    obtain ⟨h1, n1, n2, h4, h5⟩ := id h
    obtain ⟨q, rfl⟩ : ∃ q0, q = q0 + 1 := ⟨q - 1, by omega⟩
    obtain ⟨q', rfl⟩ : ∃ q0, q' = q0 + 1 := ⟨q' - 1, by omega⟩
    have hb := h5 p (by omega)
    refine ⟨dc, ds, p, by omega, k3, k4, by omega, by omega, ?_, ?_, FT.rf, FS.rf⟩
    · show l_X9_advance_0F _ dc = _
      unfold l_X9_advance_0F
      rw [zl_n, k3, zl_n, n1, if_pos (by omega)]
    · show l_X12_scans_0F _ ds = _
      unfold l_X12_scans_0F scR
      rw [zl_n, k4, e_bt h (by omega), zc_n, if_neg (by omega), zl_n, k4, e_bt h (by omega), zc_n, if_neg (by omega), k4]
  | succ k ih =>
    intro q q' dc ds p h k3 k4 hp hn hq hq'
    obtain ⟨h1, n1, n2, h4, h5⟩ := id h
    obtain ⟨q, rfl⟩ : ∃ q0, q = q0 + 1 := ⟨q - 1, by omega⟩
    obtain ⟨q', rfl⟩ : ∃ q0, q' = q0 + 1 := ⟨q' - 1, by omega⟩
    have hb := h4 p (by omega) (by omega)
    by_cases hL : B p = 32 ∨ B p = 10
    · have f1 : FT dc (zu dc 10 4 (p + 1)) := FT.u (by omega)
      have r2 : FS ds (zu ds 400 15 (p + 1)) := FS.u (by omega)
      obtain ⟨dc2, ds2, p1, a1, a2, a3, a4, a5, a6, a7, a8, a9⟩ := ih q q' (h.f f1 r2) zu_eq zu_eq (by omega) (by omega) (by omega) (by omega)
      refine ⟨dc2, ds2, p1, by omega, a2, a3, a4, a5, ?_, ?_, f1.tr a8, r2.tr a9⟩
      · have hj : j_X9_advance_39 (l_X9_advance_0 q) dc = j_X9_advance_52 dc2 := by
          unfold j_X9_advance_39
          rw [zl_n, k3, zl_n, zw_id (by omega) (by omega), zl_n]
          exact a6
        show l_X9_advance_0F _ dc = _
        unfold l_X9_advance_0F
        rw [zl_n, k3, zl_n, n1, if_neg (by omega), zl_n, zg_t (by omega), zl_n, hb.1]
        by_cases h97 : B p = 32
        · rw [if_pos h97, hj]
        · rw [if_neg h97, zl_n, zg_t (by omega), zl_n, hb.1, if_pos (by omega), hj]
      · have hj : j_X12_scans_26 (l_X12_scans_0 q') ds = scR ds2 := by
          unfold j_X12_scans_26
          rw [zl_n, k4, zl_n, zw_id (by omega) (by omega), zl_n]
          exact a7
        show l_X12_scans_0F _ ds = _
        unfold l_X12_scans_0F
        rw [zl_n, k4, e_bt h (by omega), zc_n]
        by_cases h97 : B p = 32
        · rw [if_pos h97, hj]
        · rw [if_neg h97, zl_n, k4, e_bt h (by omega), zc_n, if_pos (by omega), hj]
    · refine ⟨dc, ds, p, by omega, k3, k4, by omega, by omega, ?_, ?_, FT.rf, FS.rf⟩
      · show l_X9_advance_0F _ dc = _
        unfold l_X9_advance_0F
        rw [zl_n, k3, zl_n, n1, if_neg (by omega), zl_n, zg_t (by omega), zl_n, hb.1, if_neg (by omega), zl_n, zg_t (by omega), zl_n, hb.1, if_neg (by omega)]
      · show l_X12_scans_0F _ ds = _
        unfold l_X12_scans_0F scR
        rw [zl_n, k4, e_bt h (by omega), zc_n, if_neg (by omega), zl_n, k4, e_bt h (by omega), zc_n, if_neg (by omega), k4]
theorem T_adv {dc ds : zD} {p : Int} (h : TI B n dc ds) (k3 : dc 10 4 = p) (k4 : ds 400 15 = p) (hp : 0 ≤ p ∧ p ≤ n) : ∃ dc1 ds1, f_X9_advance dc = some (0, dc1) ∧ f_X12_scans ds = some (0, ds1) ∧ TZ B n dc1 ds1 ∧ FT dc dc1 ∧ FS ds ds1 := by
  have hF := zF_big
  have h600 := h.1
  obtain ⟨dc0, ds0, t, b1, b2, b3, b4, b5, b6, b7, b8, b9⟩ := T_skip (n - p).toNat zF zF h k3 k4 hp (by omega) (by omega) (by omega)
  have h0 := h.f b8 b9
  have g1 : FT dc0 (zu dc0 10 3 t) := FT.u (by omega)
  have g2 : FS ds0 (zu (zu (zu ds0 400 14 t) 400 17 0) 400 18 0) := ((FS.u (by omega)).tr (FS.u (by omega))).tr (FS.u (by omega))
  have h1 := h0.f g1 g2
  obtain ⟨-, n1, n2, h4, h5⟩ := id h1
  have e3 : zu dc0 10 3 t 10 4 = t := by rw [zu_ne (by omega)]; exact b2
  have s15 : zu (zu (zu ds0 400 14 t) 400 17 0) 400 18 0 400 15 = t := by rw [zu_ne (by omega), zu_ne (by omega), zu_ne (by omega)]; exact b3
  have s14 : zu (zu (zu ds0 400 14 t) 400 17 0) 400 18 0 400 14 = t := by rw [zu_ne (by omega), zu_ne (by omega), zu_eq]
  have s17 : zu (zu (zu ds0 400 14 t) 400 17 0) 400 18 0 400 17 = 0 := by rw [zu_ne (by omega), zu_eq]
  have s18 : zu (zu (zu ds0 400 14 t) 400 17 0) 400 18 0 400 18 = 0 := zu_eq
  have ecl : f_X9_advance dc = j_X9_advance_52 dc0 := b6
  have emod : f_X12_scans ds = scR ds0 := b7
  suffices hs : ∃ dc1 ds1, j_X9_advance_52 dc0 = some (0, dc1) ∧ scR ds0 = some (0, ds1) ∧ TZ B n dc1 ds1 ∧ FT (zu dc0 10 3 t) dc1 ∧ FS (zu (zu (zu ds0 400 14 t) 400 17 0) 400 18 0) ds1 by
    obtain ⟨dc1, ds1, z1, z2, z3, z4, z5⟩ := hs
    exact ⟨dc1, ds1, by rw [ecl, z1], by rw [emod, z2], z3, b8.tr (g1.tr z4), b9.tr (g2.tr z5)⟩
  have cR : ∀ {x : Option (Int × zD)}, (if B t = (-1) then some (0, zu (zu (zu (zu ds0 400 14 t) 400 17 0) 400 18 0) 400 16 0) else if 97 ≤ B t ∧ B t ≤ 122 then l_X12_scans_90 zF (zu (zu (zu ds0 400 14 t) 400 17 0) 400 18 0) else if 48 ≤ B t ∧ B t ≤ 57 then l_X12_scans_179 zF (zu (zu (zu ds0 400 14 t) 400 17 0) 400 18 0) else if B t = 59 then j_X12_scans_283 3 (zu (zu (zu ds0 400 14 t) 400 17 0) 400 18 0) else j_X12_scans_283 4 (zu (zu (zu ds0 400 14 t) 400 17 0) 400 18 0)) = x → scR ds0 = x := fun {x} hx => by
    unfold scR
    rw [zl_n, b3, zl_n, zl_n, zl_n, zl_n, s14, e_bt h1 (by omega), zc_n, zl_n, e_isIn, zc_n, ← hx]
    by_cases x1 : B t = -1
    · rw [if_pos x1, if_pos x1]
    · rw [if_neg x1, if_neg x1]
      by_cases x2 : 97 ≤ B t ∧ B t ≤ 122
      · rw [if_pos x2, if_pos x2, if_neg (show ¬ (1 : Int) = 0 by decide)]
      · rw [if_neg x2, if_neg x2, if_pos (show (0 : Int) = 0 from rfl), e_isIn, zc_n]
        by_cases x3 : 48 ≤ B t ∧ B t ≤ 57
        · rw [if_pos x3, if_pos x3, if_neg (show ¬ (1 : Int) = 0 by decide)]
        · rw [if_neg x3, if_neg x3, if_pos (show (0 : Int) = 0 from rfl)]
  by_cases hn : t < n
  · have hb := h4 t (by omega) hn
    have g3 : FT (zu dc0 10 3 t) (zu (zu dc0 10 3 t) 10 4 (t + 1)) := FT.u (by omega)
    have cC : j_X9_advance_52 dc0 = if 97 ≤ B t ∧ B t ≤ 122 then l_X9_advance_114 zF (zu (zu (zu dc0 10 3 t) 10 4 (t + 1)) 10 2 0) else j_X9_advance_166 (B t) (zu (zu dc0 10 3 t) 10 4 (t + 1)) := by
      unfold j_X9_advance_52
      rw [zl_n, b2, zl_n, zl_n, e3, zl_n, n1, if_pos hn, zl_n, zg_t (by omega), zl_n, hb.1, zl_n, zl_n, zw_id (by omega) (by omega), zl_n, zl_n]
      by_cases x1 : B t < 97
      · rw [if_pos x1, if_neg (by omega)]
      · rw [if_neg x1]
        by_cases x2 : 122 < B t
        · rw [if_pos x2, if_neg (by omega)]
        · rw [if_neg x2, if_pos (by omega)]
    by_cases hw : 97 ≤ B t ∧ B t ≤ 122
    · have g4 : FT (zu dc0 10 3 t) (zu (zu (zu dc0 10 3 t) 10 4 (t + 1)) 10 2 0) := g3.tr (FT.u (by omega))
      obtain ⟨ds1, r1, r2, r3, r4, r5⟩ := T_w1 (t := t) (p := t) h1 s15 s14 (by omega) hw (fun i i0 i1 => absurd i1 (by omega)) (fun _ => by rw [s18, show (t - t).toNat = 0 by omega]; rfl)
      obtain ⟨q, hq⟩ : ∃ q, zF = q + 1 := ⟨zF - 1, by omega⟩
      obtain ⟨dc2, ds2, a1, a2, a3, a4, a5⟩ := T_word (n - (t + 1)).toNat zF q (t := t) (p := t + 1) (h1.f g4 r2) ⟨by rw [zu_ne (by omega), zu_ne (by omega), zu_eq], r3, by rw [zu_ne (by omega), zu_eq], r4⟩ zu_eq (by omega) (by omega) (fun i i0 i1 => by rw [show i = t by omega]; exact hw) r5 (by omega) (by omega)
      refine ⟨dc2, ds2, by rw [cC, if_pos hw]; exact a1, cR ?_, a3, g4.tr a4, r2.tr a5⟩
      rw [if_neg (by omega), if_pos hw]
      have := r1 q
      rw [← hq] at this
      rw [this, a2]
    · by_cases hd : 48 ≤ B t ∧ B t ≤ 57
      · obtain ⟨ds1, r1, r2, r3, r4, r5⟩ := T_n1 (t := t) (p := t) h1 s15 s14 (by omega) hd (fun i i0 i1 => absurd i1 (by omega)) (fun _ => by rw [s17, show (t - t).toNat = 0 by omega]; rfl)
        obtain ⟨q, hq⟩ : ∃ q, zF = q + 1 := ⟨zF - 1, by omega⟩
        obtain ⟨dc2, ds2, a1, a2, a3, a4, a5⟩ := T_num (n - (t + 1)).toNat zF q (t := t) (p := t + 1) (h1.f g3 r2) ⟨by rw [zu_ne (by omega), zu_eq], r3, zu_eq, r4⟩ (by omega) (by omega) (fun i i0 i1 => by rw [show i = t by omega]; exact hd) r5 (by omega) (by omega)
        refine ⟨dc2, ds2, ?_, cR ?_, a3, g3.tr a4, r2.tr a5⟩
        · rw [cC, if_neg hw]
          unfold j_X9_advance_166
          rw [if_neg (by omega), if_neg (by omega)]
          exact a1
        · rw [if_neg (by omega), if_neg hw, if_pos hd]
          have := r1 q
          rw [← hq] at this
          rw [this, a2]
      · have c255 : j_X9_advance_52 dc0 = j_X9_advance_255 (B t) (zu (zu dc0 10 3 t) 10 4 (t + 1)) := by
          rw [cC, if_neg hw]
          unfold j_X9_advance_166
          by_cases x1 : B t < 48
          · rw [if_pos x1]
          · rw [if_neg x1, if_pos (by omega)]
        have r283 : ∀ s0 : Int, j_X12_scans_283 s0 (zu (zu (zu ds0 400 14 t) 400 17 0) 400 18 0) = some (0, zu (zu (zu (zu (zu ds0 400 14 t) 400 17 0) 400 18 0) 400 16 s0) 400 15 (t + 1)) := fun s0 => by
          unfold j_X12_scans_283
          rw [zl_n, zl_n, zu_ne (by omega), s15, zl_n, zw_id (by omega) (by omega), zl_n]
        have fS : ∀ s0 : Int, FS (zu (zu (zu ds0 400 14 t) 400 17 0) 400 18 0) (zu (zu (zu (zu (zu ds0 400 14 t) 400 17 0) 400 18 0) 400 16 s0) 400 15 (t + 1)) := fun s0 => (FS.u (by omega)).tr (FS.u (by omega))
        have fC : ∀ s0 : Int, FT (zu dc0 10 3 t) (zu (zu (zu dc0 10 3 t) 10 4 (t + 1)) 10 2 s0) := fun s0 => g3.tr (FT.u (by omega))
        have kp : ∀ s0 s1 : Int, TKp (zu (zu (zu dc0 10 3 t) 10 4 (t + 1)) 10 2 s0) (zu (zu (zu (zu (zu ds0 400 14 t) 400 17 0) 400 18 0) 400 16 s1) 400 15 (t + 1)) t (t + 1) := fun s0 s1 => ⟨by rw [zu_ne (by omega), zu_ne (by omega), zu_eq], by rw [zu_ne (by omega), zu_ne (by omega)]; exact s14, by rw [zu_ne (by omega), zu_eq], zu_eq⟩
        by_cases h59 : B t = 59
        · refine ⟨zu (zu (zu dc0 10 3 t) 10 4 (t + 1)) 10 2 2, _, ?_, cR (by rw [if_neg (by omega), if_neg hw, if_neg hd, if_pos h59]; exact r283 3), ⟨h1.f (fC 2) (fS 3), t, t + 1, kp 2 3, Or.inr (Or.inr (Or.inl ⟨zu_eq, by rw [zu_ne (by omega), zu_eq], by omega⟩)), by omega, by omega, by omega⟩, fC 2, fS 3⟩
          rw [c255]
          unfold j_X9_advance_255
          rw [if_pos h59, zl_n]
        · refine ⟨zu (zu (zu dc0 10 3 t) 10 4 (t + 1)) 10 2 4, _, ?_, cR (by rw [if_neg (by omega), if_neg hw, if_neg hd, if_neg h59]; exact r283 4), ⟨h1.f (fC 4) (fS 4), t, t + 1, kp 4 4, Or.inr (Or.inr (Or.inr (Or.inr ⟨zu_eq, by rw [zu_ne (by omega), zu_eq], by omega⟩))), by omega, by omega, by omega⟩, fC 4, fS 4⟩
          rw [c255]
          unfold j_X9_advance_255
          rw [if_neg h59, zl_n]
  · have hb := h5 t (by omega)
    have g3 : FT (zu dc0 10 3 t) (zu (zu dc0 10 3 t) 10 2 3) := FT.u (by omega)
    have r3 : FS (zu (zu (zu ds0 400 14 t) 400 17 0) 400 18 0) (zu (zu (zu (zu ds0 400 14 t) 400 17 0) 400 18 0) 400 16 0) := FS.u (by omega)
    refine ⟨zu (zu dc0 10 3 t) 10 2 3, zu (zu (zu (zu ds0 400 14 t) 400 17 0) 400 18 0) 400 16 0, ?_, cR (by rw [if_pos hb]), ⟨h1.f g3 r3, t, t, ⟨by rw [zu_ne (by omega), zu_eq], by rw [zu_ne (by omega)]; exact s14, by rw [zu_ne (by omega)]; exact e3, by rw [zu_ne (by omega)]; exact s15⟩, Or.inr (Or.inr (Or.inr (Or.inl ⟨zu_eq, zu_eq, by omega, by omega⟩))), by omega, by omega, by omega⟩, g3, r3⟩
    unfold j_X9_advance_52
    rw [zl_n, b2, zl_n, zl_n, e3, zl_n, n1, if_neg hn, zl_n]
end T2
