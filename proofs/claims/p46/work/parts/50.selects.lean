/-! A try of a select. -/
section SELECTS
variable {K L : Int → Int → List Int} {D : Int → List Int} {d : zD} {b : Nat} {N : Int}
theorem us_same {s : Nat → Int} {i : Nat} {v : Int} (h : s i = v) : us s i v = s := by
  funext j
  unfold us
  split
  · rename_i e
    rw [e, h]
  · rfl
theorem rT_k {s : Nat → Int} {x w : Int} (hx : 0 ≤ x ∧ x < 8) (hw : 0 ≤ w ∧ w < 16) : rT s x w = s (50 + 16 * x + w).toNat := if_pos ⟨hx, hw⟩
theorem R_come {ds : zD} {x m : Int} {l : List Int} (h : RC K L D d b (ds 401) N) (hz : RZ L (ds 401 0) (ds 401 3) (rT (ds 401))) (hx : 0 ≤ x ∧ x < ds 401 0) (hl : L 1 x = m :: l) (hbt : rT (ds 401) x 8 = rT (ds 401) x 7) (hDx : D x = []) (hN : N ≤ 999999900) (hroom : ((L 2 x).length : Int) < rT (ds 401) x 1) (hln : rM (ds 401) m 5 + rM (ds 401) m 2 ≤ ds 401 3) : ∃ d' ds' K' L' D', f_X2_takeAtTerminal b x m d = some (0, d') ∧ f_X12_comesIntoBuffer m x ds = some (0, ds') ∧ RC K' L' D' d' b (ds' 401) (N + 1) ∧ RZ L' (ds' 401 0) (ds' 401 3) (rT (ds' 401)) ∧ Fr b d d' ∧ Fs ds ds' ∧ Fq (ds 401) (ds' 401) ∧ L' 1 x = m :: l ∧ rT (ds' 401) x 8 ≠ rT (ds' 401) x 7 ∧ ds' 401 3 = ds 401 3 := by
  obtain ⟨⟨i1, i2⟩, -, i4, i5, -⟩ := RC_i h
  have hm := RC_in1 h (r := 1) (Or.inl rfl) hx (by rw [hl]; exact List.mem_cons_self)
  have hm40 : 0 ≤ m ∧ m < 40 := by omega
  have hx8 : 0 ≤ x ∧ x < 8 := by omega
  have hq46 := RC_q h
  have hh := h
  obtain ⟨hS, hA, hQ, hM, hD, hK, hL, hKL, hP, hG, hI, hIL, hIT, hIM, hU, hb⟩ := hh
  have q20 := (hQ x hx.1 hx.2).2.2.2.2.1
  have hit := hIT x hx.1 hx.2
  have himm := hIM m hm.1.1 hm.1.2
  have s9 : d b 9 = ds 401 3 := hS.2.1
  have f3 : rM (ds 401) m 3 = 1 := ((hP.1 x hx.1 hx.2).2.2.1 m l hl).2 hbt
  have f10 : rM (ds 401) m 10 = 0 := himm.2.2.2.2.2.2.2 f3
  have hK2 : K 2 x = L 2 x := by rw [(hKL x).2.2, hDx]; rfl
  have hFx : rT (ds 401) x 10 = d (b + 23) x.toNat := by
    have := hD x hx.1 hx.2
    rw [hDx] at this
    exact this
  have hmr : m ∉ K 2 x := fun hq1 => by
    rw [hK2] at hq1
    have := (RC_in1 h (r := 2) (Or.inr rfl) hx hq1).2.2
    rw [if_neg (by omega), f10] at this
    omega
  generalize hv : 1 - rT (ds 401) x 7 = v
  generalize hf : (if L 2 x = [] then ds 401 3 else rT (ds 401) x 10) = f
  have hKd : KR K (zu (zu (zu (zu d (b + 20) x.toNat v) (b + 23) x.toNat f) (b + 8) m.toNat (ds 401 3)) (b + 5) m.toNat 2) b (ds 401 2) (rM (ds 401)) := KR_d hK fun c _ _ => by rw [zu_row (by omega), zu_row (by omega), zu_row (by omega), zu_row (by omega)]
  obtain ⟨d1, r1, r2, r3⟩ := KR_append hKd (r := 2) (x := x) (m := m) (by omega) i4 hm.1 (by unfold own; rw [if_neg (by omega)]; exact hm.2.1) hmr
  have hrc := RC_come h hx hl hbt hv.symm rfl (by omega) hDx hf.symm (hz x hx.1 hx.2) hroom hln rfl r2 r3
  have hzq : zw (ds 401 46 + 1) = ds 401 46 + 1 := zw_id (by omega) (by omega)
  have hlen : ((L 2 x).length : Int) = 0 ↔ L 2 x = [] := by
    constructor
    · intro q
      exact List.length_eq_zero_iff.mp (by omega)
    · intro q
      rw [q]
      rfl
  have ecl : f_X2_takeAtTerminal b x m d = some (0, d1) := by
    have hj : j_X2_takeAtTerminal_38 b x m (zu (zu d (b + 20) x.toNat v) (b + 23) x.toNat f) = some (0, d1) := by
      unfold j_X2_takeAtTerminal_38
      rw [zl_n, zg_t (by omega), zl_n, zg_t (by omega), zl_n, zu_o (by omega), zu_o (by omega), s9, r1, zc_n]
    unfold f_X2_takeAtTerminal
    rw [zg_t (by omega), zl_n, zl_n, zg_t (by omega), zl_n, q20, zxor1 hit.2.2.2.2.2.2.1, hv, KR_size (KR_d (d' := zu d (b + 20) x.toNat v) hK fun c _ _ => zu_row (by omega)) (by omega), zc_n, hK2]
    by_cases hl0 : L 2 x = []
    · rw [if_pos (hlen.mpr hl0), zl_n, zg_t (by omega), zl_n, zu_o (by omega), s9]
      rw [if_pos hl0] at hf
      rw [hf]
      exact hj
    · rw [if_neg (fun q => hl0 (hlen.mp q))]
      rw [if_neg hl0] at hf
      have e : zu (zu d (b + 20) x.toNat v) (b + 23) x.toNat f = zu d (b + 20) x.toNat v := zu_same (by rw [zu_o (by omega), ← hFx, hf])
      rw [e] at hj
      exact hj
  -- the reference, ahead of its settling
  have hs2 : (tD (mD (zu (mD (mD (tD ds x 10 f) m 6 (ds 401 3)) m 3 2) 401 46 (ds 401 46 + 1)) m 10 (ds 401 46 + 1)) x 7 v) 401 = uT (uM (us (uM (uM (uT (ds 401) x 10 f) m 6 (ds 401 3)) m 3 2) 46 (ds 401 46 + 1)) m 10 (ds 401 46 + 1)) x 7 v := by
    rw [tD_s, mD_s, zu_r, mD_s, mD_s, tD_s]
  rw [← hs2] at hrc
  generalize hds2 : tD (mD (zu (mD (mD (tD ds x 10 f) m 6 (ds 401 3)) m 3 2) 401 46 (ds 401 46 + 1)) m 10 (ds 401 46 + 1)) x 7 v = s2 at hrc hs2
  have hk2 : ∀ k, k < 50 → k ≠ 46 → s2 401 k = ds 401 k := fun k hk h46 => by
    rw [hs2, uT_k hx8 (by omega) (by omega), uM_k hm40 (by omega) (by omega), us_ne h46, uM_k hm40 (by omega) (by omega), uM_k hm40 (by omega) (by omega), uT_k hx8 (by omega) (by omega)]
  have hT2 : rT (s2 401) = up2 (up2 (rT (ds 401)) x 10 f) x 7 v := by rw [hs2, rT_u hx8 (by omega), rT_uM hm40 (by omega), rT_f (by omega), rT_uM hm40 (by omega), rT_uM hm40 (by omega), rT_u hx8 (by omega)]
  have hx2 : 0 ≤ x ∧ x < s2 401 0 := by rw [hk2 0 (by omega) (by omega)]; exact hx
  obtain ⟨s3, L3, D3, g1, g2, g3, g4, g5, g6, g7, g8, g9⟩ := R_settles hrc hx2
  have e78 : rT (s3 401) x 8 = rT (ds 401) x 8 ∧ rT (s3 401) x 7 = v := by
    rw [g4 x 8 (by omega), g4 x 7 (by omega), hT2, up2_eq, up2_ne (by omega), up2_ne (by omega)]
    exact ⟨rfl, rfl⟩
  refine ⟨d1, s3, _, L3, D3, ecl, ?_, g2, ?_, ?_, ?_, ?_, ?_, ?_, ?_⟩
  · have hj : j_X12_comesIntoBuffer_22 m x (tD ds x 10 f) = some (0, s3) := by
      unfold j_X12_comesIntoBuffer_22
      rw [zg_t (by omega), zl_n]
      show zc (f_X12_tells m 6 (tD ds x 10 f 401 3) _) _ = _
      rw [tD_s, uT_k hx8 (by omega) (by omega), e_tells hm40 (by omega), zc_n, e_tells hm40 (by omega), zc_n, e_nextNumber, zc_n, e_tells hm40 (by omega), zc_n, mD_s, mD_s, tD_s, uM_k hm40 (by omega) (by omega), uM_k hm40 (by omega) (by omega), uT_k hx8 (by omega) (by omega), hzq]
      have e7 : rT (mD (zu (mD (mD (tD ds x 10 f) m 6 (ds 401 3)) m 3 2) 401 46 (ds 401 46 + 1)) m 10 (ds 401 46 + 1) 401) x 7 = rT (ds 401) x 7 := by
        rw [mD_s, rT_uM hm40 (by omega), zu_r, rT_f (by omega), mD_s, rT_uM hm40 (by omega), mD_s, rT_uM hm40 (by omega), tD_s, rT_u hx8 (by omega), up2_ne (by omega)]
      rw [e_turnsBit hx8 (by omega) (by rw [e7]; exact hit.2.2.2.2.2.2.1), zc_n, e7, hv, hds2, g1, zc_n]
    unfold f_X12_comesIntoBuffer
    rw [e_many2 h (by omega) hx, zc_n]
    by_cases hl0 : L 2 x = []
    · rw [if_pos (hlen.mpr hl0), zg_t (by omega), zl_n]
      show zc (f_X12_puts x 10 (ds 401 3) ds) _ = _
      rw [if_pos hl0] at hf
      rw [e_puts hx8 (by omega), zc_n, hf]
      exact hj
    · rw [if_neg (fun q => hl0 (hlen.mp q))]
      rw [if_neg hl0] at hf
      have e : tD ds x 10 f = ds := zu_same (by rw [← hf, rT_k hx8 (by omega)])
      rw [e] at hj
      exact hj
  · intro y y0 yn hne
    rw [g3 0 (by omega), hk2 0 (by omega) (by omega)] at yn
    rw [g3 3 (by omega)]
    by_cases hyx : y = x
    · subst hyx
      exact g6 hne
    · rw [g5 2 y (Or.inr hyx), uK_ne (by omega)] at hne
      rw [g4 y 10 (Or.inl hyx), g4 y 2 (Or.inl hyx), hT2, up2_ne (Or.inl hyx), up2_ne (Or.inl hyx), up2_ne (Or.inl hyx), up2_ne (Or.inl hyx), hk2 3 (by omega) (by omega)]
      exact hz y y0 yn hne
  · intro c hc
    rw [r3 c (by omega), zu_row (by omega), zu_row (by omega), zu_row (by omega), zu_row (by omega)]
  · refine Fs.tr (fun c hc => ?_) g7
    rw [← hds2]
    unfold tD mD
    rw [zu_row hc, zu_row hc, zu_row hc, zu_row hc, zu_row hc, zu_row hc]
  · refine ⟨fun k k1 k2 k3 k4 k5 => by rw [g3 k k1, hk2 k k1 k4], P3.tr (fun j hj => ?_) g9⟩
    have hjm : j ≠ m := fun e => by rw [e, f3] at hj; exact absurd hj (by decide)
    rw [hs2, rM_uT hx8 (by omega), rM_u hm40 (by omega), rM_f (by omega), rM_u hm40 (by omega), rM_u hm40 (by omega), rM_uT hx8 (by omega), up2_ne (Or.inl hjm), up2_ne (Or.inl hjm), up2_ne (Or.inl hjm)]
    exact hj
  · rw [g5 1 x (by omega), uK_ne (by omega)]
    exact hl
  · rw [e78.1, e78.2]
    omega
  · rw [g3 3 (by omega), hk2 3 (by omega) (by omega)]
/-- the end of a select: the positive answer -/
theorem R_selEnd {ds : zD} {g : Nat} {x m : Int} {l : List Int} (h : RC K L D d b (ds 401) N) (hg : g < b) (hx : 0 ≤ x ∧ x < ds 401 0) (hgx : d g 2 = x) (hl : L 1 x = m :: l) (hne : rT (ds 401) x 8 ≠ rT (ds 401) x 7) (hN : N ≤ 999999900) : ∃ v d' ds' L', j_X1_trySelect_218 g b d = some (v, d') ∧ j_X12_selectTry_111 x m ds = some (v, ds') ∧ (v = 0 ∨ v = 2) ∧ PP b (N + 20) 1 0 d ds d' ds' L' ∧ (v = 0 → L' 1 x ≠ []) := by
  obtain ⟨u, d1, s1, L1, D1, a1, a2, a3, a4, a5, a6, a7, a8, a9, a10⟩ := R_send h (k := 1) (by omega) hN
  obtain ⟨⟨i1, i2⟩, -, i4, i5, -⟩ := RC_i a4
  have e0 : s1 401 0 = ds 401 0 := a8.1 0 (by omega) (by omega) (by omega) (by omega)
  have hx1 : 0 ≤ x ∧ x < s1 401 0 := by omega
  have hx8 : 0 ≤ x ∧ x < 8 := by omega
  have hl1 : L1 1 x = m :: l := by rw [a9 1 x (by omega)]; exact hl
  unfold j_X1_trySelect_218 j_X12_selectTry_111
  rw [a1, a2, zc_n, zc_n]
  rcases a3 with rfl | rfl
  · rw [if_pos rfl, if_neg (by decide)]
    exact ⟨0, d1, s1, L1, rfl, rfl, Or.inl rfl, ⟨K, D1, a4, a5, a6, a7, a8.q, by omega⟩, fun _ => by rw [hl1]; exact fun q => by cases q⟩
  · rw [if_neg (by decide), if_pos (by decide)]
    have hm := RC_in1 a4 (r := 1) (Or.inl rfl) hx1 (by rw [hl1]; exact List.mem_cons_self)
    have hm40 : 0 ≤ m ∧ m < 40 := by omega
    have hh := a4
    obtain ⟨hS, hA, hQ, hM, hD, hK, hL, hKL, hP, hG, hI, hIL, hIT, hIM, hU, hb⟩ := hh
    have hq := (hQ x hx1.1 hx1.2).2.2.2.2.2.1
    have hit := hIT x hx1.1 hx1.2
    have hbits := R_bits a1 h a4 hx hx1
    have hne1 : rT (s1 401) x 8 ≠ rT (s1 401) x 7 := by rw [hbits.2.2.1, hbits.2.1]; exact hne
    obtain ⟨d2, r1, r2, r3⟩ := KR_remove (r := 1) (x := x) hK (by omega) i4 (show K 1 x = m :: l by rw [(hKL x).2.1]; exact hl1)
    have hgx1 : d1 g 2 = x := by rw [a6 g (by omega)]; exact hgx
    have hgx2 : d2 g 2 = x := by rw [r3 g (by omega)]; exact hgx1
    have hp := RC_pop1 a4 hx1 hl1 hne1 rfl r2 r3
    have e2 : d2 (b + 21) x.toNat = rT (s1 401) x 8 := by rw [r3 _ (by omega)]; exact hq
    have hs2 : tD (mD s1 m 9 0) x 8 (1 - rT (s1 401) x 8) 401 = uT (uM (s1 401) m 9 0) x 8 (1 - rT (s1 401) x 8) := by rw [tD_s, mD_s]
    rw [← hs2] at hp
    have hac := R_acc hp (k := 5) (by omega)
    have hk2 : ∀ k, k < 50 → tD (mD s1 m 9 0) x 8 (1 - rT (s1 401) x 8) 401 k = s1 401 k := fun k hk => by rw [hs2, uT_k hx8 (by omega) (by omega), uM_k hm40 (by omega) (by omega)]
    refine ⟨2, _, _, uK L1 1 x l, ?_, ?_, Or.inr rfl, ⟨uK K 1 x l, D1, hac, ?_, ?_, ?_, ?_, ?_⟩, fun q => absurd q (by decide)⟩
    · rw [zl_n, hgx1, r1, zc_n, zl_n, hgx2, zg_t (by omega), zl_n, zl_n, zg_t (by omega), zl_n, e2, zxor1 hit.2.2.2.2.2.2.2.1, zg_t (by omega), zl_n, zl_n, zg_t (by omega), zl_n]
    · rw [e_tells hm40 (by omega), zc_n, e_turnsBit hx8 (by omega) (by rw [mD_s, rT_uM hm40 (by omega)]; exact hit.2.2.2.2.2.2.2.1), zc_n, mD_s, rT_uM hm40 (by omega), e_counts (by omega), zc_n]
    · refine RZ_acc ?_ (by omega)
      rw [hk2 0 (by omega), hk2 3 (by omega), hs2, rT_u hx8 (by omega), rT_uM hm40 (by omega)]
      intro y y0 yn hne2
      rw [up2_ne (by omega), up2_ne (by omega)]
      rw [uK_ne (by omega)] at hne2
      exact a5 y y0 yn hne2
    · exact Fr.tr a6 (fun c hc => by rw [zu_row (by omega), zu_row (by omega), r3 c (by omega)])
    · exact Fs.tr (Fs.tr a7 (fun c hc => by unfold tD mD; rw [zu_row hc, zu_row hc])) Fs.a
    · refine Fq.tr (Fq.tr a8.q ⟨fun k k1 k2 k3 k4 k5 => hk2 k k1, fun j hj => ?_⟩) (Fq.a (by omega))
      rw [hs2, rM_uT hx8 (by omega), rM_u hm40 (by omega), up2_ne (Or.inr (by decide))]; exact hj
    · rw [aD_k (by omega) (by omega), hk2 3 (by omega)]
      omega
theorem R_trySelect {ds : zD} {g : Nat} {x : Int} (h : RC K L D d b (ds 401) N) (hg : g < b) (hx : 0 ≤ x ∧ x < ds 401 0) (hgx : d g 2 = x) (hL1 : L 1 x ≠ []) (hN : N ≤ 999999500) : ∃ v d' ds' L', f_X1_trySelect g b d = some (v, d') ∧ f_X12_selectTry x ds = some (v, ds') ∧ ((v = 0 ∨ v = 2 ∨ v = 4) ∧ (v ≠ 0 → rT (ds 401) x 3 = 1)) ∧ PP b (N + 150) 60 1 d ds d' ds' L' ∧ (v = 0 → L' 1 x ≠ []) := by
  obtain ⟨v, d1, s1, L1, D1, c1, c2, c3, c4, c5, c6, c7, c8, c9, c10⟩ := R_call h hg hx hgx (by omega)
  have e0 : s1 401 0 = ds 401 0 := c8.1 0 (by omega) (by omega) (by omega) (by omega)
  have hx1 : 0 ≤ x ∧ x < s1 401 0 := by omega
  obtain ⟨⟨i1, i2⟩, -, i4, i5, -⟩ := RC_i h
  have hx8 : 0 ≤ x ∧ x < 8 := by omega
  have hh := h
  obtain ⟨hS, hA, hQ, hM, hD, hK, hL, hKL, hP, hG, hI, hIL, hIT, hIM, hU, hb⟩ := hh
  have s9 : d (b + 1) 0 = ds 401 2 := hS.2.2.2.2.2.2.2.2
  have hgx1 : d1 g 2 = x := by rw [c6 g (by omega)]; exact hgx
  cases hl : L 1 x with
  | nil => exact absurd hl hL1
  | cons m l =>
  have hm := RC_in1 h (r := 1) (Or.inl rfl) hx (by rw [hl]; exact List.mem_cons_self)
  have hm40 : 0 ≤ m ∧ m < 40 := by omega
  have hh1 : hd1 (m :: l) = m := rfl
  have hl1 : L1 1 x = m :: l := by rw [c9 1 x (by omega)]; exact hl
  have hnil : ∀ {L' : Int → Int → List Int}, L' 1 x = m :: l → L' 1 x ≠ [] := fun e => by rw [e]; exact fun q => by cases q
  unfold f_X1_trySelect f_X12_selectTry
  rw [zl_n, hgx, KR_first hK (by omega), zc_n, (hKL x).2.1, hl, hh1, e_has3, zc_n, if_pos (show 0 ≤ m ∧ m < d (b + 1) 0 by omega), if_neg (show ¬ (1 : Int) = 0 by decide), e_row h (by omega) hx, zc_n, hl, hh1, c1, c2, zc_n, zc_n]
  by_cases hv : v = 0
  · rw [if_pos hv, if_pos hv]
    exact ⟨0, d1, s1, L1, rfl, rfl, ⟨by omega, fun q => absurd rfl q⟩, PP.w ⟨K, D1, c4, c5, c6, c7, c8.q, (tm_lt c10)⟩ (by omega) (by omega) (by omega), fun _ => hnil hl1⟩
  rw [if_neg hv, if_neg hv, zl_n, hgx1]
  have hal : rT (ds 401) x 3 = 1 := (hQ x hx.1 hx.2).1.symm.trans (call_alive (by omega) hgx hv c1)
  obtain ⟨d2, t1, t2, t3⟩ := R_due c4 c5 hx1
  have hgx2 : d2 g 2 = x := by rw [t3 g (by omega)]; exact hgx1
  have hh2 := t2
  obtain ⟨hS2, hA2, hQ2, hM2, hD2, hK2, hL2, hKL2, hP2, hG2, hI2, hIL2, hIT2, hIM2, hU2, -⟩ := hh2
  have hk2x : uK K 2 x (L1 2 x) 2 x = L1 2 x := uK_eq
  have hd4 : d2 (1 + 3) x.toNat = rT (s1 401) x 1 := (hU2.2 x hx1.1 hx1.2).2.1
  rw [t1, zc_n, zl_n, hgx2, KR_size hK2 (by omega), zc_n, hk2x, zl_n, hgx2, zg_t (by omega), zl_n, hd4, e_many2 c4 (by omega) hx1, zc_n, e_of hx8 (by omega), zc_n]
  have main : ∀ r : Int, (r = 0 ∨ r = 1) → (r = 1 → ((L1 2 x).length : Int) < rT (s1 401) x 1) → ∃ v d' ds' L', j_X1_trySelect_88 g b m r d2 = some (v, d') ∧ j_X12_selectTry_38 x m r s1 = some (v, ds') ∧ ((v = 0 ∨ v = 2 ∨ v = 4) ∧ (v ≠ 0 → rT (ds 401) x 3 = 1)) ∧ PP b (N + 150) 60 1 d ds d' ds' L' ∧ (v = 0 → L' 1 x ≠ []) := by
    intro r hr hroom
    obtain ⟨u, d3, s3, L3, D3, a1, a2, a3, a4, a5, a6, a7, a8, a9, a10⟩ := R_send t2 (k := 1) (by omega) (by omega)
    have hl3 : L3 1 x = m :: l := by rw [a9 1 x (by omega)]; exact hl1
    have e03 : s3 401 0 = s1 401 0 := a8.1 0 (by omega) (by omega) (by omega) (by omega)
    have hx3 : 0 ≤ x ∧ x < s3 401 0 := by omega
    have hgx3 : d3 g 2 = x := by rw [a6 g (by omega)]; exact hgx2
    have f1 : Fr b d d2 := Fr.tr c6 t3
    unfold j_X1_trySelect_88 j_X12_selectTry_38
    rw [a1, a2, zc_n, zc_n]
    rcases a3 with rfl | rfl
    · rw [if_pos rfl, if_neg (by decide)]
      exact ⟨0, d3, s3, L3, rfl, rfl, ⟨by omega, fun _ => hal⟩, PP.w (PP.tr f1 c7 c8.q (tm_lt c10) ⟨_, D3, a4, a5, a6, a7, a8.q, tm_eq a10 (by omega)⟩) (by omega) (by omega) (by omega), fun _ => hnil hl3⟩
    rw [if_neg (show ¬ (1 : Int) = 0 by decide), if_pos (show (1 : Int) - 1 = 0 by decide)]
    rcases hr with rfl | rfl
    · rw [if_pos (show (0 : Int) = 0 from rfl), if_pos (show (0 : Int) = 0 from rfl), zg_t (by omega), zl_n, zl_n, zg_t (by omega), zl_n, e_counts (by omega), zc_n]
      exact ⟨4, _, _, L3, rfl, rfl, ⟨by omega, fun _ => hal⟩, PP.w (PP.tr f1 c7 c8.q (tm_lt c10) (PP.tr a6 a7 a8.q (tm_eq a10 (by omega)) (t' := 0) (lo' := 0) ⟨_, D3, R_acc a4 (by omega), RZ_acc a5 (by omega), Fr.u (by omega), Fs.a, Fq.a (by omega), by rw [aD_k (by omega) (by omega)]; omega⟩)) (by omega) (by omega) (by omega), fun q => absurd q (by decide)⟩
    rw [if_neg (show ¬ (1 : Int) = 0 by decide), if_neg (show ¬ (1 : Int) = 0 by decide)]
    have hm3 := RC_in1 a4 (r := 1) (Or.inl rfl) hx3 (by rw [hl3]; exact List.mem_cons_self)
    have hh3 := a4
    obtain ⟨-, -, -, hM3, -, -, -, -, hP3, -, -, -, -, hIM3, -⟩ := hh3
    have qm4 := (hM3 m hm3.1.1 hm3.1.2).2.2.1
    have him3 := hIM3 m hm3.1.1 hm3.1.2
    rw [zg_t (by omega), zl_n, qm4, e_message0 hm40 (by omega), zc_n]
    obtain ⟨u, d4, s4, L4, D4, b1, b2, b3, b4, b5, b6, b7, b8, b9, b10⟩ := R_send a4 (k := rM (s3 401) m 2) (by omega) (by omega)
    have hl4 : L4 1 x = m :: l := by rw [b9 1 x (by omega)]; exact hl3
    have e04 : s4 401 0 = s3 401 0 := b8.1 0 (by omega) (by omega) (by omega) (by omega)
    have hx4 : 0 ≤ x ∧ x < s4 401 0 := by omega
    have hgx4 : d4 g 2 = x := by rw [b6 g (by omega)]; exact hgx3
    have p4 : ∀ {d' ds' : zD} {L' : Int → Int → List Int} {N' t' lo' : Int}, PP b N' t' lo' d4 s4 d' ds' L' → PP b N' (21 + (1 + (rM (s3 401) m 2 + t'))) (1 + (0 + (0 + lo'))) d ds d' ds' L' := fun hp => PP.tr f1 c7 c8.q (tm_lt c10) (PP.tr a6 a7 a8.q (tm_eq a10 (by omega)) (PP.tr b6 b7 b8.q (tm_eq b10 (by omega)) hp))
    rw [b1, b2, zc_n, zc_n]
    rcases b3 with rfl | rfl
    · rw [if_pos rfl, if_neg (by decide)]
      obtain ⟨d5, s5, L5, D5, e1, e2, e3, e4, e5, e6, e7, e8, e9⟩ := R_refuse (g := g) b4 (by omega)
      rw [e1, e2, zc_n, zc_n]
      exact ⟨0, d5, s5, L5, rfl, rfl, ⟨by omega, fun _ => hal⟩, PP.w (p4 ⟨_, D5, e3, e4, e5, e6, e7, tm_eq e9 (by omega)⟩) (by omega) (by omega) (by omega), fun _ => hnil (by rw [e8 1 x (by omega)]; exact hl4)⟩
    rw [if_neg (show ¬ (1 : Int) = 0 by decide), if_pos (show (1 : Int) - 1 = 0 by decide), zl_n, hgx4]
    obtain ⟨d5, u1, u2, u3⟩ := R_due b4 b5 hx4
    have hgx5 : d5 g 2 = x := by rw [u3 g (by omega)]; exact hgx4
    have hh5 := u2
    obtain ⟨-, -, hQ5, -⟩ := hh5
    have q5 := hQ5 x hx4.1 hx4.2
    rw [u1, zc_n, zl_n, zl_n, hgx5, zg_t (by omega), zl_n, zg_t (by omega), zl_n, q5.2.2.2.2.2.1, q5.2.2.2.2.1, e_of hx8 (by omega), zc_n, e_of hx8 (by omega), zc_n]
    by_cases hbt : rT (s4 401) x 8 = rT (s4 401) x 7
    · rw [if_pos hbt, if_pos hbt, zl_n]
      obtain ⟨d6, s6, K6, L6, D6, v1, v2, v3, v4, v5, v6, v7, v8, v9, v10⟩ := R_come u2 b5 hx4 hl4 hbt uD_eq (by omega) (by
        have hh4 := b4
        obtain ⟨-, -, -, -, -, -, -, hKL4, -, -, -, -, -, -, hU4, -⟩ := hh4
        have k1 := (hKL4 x).2.2
        rw [hk2x] at k1
        have k2 := congrArg List.length k1
        rw [List.length_append] at k2
        have k3 := (hU4.2 x hx4.1 hx4.2).2.1
        have k4 : d4 4 = d2 4 := by rw [b6 4 (by omega), a6 4 (by omega)]
        have k5 := hd4
        rw [k4] at k3
        have k6 : d2 4 x.toNat = rT (s1 401) x 1 := k5
        have := hroom rfl
        omega) (by
        obtain ⟨z2, z4, z5⟩ := R_msgs b1 a4 b4 (m := m) ⟨hm3.1.1, hm3.1.2⟩ (by rw [b8.1 2 (by omega) (by omega) (by omega) (by omega)]; exact hm3.1.2)
        have hn0 : rM (s3 401) m 3 ≠ 0 := fun e => by
          have q1 := (him3.2.2.2.2.2.2.1 e).1
          have q2 := hm3.2.2
          rw [if_pos rfl] at q2
          omega
        have := ((hP3.2.1 m hm3.1.1 hm3.1.2).2.1 hn0).2.2
        rw [z2, z5, b10]
        omega)
      have e06 : s6 401 0 = s4 401 0 := v7.1 0 (by omega) (by omega) (by omega) (by omega) (by omega)
      have hgx6 : d6 g 2 = x := by rw [v5 g (by omega)]; exact hgx5
      obtain ⟨w, d7, s7, L7, w1, w2, w3, w4, w5⟩ := R_selEnd v3 hg (by omega) hgx6 v8 v9 (by omega)
      rw [v1, zc_n, v2, zc_n, w1, w2]
      exact ⟨w, d7, s7, L7, rfl, rfl, ⟨by omega, fun _ => hal⟩, PP.w (p4 (PP.tr (t := 0) (lo := 0) (Fr.tr u3 v5) v6 v7 (by omega) w4)) (by omega) (by omega) (by omega), w5⟩
    · rw [if_neg hbt, if_neg hbt]
      have h6 := R_acc u2 (k := 4) (by omega)
      obtain ⟨w, d7, s7, L7, w1, w2, w3, w4, w5⟩ := R_selEnd (g := g) h6 hg (by rw [aD_k (by omega) (by omega)]; exact hx4) (by rw [zu_o (by omega)]; exact hgx5) hl4 (by rw [aD_T (by omega)]; exact hbt) (by omega)
      rw [zg_t (by omega), zl_n, zl_n, zg_t (by omega), zl_n, w1, e_counts (by omega), zc_n, w2]
      exact ⟨w, d7, s7, L7, rfl, rfl, ⟨by omega, fun _ => hal⟩, PP.w (p4 (PP.tr (t := 0) (lo := 0) (Fr.tr u3 (Fr.u (by omega))) Fs.a (Fq.a (by omega)) (by rw [aD_k (by omega) (by omega)]; omega) w4)) (by omega) (by omega) (by omega), w5⟩
  by_cases hc : rT (s1 401) x 1 ≤ ((L1 2 x).length : Int)
  · rw [if_pos hc, if_pos hc]; exact main 0 (Or.inl rfl) (fun q => absurd q (by decide))
  · rw [if_neg hc, if_neg hc]; exact main 1 (Or.inr rfl) (fun _ => by omega)
end SELECTS
