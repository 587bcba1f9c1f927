/-! A try of a poll. -/
section POLLS
variable {K L : Int → Int → List Int} {D : Int → List Int} {d : zD} {b : Nat} {N : Int}
theorem R_take {ds : zD} {x m : Int} {l : List Int} (h : RC K L D d b (ds 401) N) (hz : RZ L (ds 401 0) (ds 401 3) (rT (ds 401))) (hx : 0 ≤ x ∧ x < ds 401 0) (hl : L 0 x = m :: l) (hbt : rT (ds 401) x 6 = rT (ds 401) x 9) (hN : N ≤ 999999900) (hln : rM (ds 401) m 4 + rM (ds 401) m 2 ≤ ds 401 3) : ∃ d' s1 ds' K' L', f_X2_takeAtHost b x m d = some (0, d') ∧ f_X12_hostTakes m ds = some (0, s1) ∧ f_X12_turnsBit x 9 s1 = some (0, ds') ∧ RC K' L' D d' b (ds' 401) (N + 1) ∧ RZ L' (ds' 401 0) (ds' 401 3) (rT (ds' 401)) ∧ Fr b d d' ∧ Fs ds ds' ∧ Fq (ds 401) (ds' 401) ∧ L' 0 x = m :: l ∧ rT (ds' 401) x 6 ≠ rT (ds' 401) x 9 ∧ ds' 401 3 = ds 401 3 := by
  have h1 := R_acc h (k := 3) (by omega)
  generalize hdA : zu d (b + 28) (3 : Int).toNat (zw (d (b + 28) (3 : Int).toNat + 1)) = dA at h1
  have hFr : Fr b d dA := by rw [← hdA]; exact Fr.u (by omega)
  generalize hsA : aD ds 3 = sA at h1
  have hFs : Fs ds sA := by rw [← hsA]; exact Fs.a
  have hFq : Fq (ds 401) (sA 401) := by rw [← hsA]; exact Fq.a (by omega)
  have hTA : rT (sA 401) = rT (ds 401) := by rw [← hsA]; exact aD_T (by omega)
  have hkA : ∀ k, k < 12 ∨ 25 ≤ k → sA 401 k = ds 401 k := fun k hk => by rw [← hsA]; exact aD_k (by omega) hk
  have hMA : rM (sA 401) = rM (ds 401) := by rw [← hsA]; exact aD_M (by omega)
  have hlnA : rM (sA 401) m 4 + rM (sA 401) m 2 ≤ sA 401 3 := by rw [hMA, hkA 3 (by omega)]; exact hln
  have hx1 : 0 ≤ x ∧ x < sA 401 0 := by rw [hkA 0 (by omega)]; exact hx
  obtain ⟨⟨i1, i2⟩, -, i4, i5, -⟩ := RC_i h1
  have hm := RC_in0 h1 hx1 (by rw [hl]; exact List.mem_cons_self)
  obtain ⟨f3, f9, f10⟩ := RC_fresh h1 hx1 hl (by rw [hTA]; exact hbt)
  have hm40 : 0 ≤ m ∧ m < 40 := by omega
  have hx8 : 0 ≤ x ∧ x < 8 := by omega
  have hq46 := RC_q h1
  have hh := h1
  obtain ⟨hS, hA, hQ, hM, hD, hK, hL, hKL, hP, hG, hI, hIL, hIT, hIM, hU, hb⟩ := hh
  have q22 := (hQ x hx1.1 hx1.2).2.2.2.2.2.2.1
  have hit := hIT x hx1.1 hx1.2
  have himm := hIM m hm.1.1 hm.1.2
  have qm3 := (hM m hm.1.1 hm.1.2).2.1
  have s9 : dA b 9 = sA 401 3 := hS.2.1
  generalize hv : 1 - rT (sA 401) x 9 = v
  have hzA : ∀ {L1 : Int → Int → List Int} {s2 : Nat → Int}, (∀ y, L1 2 y = L 2 y) → s2 0 = sA 401 0 → s2 3 = sA 401 3 → (∀ y u, u ≠ 9 → rT s2 y u = rT (sA 401) y u) → RZ L1 (s2 0) (s2 3) (rT s2) := fun e1 e2 e3 e4 => by
    intro y y0 yn hne
    rw [e1] at hne
    rw [e2] at yn
    rw [e3, e4 y 10 (by omega), e4 y 2 (by omega), hTA, hkA 3 (by omega)]
    rw [hkA 0 (by omega)] at yn
    exact hz y y0 yn hne
  have ecl : ∀ {r : Option (Int × zD)}, (if rM (sA 401) m 1 = -1 then some (0, zu (zu (zu (zu dA (b + 22) x.toNat v) (b + 7) m.toNat (sA 401 3)) (b + 9) m.toNat (sA 401 3)) (b + 5) m.toNat 3) else zc (f_X4_append b 1 (rM (sA 401) m 1) m (zu (zu (zu dA (b + 22) x.toNat v) (b + 7) m.toNat (sA 401 3)) (b + 5) m.toNat 1)) fun _ d => some (0, d)) = r → f_X2_takeAtHost b x m d = r := fun {r} hr => by
    unfold f_X2_takeAtHost
    rw [zg_t (by omega), zl_n, zl_n, zg_t (by omega), zl_n, hdA, zg_t (by omega), zl_n, zl_n, zg_t (by omega), zl_n, zl_n, zg_t (by omega), zl_n, zg_t (by omega), zl_n, q22, zxor1 hit.2.2.2.2.2.2.2.2.1, hv, zu_o (a := b + 7) (b := b + 3) (by omega), zu_o (a := b + 22) (b := b + 3) (by omega), zu_o (a := b + 22) (b := b) (by omega), s9, qm3]
    by_cases hr1 : rM (sA 401) m 1 = -1
    · rw [if_pos hr1] at hr ⊢
      rw [zl_n, zg_t (by omega), zl_n, zg_t (by omega), zl_n, zu_o (by omega), zu_o (by omega), s9]
      exact hr
    · rw [if_neg hr1] at hr ⊢
      rw [zg_t (by omega), zl_n]
      exact hr
  have hs5 : f_X12_hostTakes m ds = if rM (sA 401) m 1 = -1 then zc (f_X12_delivers m (sA 401 3) (mD sA m 5 (sA 401 3))) fun _ d => some (0, d) else zc (f_X12_tells m 3 1 (mD sA m 5 (sA 401 3))) fun _ d => zc (f_X12_nextNumber d) fun v51 d => zc (f_X12_tells m 9 v51 d) fun _ d => some (0, d) := by
    unfold f_X12_hostTakes
    rw [e_counts (by omega), zc_n, hsA, zg_t (by omega), zl_n]
    show zc (f_X12_tells m 5 (sA 401 3) sA) _ = _
    rw [e_tells hm40 (by omega), zc_n, e_message0 hm40 (by omega), zc_n, mD_s, rM_u hm40 (by omega), up2_ne (by omega)]
    by_cases hr1 : rM (sA 401) m 1 = -1
    · rw [if_pos hr1, if_pos hr1, zg_t (by omega), zl_n]
      show zc (f_X12_delivers m (uM (sA 401) m 5 (sA 401 3) 3) _) _ = _
      rw [uM_k hm40 (by omega) (by omega)]
    · rw [if_neg hr1, if_neg hr1]
  by_cases hr1 : rM (sA 401) m 1 = -1
  · have hrc := RC_takeH h1 hx1 hl (by rw [hTA]; exact hbt) hv.symm hr1 hlnA
    have hs' : tD (mD (mD (mD sA m 5 (sA 401 3)) m 3 3) m 7 (sA 401 3)) x 9 v 401 = uT (uM (uM (uM (sA 401) m 5 (sA 401 3)) m 3 3) m 7 (sA 401 3)) x 9 v := by rw [tD_s, mD_s, mD_s, mD_s]
    have hT' : rT (tD (mD (mD (mD sA m 5 (sA 401 3)) m 3 3) m 7 (sA 401 3)) x 9 v 401) = up2 (rT (sA 401)) x 9 v := by rw [hs', rT_u hx8 (by omega), rT_uM hm40 (by omega), rT_uM hm40 (by omega), rT_uM hm40 (by omega)]
    have hk' : ∀ k, k < 50 → tD (mD (mD (mD sA m 5 (sA 401 3)) m 3 3) m 7 (sA 401 3)) x 9 v 401 k = sA 401 k := fun k hk => by rw [hs', uT_k hx8 (by omega) (by omega), uM_k hm40 (by omega) (by omega), uM_k hm40 (by omega) (by omega), uM_k hm40 (by omega) (by omega)]
    rw [← hs'] at hrc
    refine ⟨zu (zu (zu (zu dA (b + 22) x.toNat v) (b + 7) m.toNat (sA 401 3)) (b + 9) m.toNat (sA 401 3)) (b + 5) m.toNat 3, mD (mD (mD sA m 5 (sA 401 3)) m 3 3) m 7 (sA 401 3), tD (mD (mD (mD sA m 5 (sA 401 3)) m 3 3) m 7 (sA 401 3)) x 9 v, K, L, ecl (by rw [if_pos hr1]), ?_, ?_, ?_, hzA (fun _ => rfl) (hk' 0 (by omega)) (hk' 3 (by omega)) (fun y u hu => by rw [hT', up2_ne (by omega)]), ?_, ?_, ?_, hl, ?_, ?_⟩
    rotate_left 2
    · obtain ⟨p1, p2, p3, p4, p5, p6, p7, p8, p9, p10, p11, p12⟩ := hrc
      exact ⟨p1, p2, p3, p4, p5, p6, p7, p8, p9, p10, RI_N p11 (by omega) (by omega), p12⟩
    · exact Fr.tr hFr (fun c hc => by rw [zu_row (by omega), zu_row (by omega), zu_row (by omega), zu_row (by omega)])
    · exact Fs.tr hFs (fun c hc => by unfold tD mD; rw [zu_row hc, zu_row hc, zu_row hc, zu_row hc])
    · refine Fq.tr hFq ⟨fun k k1 k2 k3 k4 k5 => hk' k k1, fun j hj => ?_⟩
      have hjm : j ≠ m := fun e => by rw [e, f3] at hj; exact absurd hj (by decide)
      rw [hs', rM_uT hx8 (by omega), rM_u hm40 (by omega), rM_u hm40 (by omega), rM_u hm40 (by omega), up2_ne (Or.inl hjm), up2_ne (Or.inl hjm), up2_ne (Or.inl hjm)]
      exact hj
    · rw [hT', up2_eq, up2_ne (by omega)]
      have := hTA ▸ hbt
      rw [hTA] at hv ⊢
      rw [hTA] at hit
      omega
    · rw [hk' 3 (by omega), hkA 3 (by omega)]
    · rw [hs5, if_pos hr1]
      unfold f_X12_delivers
      rw [e_tells hm40 (by omega), zc_n, e_tells hm40 (by omega), zc_n, zc_n]
    · rw [e_turnsBit hx8 (by omega) (by rw [mD_s, rT_uM hm40 (by omega), mD_s, rT_uM hm40 (by omega), mD_s, rT_uM hm40 (by omega)]; exact hit.2.2.2.2.2.2.2.2.1), mD_s, rT_uM hm40 (by omega), mD_s, rT_uM hm40 (by omega), mD_s, rT_uM hm40 (by omega), hv]
  · generalize hr : rM (sA 401) m 1 = r at hr1 himm
    have hrn : 0 ≤ r ∧ r < sA 401 0 := by omega
    have hmr : m ∉ K 1 r := fun hq1 => by
      rw [(hKL r).2.1] at hq1
      have := (RC_in1 h1 (r := 1) (Or.inl rfl) hrn hq1).2.2
      rw [if_pos rfl, f9] at this
      omega
    have hKd : KR K (zu (zu (zu dA (b + 22) x.toNat v) (b + 7) m.toNat (sA 401 3)) (b + 5) m.toNat 1) b (sA 401 2) (rM (sA 401)) := KR_d hK fun c _ _ => by rw [zu_row (by omega), zu_row (by omega), zu_row (by omega)]
    obtain ⟨d1, r1, r2, r3⟩ := KR_append hKd (r := 1) (x := r) (m := m) (by omega) i4 hm.1 (by unfold own; rw [if_neg (by omega)]; exact hr) hmr
    have hrc := RC_takeR h1 hx1 hl (by rw [hTA]; exact hbt) hv.symm hr hr1 rfl (by omega) hlnA r2 r3
    have hzq : zw (sA 401 46 + 1) = sA 401 46 + 1 := zw_id (by omega) (by omega)
    have hs1 : zu (mD (mD sA m 5 (sA 401 3)) m 3 1) 401 46 (sA 401 46 + 1) 401 = us (uM (uM (sA 401) m 5 (sA 401 3)) m 3 1) 46 (sA 401 46 + 1) := by rw [zu_r, mD_s, mD_s]
    have hs' : tD (mD (zu (mD (mD sA m 5 (sA 401 3)) m 3 1) 401 46 (sA 401 46 + 1)) m 9 (sA 401 46 + 1)) x 9 v 401 = uT (uM (us (uM (uM (sA 401) m 5 (sA 401 3)) m 3 1) 46 (sA 401 46 + 1)) m 9 (sA 401 46 + 1)) x 9 v := by rw [tD_s, mD_s, hs1]
    have hT' : rT (tD (mD (zu (mD (mD sA m 5 (sA 401 3)) m 3 1) 401 46 (sA 401 46 + 1)) m 9 (sA 401 46 + 1)) x 9 v 401) = up2 (rT (sA 401)) x 9 v := by rw [hs', rT_u hx8 (by omega), rT_uM hm40 (by omega), rT_f (by omega), rT_uM hm40 (by omega), rT_uM hm40 (by omega)]
    have hk' : ∀ k, k < 50 → k ≠ 46 → tD (mD (zu (mD (mD sA m 5 (sA 401 3)) m 3 1) 401 46 (sA 401 46 + 1)) m 9 (sA 401 46 + 1)) x 9 v 401 k = sA 401 k := fun k hk h46 => by rw [hs', uT_k hx8 (by omega) (by omega), uM_k hm40 (by omega) (by omega), us_ne h46, uM_k hm40 (by omega) (by omega), uM_k hm40 (by omega) (by omega)]
    rw [← hs'] at hrc
    refine ⟨d1, mD (zu (mD (mD sA m 5 (sA 401 3)) m 3 1) 401 46 (sA 401 46 + 1)) m 9 (sA 401 46 + 1), tD (mD (zu (mD (mD sA m 5 (sA 401 3)) m 3 1) 401 46 (sA 401 46 + 1)) m 9 (sA 401 46 + 1)) x 9 v, _, _, ecl (by rw [hr, if_neg hr1, r1, zc_n]), ?_, ?_, hrc, hzA (fun y => uK_ne (by omega)) (hk' 0 (by omega) (by omega)) (hk' 3 (by omega) (by omega)) (fun y u hu => by rw [hT', up2_ne (by omega)]), ?_, ?_, ?_, ?_, ?_, ?_⟩
    · rw [hs5, hr, if_neg hr1, e_tells hm40 (by omega), zc_n, e_nextNumber, zc_n, e_tells hm40 (by omega), zc_n, mD_s, mD_s, uM_k hm40 (by omega) (by omega), uM_k hm40 (by omega) (by omega), hzq]
    · have e9 : rT (mD (zu (mD (mD sA m 5 (sA 401 3)) m 3 1) 401 46 (sA 401 46 + 1)) m 9 (sA 401 46 + 1) 401) x 9 = rT (sA 401) x 9 := by rw [mD_s, rT_uM hm40 (by omega), hs1, rT_f (by omega), rT_uM hm40 (by omega), rT_uM hm40 (by omega)]
      rw [e_turnsBit hx8 (by omega) (by rw [e9]; exact hit.2.2.2.2.2.2.2.2.1), e9, hv]
    · exact Fr.tr hFr (fun c hc => by rw [r3 c (by omega), zu_row (by omega), zu_row (by omega), zu_row (by omega)])
    · exact Fs.tr hFs (fun c hc => by unfold tD mD; rw [zu_row hc, zu_row hc, zu_row hc, zu_row hc, zu_row hc])
    · refine Fq.tr hFq ⟨fun k k1 k2 k3 k4 k5 => hk' k k1 k4, fun j hj => ?_⟩
      have hjm : j ≠ m := fun e => by rw [e, f3] at hj; exact absurd hj (by decide)
      rw [hs', rM_uT hx8 (by omega), rM_u hm40 (by omega), rM_f (by omega), rM_u hm40 (by omega), rM_u hm40 (by omega), up2_ne (Or.inl hjm), up2_ne (Or.inl hjm), up2_ne (Or.inl hjm)]
      exact hj
    · rw [uK_ne (by omega)]; exact hl
    · rw [hT', up2_eq, up2_ne (by omega)]
      rw [hTA] at hv ⊢
      rw [hTA] at hit
      omega
    · rw [hk' 3 (by omega) (by omega), hkA 3 (by omega)]
theorem R_tryPoll {ds : zD} {g : Nat} {x : Int} (h : RC K L D d b (ds 401) N) (hg : g < b) (hx : 0 ≤ x ∧ x < ds 401 0) (hgx : d g 2 = x) (hN : N ≤ 999999500) : ∃ v d' ds' L', f_X1_tryPoll g b d = some (v, d') ∧ f_X12_pollTry x ds = some (v, ds') ∧ ((0 ≤ v ∧ v ≤ 3) ∧ (v ≠ 0 → rT (ds 401) x 3 = 1)) ∧ PP b (N + 150) 60 1 d ds d' ds' L' := by
  obtain ⟨v, d1, s1, L1, D1, c1, c2, c3, c4, c5, c6, c7, c8, c9, c10⟩ := R_call h hg hx hgx (by omega)
  obtain ⟨⟨i1, i2⟩, -, i4, i5, -⟩ := RC_i c4
  have e0 : s1 401 0 = ds 401 0 := c8.1 0 (by omega) (by omega) (by omega) (by omega)
  have hx1 : 0 ≤ x ∧ x < s1 401 0 := by omega
  have hx8 : 0 ≤ x ∧ x < 8 := by omega
  have hgx1 : d1 g 2 = x := by rw [c6 g (by omega)]; exact hgx
  have hh := c4
  obtain ⟨hS, hA, hQ, hM, hD, hK, hL, hKL, hP, hG, hI, hIL, hIT, hIM, hU, hb⟩ := hh
  have s9 : d1 (b + 1) 0 = s1 401 2 := hS.2.2.2.2.2.2.2.2
  unfold f_X1_tryPoll f_X12_pollTry
  rw [c1, c2, zc_n, zc_n]
  by_cases hv : v = 0
  · rw [if_pos hv, if_pos hv]
    exact ⟨0, d1, s1, L1, rfl, rfl, ⟨by omega, fun q => absurd rfl q⟩, PP.w ⟨K, D1, c4, c5, c6, c7, c8.q, (tm_lt c10)⟩ (by omega) (by omega) (by omega)⟩
  have hal : rT (ds 401) x 3 = 1 := by
    have q1 := call_alive (by omega) hgx hv c1
    obtain ⟨-, -, hQ0, -⟩ := h
    exact (hQ0 x hx.1 hx.2).1.symm.trans q1
  rw [if_neg hv, if_neg hv, zl_n, hgx1, KR_first hK (by omega), zc_n, (hKL x).1, e_has3, zc_n, e_row c4 (by omega) hx1, zc_n]
  cases hl : L1 0 x with
  | nil =>
    have hh1 : hd1 ([] : List Int) = -1 := rfl
    rw [hh1, if_neg (show ¬ (0 ≤ (-1 : Int) ∧ (-1 : Int) < d1 (b + 1) 0) by omega), if_pos (show (0 : Int) = 0 from rfl), if_pos (show (-1 : Int) = -1 from rfl)]
    obtain ⟨u, d2, s2, L2, D2, a1, a2, a3, a4, a5, a6, a7, a8, a9, a10⟩ := R_send c4 (k := 1) (by omega) (by omega)
    rw [a1, a2, zc_n, zc_n]
    rcases a3 with rfl | rfl
    · rw [if_pos rfl, if_neg (by decide)]
      exact ⟨0, d2, s2, L2, rfl, rfl, ⟨by omega, fun _ => hal⟩, PP.w (PP.tr c6 c7 c8.q (tm_lt c10) ⟨K, D2, a4, a5, a6, a7, a8.q, tm_eq a10 (by omega)⟩) (by omega) (by omega) (by omega)⟩
    · rw [if_neg (by decide), if_pos (by decide), zg_t (by omega), zl_n, zl_n, zg_t (by omega), zl_n, e_counts (by omega), zc_n]
      exact ⟨1, _, _, L2, rfl, rfl, ⟨by omega, fun _ => hal⟩, PP.w (PP.tr c6 c7 c8.q (tm_lt c10) (PP.tr a6 a7 a8.q (tm_eq a10 (by omega)) (t' := 0) (lo' := 0) ⟨K, D2, R_acc a4 (by omega), RZ_acc a5 (by omega), Fr.u (by omega), Fs.a, Fq.a (by omega), by rw [aD_k (by omega) (by omega)]; omega⟩)) (by omega) (by omega) (by omega)⟩
  | cons m l =>
    have hm := RC_in0 c4 hx1 (by rw [hl]; exact List.mem_cons_self)
    have hm40 : 0 ≤ m ∧ m < 40 := by omega
    have himm := hIM m hm.1.1 hm.1.2
    have qm4 := (hM m hm.1.1 hm.1.2).2.2.1
    have hh1 : hd1 (m :: l) = m := rfl
    rw [hh1, if_pos (show 0 ≤ m ∧ m < d1 (b + 1) 0 by omega), if_neg (show ¬ (1 : Int) = 0 by decide), if_neg (show ¬ m = -1 by omega), zg_t (by omega), zl_n]
    rw [qm4, e_message0 hm40 (by omega), zc_n]
    obtain ⟨u, d2, s2, L2, D2, a1, a2, a3, a4, a5, a6, a7, a8, a9, a10⟩ := R_send c4 (k := rM (s1 401) m 2) (by omega) (by omega)
    rw [a1, a2, zc_n, zc_n]
    have e02 : s2 401 0 = s1 401 0 := a8.1 0 (by omega) (by omega) (by omega) (by omega)
    have hx2 : 0 ≤ x ∧ x < s2 401 0 := by omega
    have hgx2 : d2 g 2 = x := by rw [a6 g (by omega)]; exact hgx1
    rcases a3 with rfl | rfl
    · rw [if_pos rfl, if_neg (by decide)]
      obtain ⟨d3, s3, L3, D3, b1, b2, b3, b4, b5, b6, b7, b8, b9⟩ := R_refuse (g := g) a4 (by omega)
      rw [b1, b2, zc_n, zc_n]
      exact ⟨0, d3, s3, L3, rfl, rfl, ⟨by omega, fun _ => hal⟩, PP.w (PP.tr c6 c7 c8.q (tm_lt c10) (PP.tr a6 a7 a8.q (tm_eq a10 (by omega)) ⟨K, D3, b3, b4, b5, b6, b7, tm_eq b9 (by omega)⟩)) (by omega) (by omega) (by omega)⟩
    · have hl2 : L2 0 x = m :: l := by rw [a9 0 x (by omega)]; exact hl
      have hh2 := a4
      obtain ⟨-, -, hQ2, -⟩ := hh2
      have q2 := hQ2 x hx2.1 hx2.2
      rw [if_neg (by decide), if_pos (by decide), zl_n, zl_n, hgx2, zg_t (by omega), zl_n, zg_t (by omega), zl_n, q2.2.2.2.1, q2.2.2.2.2.2.2.1, e_of hx8 (by omega), zc_n, e_of hx8 (by omega), zc_n]
      by_cases hbt : rT (s2 401) x 6 = rT (s2 401) x 9
      · rw [if_pos hbt, if_pos hbt]
        obtain ⟨d3, s3, s4, K4, L4, b1, b2, b3, b4, b5, b6, b7, b8, b9, b10, b11⟩ := R_take a4 a5 hx2 hl2 hbt (by omega) (by
          obtain ⟨z2, z4, z5⟩ := R_msgs a1 c4 a4 (m := m) ⟨hm.1.1, hm.1.2⟩ (by rw [a8.1 2 (by omega) (by omega) (by omega) (by omega)]; exact hm.1.2)
          have := (hP.2.1 m hm.1.1 hm.1.2).2.2.2.2.2
          rw [z2, z4, a10]
          omega)
        have e04 : s4 401 0 = s2 401 0 := b8.1 0 (by omega) (by omega) (by omega) (by omega) (by omega)
        have hgx3 : d3 g 2 = x := by rw [b6 g (by omega)]; exact hgx2
        obtain ⟨d5, s5, L5, p1, p2, p3⟩ := R_pollEnd (v := 1) b4 hg (by omega) hgx3 b9 b10 (Or.inr rfl) (by omega)
        unfold j_X1_tryPoll_129 j_X12_pollTry_81
        rw [if_neg (by decide), if_neg (by decide), zl_n, hgx2, b1, zc_n, b2, zc_n, b3, zc_n, p1, p2]
        exact ⟨_, d5, s5, L5, rfl, rfl, ⟨by omega, fun _ => hal⟩, PP.w (PP.tr c6 c7 c8.q (tm_lt c10) (PP.tr a6 a7 a8.q (tm_eq a10 (by omega)) (PP.tr (t := 0) (lo := 0) b6 b7 b8 (by omega) p3))) (by omega) (by omega) (by omega)⟩
      · rw [if_neg hbt, if_neg hbt]
        have h4 := R_acc a4 (k := 4) (by omega)
        obtain ⟨d5, s5, L5, p1, p2, p3⟩ := R_pollEnd (g := g) (v := 0) h4 hg (by rw [aD_k (by omega) (by omega)]; exact hx2) (by rw [zu_o (by omega)]; exact hgx2) hl2 (by rw [aD_T (by omega)]; exact hbt) (Or.inl rfl) (by omega)
        unfold j_X1_tryPoll_129 j_X12_pollTry_81
        rw [if_pos rfl, if_pos rfl, zg_t (by omega), zl_n, zl_n, zg_t (by omega), zl_n, p1, e_counts (by omega), zc_n, p2]
        exact ⟨_, d5, s5, L5, rfl, rfl, ⟨by omega, fun _ => hal⟩, PP.w (PP.tr c6 c7 c8.q (tm_lt c10) (PP.tr a6 a7 a8.q (tm_eq a10 (by omega)) (PP.tr (t := 0) (lo := 0) (Fr.u (by omega)) Fs.a (Fq.a (by omega)) (by rw [aD_k (by omega) (by omega)]; omega) p3))) (by omega) (by omega) (by omega)⟩
end POLLS
