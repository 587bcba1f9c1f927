/-! Tries of polls and selects. -/
theorem send_comm {b : Nat} {d d' : zD} {x v w : Int} {k : Nat} (hk : 2 ≤ k) (h : f_X2_send b x d = some (v, d')) : f_X2_send b x (zu d (b + 28) k w) = some (v, zu d' (b + 28) k w) ∧ d' (b + 28) k = d (b + 28) k := by
  simp (disch := omega) only [f_X2_send, zl_n, zg_t, Int.reduceToNat, zu_o, zu_ne, zn_65537, zn_100, zu_q] at h ⊢
  have e1 : ∀ (dd : zD) (t : Int), zu (zu dd (b + 28) k w) b 9 t = zu (zu dd b 9 t) (b + 28) k w := fun dd t => zu_comm (Or.inl (by omega))
  have e2 : ∀ (dd : zD) (t : Int), zu (zu dd (b + 28) k w) b 11 t = zu (zu dd b 11 t) (b + 28) k w := fun dd t => zu_comm (Or.inl (by omega))
  have e3 : ∀ (dd : zD) (t : Int), zu (zu dd (b + 28) k w) (b + 28) 0 t = zu (zu dd (b + 28) 0 t) (b + 28) k w := fun dd t => zu_comm (Or.inr (by omega))
  have e4 : ∀ (dd : zD) (t : Int), zu (zu dd (b + 28) k w) (b + 28) 1 t = zu (zu dd (b + 28) 1 t) (b + 28) k w := fun dd t => zu_comm (Or.inr (by omega))
  simp only [e1, e2, e3, e4]
  split at h
  · rename_i hc
    rw [if_pos hc]
    cases h
    exact ⟨rfl, by rw [zu_o (by omega), zu_ne (by omega), zu_o (by omega)]⟩
  · rename_i hc
    rw [if_neg hc]
    cases h
    exact ⟨rfl, by rw [zu_ne (by omega), zu_o (by omega), zu_ne (by omega), zu_o (by omega)]⟩
theorem send_rows {b : Nat} {d d' : zD} {x v : Int} (h : f_X2_send b x d = some (v, d')) : ∀ c, c ≠ b → c ≠ b + 28 → d' c = d c := by
  intro c h1 h2
  simp (disch := omega) only [f_X2_send, zl_n, zg_t, Int.reduceToNat, zn_65537, zn_100] at h
  split at h
  · cases h
    rw [zu_row h1, zu_row h2, zu_row h1]
  · cases h
    rw [zu_row h2, zu_row h1, zu_row h2, zu_row h1]
theorem R_bits {K L K' L' : Int → Int → List Int} {D D' : Int → List Int} {d d' : zD} {b : Nat} {s s' : Nat → Int} {N N' k v x : Int} (h1 : f_X2_send b k d = some (v, d')) (h : RC K L D d b s N) (h' : RC K' L' D' d' b s' N') (hx : 0 ≤ x ∧ x < s 0) (hx' : 0 ≤ x ∧ x < s' 0) : rT s' x 6 = rT s x 6 ∧ rT s' x 7 = rT s x 7 ∧ rT s' x 8 = rT s x 8 ∧ rT s' x 9 = rT s x 9 := by
  obtain ⟨-, -, hQ, -⟩ := h
  obtain ⟨-, -, hQ', -⟩ := h'
  have hr := send_rows h1
  have q := hQ x hx.1 hx.2
  have q' := hQ' x hx'.1 hx'.2
  rw [hr (b + 19) (by omega) (by omega), hr (b + 20) (by omega) (by omega), hr (b + 21) (by omega) (by omega), hr (b + 22) (by omega) (by omega)] at q'
  exact ⟨q'.2.2.2.1.symm.trans q.2.2.2.1, q'.2.2.2.2.1.symm.trans q.2.2.2.2.1, q'.2.2.2.2.2.1.symm.trans q.2.2.2.2.2.1, q'.2.2.2.2.2.2.1.symm.trans q.2.2.2.2.2.2.1⟩
theorem R_msgs {K L K' L' : Int → Int → List Int} {D D' : Int → List Int} {d d' : zD} {b : Nat} {s s' : Nat → Int} {N N' k v m : Int} (h1 : f_X2_send b k d = some (v, d')) (h : RC K L D d b s N) (h' : RC K' L' D' d' b s' N') (hm : 0 ≤ m ∧ m < s 2) (hm' : m < s' 2) : rM s' m 2 = rM s m 2 ∧ rM s' m 4 = rM s m 4 ∧ rM s' m 5 = rM s m 5 := by
  obtain ⟨-, -, -, hM, -⟩ := h
  obtain ⟨-, -, -, hM', -⟩ := h'
  have hr := send_rows h1
  have q := hM m hm.1 hm.2
  have q' := hM' m hm.1 hm'
  rw [hr (b + 4) (by omega) (by omega), hr (b + 6) (by omega) (by omega), hr (b + 7) (by omega) (by omega)] at q'
  exact ⟨q'.2.2.1.symm.trans q.2.2.1, q'.2.2.2.1.symm.trans q.2.2.2.1, q'.2.2.2.2.1.symm.trans q.2.2.2.2.1⟩
theorem call_alive {g b : Nat} {x v : Int} {d d' : zD} (hg : g ≠ b ∧ g ≠ b + 28) (hgx : d g 2 = x) (hv : v ≠ 0) (h : f_X1_call g b d = some (v, d')) : d (b + 16) x.toNat = 1 := by
  have no : ∀ dd : zD, j_X1_call_36 g b dd = some (v, d') → False := fun dd hj => by
    unfold j_X1_call_36 j_X1_call_37 at hj
    rw [zl_n, if_pos rfl, zg_t (by omega), zl_n, zl_n, zl_n, zz_t (Or.inl rfl)] at hj
    cases hj
    exact hv rfl
  unfold f_X1_call at h
  obtain ⟨u, d1, hs, h⟩ := zc_h h
  have hr := send_rows hs
  by_cases hu : u = 0
  · rw [if_pos hu] at h
    exact (no _ h).elim
  · rw [if_neg hu, zl_n, hr g hg.1 hg.2, hgx] at h
    obtain ⟨-, h⟩ := zg_h h
    rw [zl_n, hr (b + 16) (by omega) (by omega)] at h
    by_cases ha : d (b + 16) x.toNat = 1
    · exact ha
    · rw [if_neg ha] at h
      exact (no _ h).elim
def Fq (s s' : Nat → Int) : Prop := (∀ k, k < 50 → k ≠ 3 → k ≠ 5 → k ≠ 46 → (k < 12 ∨ 25 ≤ k ∨ k = 19 ∨ k = 23 ∨ k = 24) → s' k = s k) ∧ P3 s s'
theorem Fq.tr {s s' s2 : Nat → Int} (h : Fq s s') (g : Fq s' s2) : Fq s s2 := ⟨fun k a b c e f => (g.1 k a b c e f).trans (h.1 k a b c e f), h.2.tr g.2⟩
theorem Fk.q {s s' : Nat → Int} (h : Fk s s') : Fq s s' := ⟨fun k a b c _ f => h.1 k a b c (by omega), h.2⟩
theorem Fq.rf {s : Nat → Int} : Fq s s := ⟨fun _ _ _ _ _ _ => rfl, P3.rf⟩
theorem Fq.a {ds : zD} {k : Int} (hk : (0 ≤ k ∧ k < 13) ∧ k ≠ 7 ∧ k ≠ 11 ∧ k ≠ 12) : Fq (ds 401) (aD ds k 401) := ⟨fun j a b c _ f => by
  unfold aD
  rw [zu_r, us_ne (by omega)], P3.e (by unfold aD; rw [zu_r]; exact rM_f (by omega))⟩
theorem Fs.a {ds : zD} {k : Int} : Fs ds (aD ds k) := Fs.u
theorem aD_k {ds : zD} {k : Int} {j : Nat} (hk : 0 ≤ k ∧ k < 13) (hj : j < 12 ∨ 25 ≤ j) : aD ds k 401 j = ds 401 j := by
  unfold aD
  rw [zu_r, us_ne (by omega)]
theorem aD_T {ds : zD} {k : Int} (hk : 0 ≤ k ∧ k < 13) : rT (aD ds k 401) = rT (ds 401) := by
  unfold aD
  rw [zu_r, rT_f (by omega)]
theorem aD_M {ds : zD} {k : Int} (hk : 0 ≤ k ∧ k < 13) : rM (aD ds k 401) = rM (ds 401) := by
  unfold aD
  rw [zu_r, rM_f (by omega)]
section TRIES
variable {K L : Int → Int → List Int} {D : Int → List Int} {d : zD} {b : Nat} {N : Int}
theorem R_acc {ds : zD} {k : Int} (h : RC K L D d b (ds 401) N) (hk : 2 ≤ k ∧ k < 13) : RC K L D (zu d (b + 28) k.toNat (zw (d (b + 28) k.toNat + 1))) b (aD ds k 401) N := by
  have hh := h
  obtain ⟨-, ⟨-, hA, -⟩, -⟩ := hh
  have e := hA k (by omega) hk.2
  have h1 := RC_acc (k := k.toNat) (v := zw (ds 401 (12 + k).toNat + 1)) h (by omega) (fun q => RI_acc2 q (by omega))
  unfold aD
  rw [zu_r, e, show (12 + k).toNat = 12 + k.toNat by omega]
  rw [show (12 + k).toNat = 12 + k.toNat by omega] at h1
  exact h1
theorem RZ_acc {ds : zD} {k : Int} (h : RZ L (ds 401 0) (ds 401 3) (rT (ds 401))) (hk : 0 ≤ k ∧ k < 13) : RZ L (aD ds k 401 0) (aD ds k 401 3) (rT (aD ds k 401)) := by
  rw [aD_k hk (by omega), aD_k hk (by omega), aD_T hk]
  exact h
theorem R_refuse {ds : zD} {g : Nat} (h : RC K L D d b (ds 401) N) (hN : N ≤ 999999900) : ∃ d' ds' L' D', f_X1_sendNegativeAnswer g b d = some (0, d') ∧ f_X12_refuses ds = some (0, ds') ∧ RC K L' D' d' b (ds' 401) (N + 20) ∧ RZ L' (ds' 401 0) (ds' 401 3) (rT (ds' 401)) ∧ Fr b d d' ∧ Fs ds ds' ∧ Fq (ds 401) (ds' 401) ∧ FL L L' ∧ ds' 401 3 = ds 401 3 + 1 := by
  obtain ⟨v, d1, s1, L1, D1, a1, a2, a3, a4, a5, a6, a7, a8, a9, a10⟩ := R_send h (k := 1) (by omega) hN
  have h1 := R_acc a4 (k := 10) (by omega)
  have hz := RZ_acc a5 (k := 10) (by omega)
  have hc := send_comm (k := (10 : Int).toNat) (w := zw (d (b + 28) (10 : Int).toNat + 1)) (by decide) a1
  refine ⟨_, _, L1, D1, ?_, ?_, h1, hz, Fr.tr a6 (Fr.u (by omega)), Fs.tr a7 Fs.a, Fq.tr a8.q (Fq.a (by omega)), a9, ?_⟩
  · unfold f_X1_sendNegativeAnswer
    rw [zg_t (by omega), zl_n, zl_n, zg_t (by omega), zl_n, hc.1, zc_n, hc.2]
  · unfold f_X12_refuses
    rw [a2, zc_n, e_counts (by omega), zc_n]
  · rw [aD_k (by omega) (by omega), a10]
theorem e_row {ds : zD} {r x : Int} (h : RC K L D d b (ds 401) N) (hr : 0 ≤ r ∧ r < 3) (hx : 0 ≤ x ∧ x < ds 401 0) : f_X12_rowAt x r 0 ds = some (hd1 (L r x), ds) := by
  obtain ⟨⟨i1, i2⟩, -, i4, -⟩ := RC_i h
  obtain ⟨-, -, -, -, -, -, hL, -⟩ := h
  rw [e_rowAt i4, rwl_hd (hL r x hr.1 hr.2 hx.1 (by omega)) i4.1]
theorem e_many2 {ds : zD} {r x : Int} (h : RC K L D d b (ds 401) N) (hr : 0 ≤ r ∧ r < 3) (hx : 0 ≤ x ∧ x < ds 401 0) : f_X12_inRowMany x r ds = some (((L r x).length : Int), ds) := by
  obtain ⟨⟨i1, i2⟩, -, i4, -⟩ := RC_i h
  obtain ⟨-, -, -, -, -, -, hL, -⟩ := h
  rw [e_inRowMany i4, rwl_many (hL r x hr.1 hr.2 hx.1 (by omega)) i4.1]
/-- what is known behind a step of both -/
theorem tm_eq {a b k : Int} (h : b = a + k) (hk : 0 ≤ k) : a + 0 ≤ b ∧ b ≤ a + k := by omega
theorem tm_lt {a b t : Int} (h : a < b ∧ b ≤ a + t) : a + 1 ≤ b ∧ b ≤ a + t := by omega
def PP (b : Nat) (N t lo : Int) (d ds d' ds' : zD) (L' : Int → Int → List Int) : Prop := ∃ K' D', RC K' L' D' d' b (ds' 401) N ∧ RZ L' (ds' 401 0) (ds' 401 3) (rT (ds' 401)) ∧ Fr b d d' ∧ Fs ds ds' ∧ Fq (ds 401) (ds' 401) ∧ ds 401 3 + lo ≤ ds' 401 3 ∧ ds' 401 3 ≤ ds 401 3 + t
theorem PP.w {b : Nat} {N t lo N' t' lo' : Int} {d ds d' ds' : zD} {L' : Int → Int → List Int} (h : PP b N t lo d ds d' ds' L') (hN : N ≤ N') (ht : t ≤ t') (h9 : N' ≤ 1000000000) (hlo : lo' ≤ lo := by omega) : PP b N' t' lo' d ds d' ds' L' := by
  obtain ⟨K', D', ⟨p1, p2, p3, p4, p5, p6, p7, p8, p9, p10, p11, p12⟩, h2, h3, h4, h5, h6⟩ := h
  exact ⟨K', D', ⟨p1, p2, p3, p4, p5, p6, p7, p8, p9, p10, RI_N p11 hN h9, p12⟩, h2, h3, h4, h5, by omega⟩
theorem PP.tr {b : Nat} {N t t' lo lo' : Int} {d ds d1 s1 d' ds' : zD} {L' : Int → Int → List Int} (f1 : Fr b d d1) (f2 : Fs ds s1) (f3 : Fq (ds 401) (s1 401)) (f4 : ds 401 3 + lo ≤ s1 401 3 ∧ s1 401 3 ≤ ds 401 3 + t) (h : PP b N t' lo' d1 s1 d' ds' L') : PP b N (t + t') (lo + lo') d ds d' ds' L' := by
  obtain ⟨K', D', h1, h2, h3, h4, h5, h6⟩ := h
  exact ⟨K', D', h1, h2, Fr.tr f1 h3, Fs.tr f2 h4, Fq.tr f3 h5, by omega⟩
/-- the end of a poll: the positive answer -/
theorem R_pollEnd {ds : zD} {g : Nat} {x m v : Int} {l : List Int} (h : RC K L D d b (ds 401) N) (hg : g < b) (hx : 0 ≤ x ∧ x < ds 401 0) (hgx : d g 2 = x) (hl : L 0 x = m :: l) (hne : rT (ds 401) x 6 ≠ rT (ds 401) x 9) (hv : v = 0 ∨ v = 1) (hN : N ≤ 999999900) : ∃ d' ds' L', j_X1_tryPoll_162 g b v d = some (3 - v, d') ∧ j_X12_pollTry_106 x m v ds = some (3 - v, ds') ∧ PP b (N + 20) 1 0 d ds d' ds' L' := by
  obtain ⟨u, d1, s1, L1, D1, a1, a2, a3, a4, a5, a6, a7, a8, a9, a10⟩ := R_send h (k := 1) (by omega) hN
  obtain ⟨⟨i1, i2⟩, -, i4, i5, -⟩ := RC_i a4
  have e0 : s1 401 0 = ds 401 0 := a8.1 0 (by omega) (by omega) (by omega) (by omega)
  have hx1 : 0 ≤ x ∧ x < s1 401 0 := by omega
  have hx8 : 0 ≤ x ∧ x < 8 := by omega
  have hend : ∀ dd : zD, (if v = 0 then (some (3, dd) : Option (Int × zD)) else some (2, dd)) = some (3 - v, dd) := fun dd => by
    rcases hv with rfl | rfl
    · rfl
    · rfl
  unfold j_X1_tryPoll_162 j_X12_pollTry_106
  rw [a1, a2, zc_n, zc_n]
  rcases a3 with rfl | rfl
  · rw [if_pos rfl, if_neg (by decide)]
    exact ⟨d1, s1, L1, hend d1, hend s1, K, D1, a4, a5, a6, a7, a8.q, by omega⟩
  · rw [if_neg (by decide), if_pos (by decide)]
    have hl1 : L1 0 x = m :: l := by rw [a9 0 x (by omega)]; exact hl
    have hm := RC_in0 a4 hx1 (by rw [hl1]; exact List.mem_cons_self)
    have hm40 : 0 ≤ m ∧ m < 40 := by omega
    have hh := a4
    obtain ⟨hS, hA, hQ, hM, hD, hK, hL, hKL, hP, hG, hI, hIL, hIT, hIM, hU, hb⟩ := hh
    have hq := (hQ x hx1.1 hx1.2).2.2.2.1
    have hit := hIT x hx1.1 hx1.2
    have hbits := R_bits a1 h a4 hx hx1
    have hne1 : rT (s1 401) x 6 ≠ rT (s1 401) x 9 := by rw [hbits.1, hbits.2.2.2]; exact hne
    obtain ⟨d2, r1, r2, r3⟩ := KR_remove (r := 0) (x := x) hK (by omega) i4 (show K 0 x = m :: l by rw [(hKL x).1]; exact hl1)
    have hgx1 : d1 g 2 = x := by rw [a6 g (by omega)]; exact hgx
    have hgx2 : d2 g 2 = x := by rw [r3 g (by omega)]; exact hgx1
    have hp := RC_pop0 a4 hx1 hl1 hne1 rfl r2 r3
    have e2 : d2 (b + 19) x.toNat = rT (s1 401) x 6 := by rw [r3 _ (by omega)]; exact hq
    refine ⟨zu d2 (b + 19) x.toNat (1 - rT (s1 401) x 6), tD (mD s1 m 8 0) x 6 (1 - rT (s1 401) x 6), uK L1 0 x l, ?_, ?_, uK K 0 x l, D1, ?_, ?_, ?_, ?_, ?_, ?_⟩
    rotate_left 2
    · rw [tD_s, mD_s]; exact hp
    · rw [tD_s, mD_s, rT_u hx8 (by omega), rT_uM hm40 (by omega), uT_k hx8 (by omega) (by omega), uT_k hx8 (by omega) (by omega), uM_k hm40 (by omega) (by omega), uM_k hm40 (by omega) (by omega)]
      intro y y0 yn hne2
      rw [up2_ne (by omega), up2_ne (by omega)]
      rw [uK_ne (by omega)] at hne2
      exact a5 y y0 yn hne2
    · exact Fr.tr a6 (fun c hc => by rw [zu_row (by omega), r3 c (by omega)])
    · exact Fs.tr a7 (fun c hc => by unfold tD mD; rw [zu_row hc, zu_row hc])
    · refine Fq.tr a8.q ⟨fun k k1 k2 k3 k4 k5 => ?_, fun j hj => ?_⟩
      · rw [tD_s, mD_s, uT_k hx8 (by omega) (by omega), uM_k hm40 (by omega) (by omega)]
      · rw [tD_s, mD_s, rM_uT hx8 (by omega), rM_u hm40 (by omega), up2_ne (Or.inr (by decide))]; exact hj
    · rw [tD_s, mD_s, uT_k hx8 (by omega) (by omega), uM_k hm40 (by omega) (by omega)]
      omega
    · rw [zl_n, hgx1, r1, zc_n, zl_n, hgx2, zg_t (by omega), zl_n, zl_n, zg_t (by omega), zl_n, e2, zxor1 hit.2.2.2.2.2.1]
      exact hend _
    · rw [e_tells hm40 (by omega), zc_n, e_turnsBit hx8 (by omega) (by rw [mD_s, rT_uM hm40 (by omega)]; exact hit.2.2.2.2.2.1), zc_n, mD_s, rT_uM hm40 (by omega)]
      exact hend _
end TRIES
