/-! The two prints. -/
theorem OR_00 {dc ds : zD} (h : OR dc ds) : OR (zu dc 0 11 0) (zu (zu ds 400 0 0) 400 24 0) := by
  refine ⟨by rw [zu_eq, zu_eq], by rw [zu_eq]; omega, fun j j0 j1 => ?_⟩
  rw [zu_eq] at j1
  omega
theorem G_print {mc mr : zD → Option (Int × zD)} (h : ∀ {dc ds : zD}, LR dc 30 (ds 401) → OR dc ds → ds 400 24 = 0 → ∃ c1 s1 m, mc dc = some (s1 400 24, c1) ∧ mr ds = some (s1 400 24, s1) ∧ WO dc ds c1 s1 m) : GO [] (fun d => mc (zu d 0 11 0)) (fun d => mr (zu (zu d 400 0 0) 400 24 0)) := by
  intro dc ds hg hR
  obtain ⟨h1, -, -, -, -, -, hO⟩ := id hg
  have e401 : zu (zu ds 400 0 0) 400 24 0 401 = ds 401 := by rw [zu_row (by omega), zu_row (by omega)]
  obtain ⟨c1, s1, m, a1, a2, ⟨o1, o2, ⟨f1, f2⟩, ⟨g1, g2⟩⟩⟩ := h (dc := zu dc 0 11 0) (ds := zu (zu ds 400 0 0) 400 24 0) (by rw [e401]; exact LR_d h1 fun c hc => zu_row (by omega)) (OR_00 hO) zu_eq
  have f1' : ∀ c, c ≠ 0 → c ≠ 25 → c1 c = dc c := fun c q1 q2 => by rw [f1 c q1 q2, zu_row q1]
  have g1' : ∀ c, c ≠ 400 → c ≠ 408 → s1 c = ds c := fun c q1 q2 => by rw [g1 c q1 q2, zu_row q1, zu_row q1]
  refine ⟨_, c1, _, s1, a1, a2, GR_O hg o1 f1' (fun j hj => by rw [f2 j hj, zu_ne (Or.inr hj)]) g1' (fun j j0 j1 => by rw [g2 j j1, zu_ne (Or.inr j1), zu_ne (Or.inr j0)]), fun c hc => f1' c (by omega) (by omega), fun c hc => g1' c (by omega) (by omega), ?_⟩
  rw [g2 0 (by omega), zu_ne (by omega), zu_eq]
  have := o1.2.1
  exact GX_ok rfl (zR_s (by omega) (by omega))
theorem G_printList : GO [] f_X11_printList f_X12_printList := by
  refine G_print (mc := fun d => l_X11_printList_7 zF 0 d) (mr := fun d => l_X12_printList_12 zF 0 d) fun {dc ds} h hO h0 => ?_
  obtain ⟨l2, -⟩ := LR_li h
  obtain ⟨c1, s1, a1, a2, a3⟩ := S_list (ds 401 1).toNat zF zF 0 h (by have := zF_big; omega) (by have := zF_big; omega) (by omega) (by omega) hO (by omega)
  exact ⟨c1, s1, _, a1, a2, a3⟩
theorem LR_sz {dc : zD} {ds : zD} {r x : Int} (h : LR dc 30 (ds 401)) (hr : 0 ≤ r ∧ r < 3) (hx : 0 ≤ x ∧ x < ds 401 0) : ∃ v : Int, (0 ≤ v ∧ v ≤ 40) ∧ f_X4_sizeOf 30 r x dc = some (v, dc) ∧ f_X12_inRowMany x r ds = some (v, ds) := by
  obtain ⟨K, L, hr', hz⟩ := h
  obtain ⟨⟨i1, i2⟩, -, i4, -⟩ := RC_i hr'
  have e2 := e_many2 hr' hr hx
  obtain ⟨-, -, -, -, -, hK, hL, hKL, -⟩ := hr'
  have hKr : K r x = L r x := by
    obtain ⟨k0, k1, k2⟩ := hKL x
    have : r = 0 ∨ r = 1 ∨ r = 2 := by omega
    rcases this with e | e | e <;> subst e
    · exact k0
    · exact k1
    · rw [k2]; rfl
  refine ⟨((K r x).length : Int), ?_, KR_size hK ⟨hr, hx.1, by omega⟩, by rw [hKr]; exact e2⟩
  have := KR_len hK (r := r) (x := x) ⟨hr, hx.1, by omega⟩ i4.2 i4.1
  omega
theorem S_row {x : Int} {R R' : Int → zD → Option (Int × zD)} : ∀ (k q q' : Nat) (r : Int) {dc ds : zD}, LR dc 30 (ds 401) → (0 ≤ x ∧ x < ds 401 0) → k < q → k < q' → 0 ≤ r → r + k = 3 → OR dc ds → ds 400 24 + 3 * k ≤ 160 → ∃ c1 s1, l_X11_printTerminals_77 R q x r dc = R (x + 1) c1 ∧ l_X12_printTerminals_67 R' q' x r ds = R' (x + 1) s1 ∧ WO dc ds c1 s1 (3 * k) := by
  intro k
  induction k with
  | zero =>
    intro q q' r dc ds h hx hq hq' r0 hr hO hs
    obtain ⟨i0, -⟩ := LR_2 h
    obtain ⟨q, rfl⟩ : ∃ q0, q = q0 + 1 := ⟨q - 1, by omega⟩
    obtain ⟨q', rfl⟩ : ∃ q0, q' = q0 + 1 := ⟨q' - 1, by omega⟩
    refine ⟨dc, ds, ?_, ?_, (WO.rf hO).le (by omega)⟩
    · show l_X11_printTerminals_77F _ _ x r dc = _
      unfold l_X11_printTerminals_77F
      rw [if_pos (by omega), zl_n, zw_id (by omega) (by omega)]
    · show l_X12_printTerminals_67F _ _ x r ds = _
      unfold l_X12_printTerminals_67F
      rw [if_pos (by omega), zl_n, zw_id (by omega) (by omega)]
  | succ k ih =>
    intro q q' r dc ds h hx hq hq' r0 hr hO hs
    obtain ⟨i0, -⟩ := LR_2 h
    obtain ⟨q, rfl⟩ : ∃ q0, q = q0 + 1 := ⟨q - 1, by omega⟩
    obtain ⟨q', rfl⟩ : ∃ q0, q' = q0 + 1 := ⟨q' - 1, by omega⟩
    obtain ⟨b, hb, hbc, hbr⟩ : ∃ b : Int, (0 ≤ b ∧ b ≤ 127) ∧ l_X11_printTerminals_77 R (q + 1) x r dc = j_X11_printTerminals_94 R (l_X11_printTerminals_77 R q) x r b dc ∧ l_X12_printTerminals_67 R' (q' + 1) x r ds = j_X12_printTerminals_84 R' (l_X12_printTerminals_67 R' q') x r b ds := by
      by_cases hr0 : r = 0
      · refine ⟨58, by omega, ?_, ?_⟩
        · show l_X11_printTerminals_77F _ _ x r dc = _
          unfold l_X11_printTerminals_77F
          rw [if_neg (by omega), if_pos hr0]
        · show l_X12_printTerminals_67F _ _ x r ds = _
          unfold l_X12_printTerminals_67F
          rw [if_neg (by omega), if_pos hr0]
      · refine ⟨47, by omega, ?_, ?_⟩
        · show l_X11_printTerminals_77F _ _ x r dc = _
          unfold l_X11_printTerminals_77F
          rw [if_neg (by omega), if_neg hr0]
        · show l_X12_printTerminals_67F _ _ x r ds = _
          unfold l_X12_printTerminals_67F
          rw [if_neg (by omega), if_neg hr0]
    obtain ⟨c0, s0, a1, a2, a3⟩ := S_write (v := b) hO (by omega) hb
    have a4 := a3
    obtain ⟨o0, b0, -, g0, -⟩ := a4
    have h0 := a3.lr h
    have e401 : s0 401 = ds 401 := g0 401 (by omega) (by omega)
    obtain ⟨v, v1, v2, v3⟩ := LR_sz (r := r) (x := x) h0 (by omega) (by rw [e401]; exact hx)
    obtain ⟨c1, s1, n1, n2, n3⟩ := S_number (v := v) (by omega) o0 (by omega)
    have n4 := n3
    obtain ⟨o1, b1, -, g1, -⟩ := n4
    have f401 : s1 401 = ds 401 := by rw [g1 401 (by omega) (by omega), e401]
    obtain ⟨c2, s2, m1, m2, m3⟩ := ih q q' (r + 1) (dc := c1) (ds := s1) (n3.lr h0) (by rw [f401]; exact hx) (by omega) (by omega) (by omega) (by omega) o1 (by omega)
    refine ⟨c2, s2, ?_, ?_, ((a3.tr n3).tr m3).le (by omega)⟩
    · rw [hbc]
      unfold j_X11_printTerminals_94
      rw [a1, zc_n, v2, zc_n, n1, zc_n, zl_n, zw_id (by omega) (by omega), m1]
    · rw [hbr]
      unfold j_X12_printTerminals_84
      rw [a2, zc_n, v3, zc_n, n2, zc_n, zl_n, zw_id (by omega) (by omega), m2]
theorem LR_st {dc ds : zD} {x : Int} (h : LR dc 30 (ds 401)) (hx : 0 ≤ x ∧ x < ds 401 0) : dc (30 + 16) x.toNat = rT (ds 401) x 3 ∧ dc (30 + 17) x.toNat = rT (ds 401) x 4 := by
  obtain ⟨K, L, ⟨-, -, hQ, -⟩, -⟩ := h
  have q := hQ x hx.1 hx.2
  exact ⟨q.1, q.2.1⟩
theorem S_terms : ∀ (k q q' : Nat) (x : Int) {dc ds : zD}, LR dc 30 (ds 401) → k < q → k < q' → 0 ≤ x → x + k = ds 401 0 → OR dc ds → ds 400 24 + 18 * k ≤ 160 → ∃ c1 s1, l_X11_printTerminals_7 q x dc = some (s1 400 24, c1) ∧ l_X12_printTerminals_12 q' x ds = some (s1 400 24, s1) ∧ WO dc ds c1 s1 (18 * k) := by
  intro k
  induction k with
  | zero =>
    intro q q' x dc ds h hq hq' x0 hx hO hs
    obtain ⟨q, rfl⟩ : ∃ q0, q = q0 + 1 := ⟨q - 1, by omega⟩
    obtain ⟨q', rfl⟩ : ∃ q0, q' = q0 + 1 := ⟨q' - 1, by omega⟩
    obtain ⟨u1, -⟩ := LR_U h
    refine ⟨dc, ds, ?_, ?_, (WO.rf hO).le (by omega)⟩
    · show l_X11_printTerminals_7F _ x dc = _
      unfold l_X11_printTerminals_7F
      rw [zl_n, u1, if_pos (by omega), zl_n, hO.1]
    · show l_X12_printTerminals_12F _ x ds = _
      unfold l_X12_printTerminals_12F
      rw [e_many, zc_n, if_pos (by omega), zl_n]
  | succ k ih =>
    intro q q' x dc ds h hq hq' x0 hx hO hs
    obtain ⟨q, rfl⟩ : ∃ q0, q = q0 + 1 := ⟨q - 1, by omega⟩
    obtain ⟨q', rfl⟩ : ∃ q0, q' = q0 + 1 := ⟨q' - 1, by omega⟩
    obtain ⟨u1, -⟩ := LR_U h
    obtain ⟨i0, -⟩ := LR_2 h
    have hpre : ∃ c0 s0, WO dc ds c0 s0 1 ∧ l_X11_printTerminals_7 (q + 1) x dc = j_X11_printTerminals_28 (l_X11_printTerminals_7 q) x c0 ∧ l_X12_printTerminals_12 (q' + 1) x ds = j_X12_printTerminals_30 (l_X12_printTerminals_12 q') x s0 := by
      by_cases hi0 : x ≤ 0
      · refine ⟨dc, ds, (WO.rf hO).le (by omega), ?_, ?_⟩
        · show l_X11_printTerminals_7F _ x dc = _
          unfold l_X11_printTerminals_7F
          rw [zl_n, u1, if_neg (by omega), if_pos hi0]
        · show l_X12_printTerminals_12F _ x ds = _
          unfold l_X12_printTerminals_12F
          rw [e_many, zc_n, if_neg (by omega), if_pos hi0]
      · obtain ⟨c1, s1, a1, a2, a3⟩ := S_write (v := 32) hO (by omega) (by omega)
        refine ⟨c1, s1, a3, ?_, ?_⟩
        · show l_X11_printTerminals_7F _ x dc = _
          unfold l_X11_printTerminals_7F
          rw [zl_n, u1, if_neg (by omega), if_neg hi0, a1, zc_n]
        · show l_X12_printTerminals_12F _ x ds = _
          unfold l_X12_printTerminals_12F
          rw [e_many, zc_n, if_neg (by omega), if_neg hi0, a2, zc_n]
    obtain ⟨c0, s0, w0, p1, p2⟩ := hpre
    have w0' := w0
    obtain ⟨o0, b0, -, g0, -⟩ := w0'
    have h0 := w0.lr h
    have e401 : s0 401 = ds 401 := g0 401 (by omega) (by omega)
    obtain ⟨c1, s1, a1, a2, a3⟩ := S_name (x := x) h0 (by rw [e401]; omega) o0 (by omega)
    have w1 := w0.tr a3
    have w1' := w1
    obtain ⟨o1, b1, -, g1, -⟩ := w1'
    have h1 := w1.lr h
    have f401 : s1 401 = ds 401 := g1 401 (by omega) (by omega)
    -- the dash
    obtain ⟨t3, t4⟩ := LR_st (x := x) h1 (by rw [f401]; omega)
    obtain ⟨c2, s2, w2, p3, p4⟩ : ∃ c2 s2, WO dc ds c2 s2 8 ∧ j_X11_printTerminals_28 (l_X11_printTerminals_7 q) x c0 = j_X11_printTerminals_54 (l_X11_printTerminals_7 q) x c2 ∧ j_X12_printTerminals_30 (l_X12_printTerminals_12 q') x s0 = j_X12_printTerminals_50 (l_X12_printTerminals_12 q') x s2 := by
      by_cases hd : rT (s1 401) x 4 = 0
      · obtain ⟨c2, s2, e1, e2, e3⟩ := S_write (v := 45) o1 (by omega) (by omega)
        refine ⟨c2, s2, (w1.tr e3).le (by omega), ?_, ?_⟩
        · unfold j_X11_printTerminals_28
          rw [a1, zc_n, zg_t (by omega), zl_n, t4, if_pos hd, e1, zc_n]
        · unfold j_X12_printTerminals_30
          rw [a2, zc_n, e_of (by omega) (by omega), zc_n, if_pos hd, e2, zc_n]
      · refine ⟨c1, s1, w1.le (by omega), ?_, ?_⟩
        · unfold j_X11_printTerminals_28
          rw [a1, zc_n, zg_t (by omega), zl_n, t4, if_neg hd]
        · unfold j_X12_printTerminals_30
          rw [a2, zc_n, e_of (by omega) (by omega), zc_n, if_neg hd]
    have w2' := w2
    obtain ⟨o2, b2, -, g2, -⟩ := w2'
    have h2 := w2.lr h
    have k401 : s2 401 = ds 401 := g2 401 (by omega) (by omega)
    obtain ⟨t3, t4⟩ := LR_st (x := x) h2 (by rw [k401]; omega)
    obtain ⟨c3, s3, w3, p5, p6⟩ : ∃ c3 s3, WO dc ds c3 s3 9 ∧ j_X11_printTerminals_54 (l_X11_printTerminals_7 q) x c2 = l_X11_printTerminals_77 (l_X11_printTerminals_7 q) zF x 0 c3 ∧ j_X12_printTerminals_50 (l_X12_printTerminals_12 q') x s2 = l_X12_printTerminals_67 (l_X12_printTerminals_12 q') zF x 0 s3 := by
      by_cases hd : rT (s2 401) x 3 = 0
      · obtain ⟨c3, s3, e1, e2, e3⟩ := S_write (v := 120) o2 (by omega) (by omega)
        refine ⟨c3, s3, (w2.tr e3).le (by omega), ?_, ?_⟩
        · unfold j_X11_printTerminals_54
          rw [zg_t (by omega), zl_n, t3, if_pos hd, e1, zc_n]
        · unfold j_X12_printTerminals_50
          rw [e_of (by omega) (by omega), zc_n, if_pos hd, e2, zc_n]
      · refine ⟨c2, s2, w2.le (by omega), ?_, ?_⟩
        · unfold j_X11_printTerminals_54
          rw [zg_t (by omega), zl_n, t3, if_neg hd]
        · unfold j_X12_printTerminals_50
          rw [e_of (by omega) (by omega), zc_n, if_neg hd]
    have w3' := w3
    obtain ⟨o3, b3, -, g3, -⟩ := w3'
    have h3 := w3.lr h
    have l401 : s3 401 = ds 401 := g3 401 (by omega) (by omega)
    obtain ⟨c4, s4, r1, r2, r3⟩ := S_row (x := x) (R := l_X11_printTerminals_7 q) (R' := l_X12_printTerminals_12 q') 3 zF zF 0 h3 (by rw [l401]; omega) (by have := zF_big; omega) (by have := zF_big; omega) (by omega) (by omega) o3 (by omega)
    have w4 := w3.tr r3
    have w4' := w4
    obtain ⟨o4, b4, -, g4, -⟩ := w4'
    have m401 : s4 401 = ds 401 := g4 401 (by omega) (by omega)
    obtain ⟨c5, s5, m1, m2, m3⟩ := ih q q' (x + 1) (w4.lr h) (by omega) (by omega) (by omega) (by rw [m401]; omega) o4 (by omega)
    exact ⟨c5, s5, by rw [p1, p3, p5, r1, m1], by rw [p2, p4, p6, r2, m2], (w4.tr m3).le (by omega)⟩
theorem G_printTerminals : GO [] f_X11_printTerminals f_X12_printTerminals := by
  refine G_print (mc := fun d => l_X11_printTerminals_7 zF 0 d) (mr := fun d => l_X12_printTerminals_12 zF 0 d) fun {dc ds} h hO h0 => ?_
  obtain ⟨i0, -⟩ := LR_2 h
  obtain ⟨c1, s1, a1, a2, a3⟩ := S_terms (ds 401 0).toNat zF zF 0 h (by have := zF_big; omega) (by have := zF_big; omega) (by omega) (by omega) hO (by omega)
  exact ⟨c1, s1, _, a1, a2, a3⟩
