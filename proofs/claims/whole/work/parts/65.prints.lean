/-! What is printed, and the letters of names. -/
theorem e_cl {x i : Int} {d : zD} (hx : 0 ≤ x ∧ x < d 1 0) (h8 : d 1 0 ≤ 8) : f_X6_letterOf 1 x i d = some (if 0 ≤ i ∧ i < 6 then zlt (d 2 x.toNat) i else 0, d) := by
  unfold f_X6_letterOf
  rw [e_has6, zc_n, if_pos hx, if_neg (show ¬ (1 : Int) = 0 by decide)]
  by_cases h0 : i < 0
  · rw [if_pos h0, if_neg (by omega)]
  · rw [if_neg h0]
    by_cases h6 : i < 6
    · rw [if_pos h6, if_pos (by omega), zg_t (by omega), zl_n, zl_n, zw_id (by omega) (by omega), zl_n, zl_n]
      rfl
    · rw [if_neg h6, if_neg (by omega)]
theorem e_rl {a c n i : Int} {f : Int → Int} {d : zD} (h : NF a c n f) : f_X12_letterOf c i d = some (if 0 ≤ i ∧ i < n then f i else 0, d) := by
  obtain ⟨h1, -, -, h4, h5⟩ := h
  unfold f_X12_letterOf
  rw [h4, zc_n, zl_n, zw_id (by omega) (by omega), e_isIn, zc_n]
  by_cases hi : 0 ≤ i ∧ i ≤ n - 1
  · rw [if_pos hi, if_neg (show ¬ (1 : Int) = 0 by decide), if_pos (show 0 ≤ i ∧ i < n by omega), zl_n, zl_n, zw_id (x := n - 1 - i) (by omega) (by omega), zl_n, zw_id (by omega) (by omega), zl_n, zl_n, ← h5 i hi.1 (by omega)]
    rfl
  · rw [if_neg hi, if_pos (show (0 : Int) = 0 from rfl), if_neg (show ¬ (0 ≤ i ∧ i < n) by omega)]
theorem LR_U {d : zD} {s : Nat → Int} (h : LR d 30 s) : d 1 0 = s 0 ∧ ∀ x, 0 ≤ x → x < s 0 → nmr (d 2 x.toNat) (rT s x 15) := by
  obtain ⟨K, L, ⟨-, -, -, -, -, -, -, -, -, -, -, -, -, -, hU, -⟩, -⟩ := h
  exact ⟨hU.1, fun x x0 x1 => (hU.2 x x0 x1).2.2.2⟩
theorem G_nameLetter (x i : Int) : GO [1] (f_X11_nameLetter x i) (f_X12_nameLetter x i) := by
  intro dc ds hg hR
  obtain ⟨i0, -⟩ := LR_2 hg.1
  obtain ⟨u1, u2⟩ := LR_U hg.1
  by_cases hx : 0 ≤ x ∧ x < ds 401 0
  · obtain ⟨n, f, hN⟩ := NF_of (u2 x hx.1 hx.2)
    have hN2 := hN
    obtain ⟨n1, n2, n3, n4, n5⟩ := hN2
    refine GO_q hg (v := if 0 ≤ i ∧ i < 6 then zlt (dc 2 x.toNat) i else 0) (v' := if 0 ≤ i ∧ i < n then f i else 0) (t := 0) ?_ ?_ ?_
    · unfold f_X11_nameLetter
      rw [e_has6, zc_n, if_pos (show 0 ≤ x ∧ x < dc 1 0 by omega), if_neg (show ¬ (1 : Int) = 0 by decide), e_cl (by omega) (by omega), zc_n]
    · unfold f_X12_nameLetter
      rw [e_isTerminal (by omega), zc_n, if_pos hx, e_may11, zc_n, if_neg (show ¬ (1 : Int) = 0 by decide), e_of (by omega) (by omega), zc_n, zu_row (by omega), e_rl hN, zc_n]
    · by_cases h6 : 0 ≤ i ∧ i < 6
      · rw [if_pos h6]
        by_cases hi : i < n
        · rw [if_pos ⟨h6.1, hi⟩, n3 i h6.1 h6.2, if_pos hi]
          have := n2 i h6.1 hi
          exact GX_ok rfl (zR_s (by omega) (by omega))
        · rw [if_neg (by omega), n3 i h6.1 h6.2, if_neg hi]
          exact GX_ok rfl (zR_s (by omega) (by omega))
      · rw [if_neg h6, if_neg (by omega)]
        exact GX_ok rfl (zR_s (by omega) (by omega))
  · refine G_noT hg ?_ ?_ rfl
    · unfold f_X11_nameLetter
      rw [e_has6, zc_n, if_neg (show ¬ (0 ≤ x ∧ x < dc 1 0) by omega), if_pos rfl]
    · unfold f_X12_nameLetter
      rw [e_isTerminal (by omega), zc_n, if_neg hx, e_may0, zc_n, if_pos (show (0 : Int) = 0 from rfl)]
def Fo (d d' : zD) : Prop := (∀ c, c ≠ 0 → c ≠ 25 → d' c = d c) ∧ ∀ j, j ≠ 11 → d' 0 j = d 0 j
def Fp (d d' : zD) : Prop := (∀ c, c ≠ 400 → c ≠ 408 → d' c = d c) ∧ ∀ j, j ≠ 24 → d' 400 j = d 400 j
def WO (dc ds dc' ds' : zD) (m : Int) : Prop := OR dc' ds' ∧ ds' 400 24 ≤ ds 400 24 + m ∧ Fo dc dc' ∧ Fp ds ds'
theorem WO.tr {a b c d e f : zD} {m n : Int} (h : WO a b c d m) (q : WO c d e f n) : WO a b e f (m + n) := by
  obtain ⟨-, h2, ⟨h3, h4⟩, h5, h6⟩ := h
  obtain ⟨q1, q2, ⟨q3, q4⟩, q5, q6⟩ := q
  exact ⟨q1, by omega, ⟨fun k k1 k2 => (q3 k k1 k2).trans (h3 k k1 k2), fun j j1 => (q4 j j1).trans (h4 j j1)⟩, fun k k1 k2 => (q5 k k1 k2).trans (h5 k k1 k2), fun j j1 => (q6 j j1).trans (h6 j j1)⟩
theorem WO.le {a b c d : zD} {m n : Int} (h : WO a b c d m) (q : m ≤ n) : WO a b c d n := by
  obtain ⟨h1, h2, h3⟩ := h
  exact ⟨h1, by omega, h3⟩
theorem WO.rf {a b : zD} (h : OR a b) : WO a b a b 0 := ⟨h, by omega, ⟨fun _ _ _ => rfl, fun _ _ => rfl⟩, fun _ _ _ => rfl, fun _ _ => rfl⟩
theorem WO.lr {a b c d : zD} {m : Int} (h : WO a b c d m) (q : LR a 30 (b 401)) : LR c 30 (d 401) := by
  obtain ⟨-, -, ⟨h3, -⟩, h5, -⟩ := h
  rw [h5 401 (by omega) (by omega)]
  exact LR_d q fun k hk => h3 k (by omega) (by omega)
theorem GR_O {dc ds dc' ds' : zD} (h : GR dc ds) (hi : OR dc' ds') (e1 : ∀ c, c ≠ 0 → c ≠ 25 → dc' c = dc c) (e2 : ∀ j, j ≠ 11 → dc' 0 j = dc 0 j) (o1 : ∀ c, c ≠ 400 → c ≠ 408 → ds' c = ds c) (o2 : ∀ j, j ≠ 0 → j ≠ 24 → ds' 400 j = ds 400 j) : GR dc' ds' := by
  obtain ⟨h1, h2, ⟨a1, a2, a3, a4⟩, ⟨b1, b2, b3⟩, ⟨c1, c2, c3⟩, ⟨f1, f2⟩, -⟩ := h
  have ep : ∀ i, pst ds' i = pst ds i := fun i => by
    unfold pst
    rw [o1 404 (by omega) (by omega)]
  unfold GR HR SR ER IR
  rw [o1 401 (by omega) (by omega), o1 403 (by omega) (by omega), o1 405 (by omega) (by omega), e1 8 (by omega) (by omega), e1 10 (by omega) (by omega), e1 11 (by omega) (by omega), e2 12 (by omega), o2 5 (by omega) (by omega), o2 6 (by omega) (by omega), o2 11 (by omega) (by omega), o2 12 (by omega) (by omega), o2 13 (by omega) (by omega)]
  exact ⟨LR_d h1 fun c hc => e1 c (by omega) (by omega), h2, ⟨a1, a2, a3, fun i hi => by rw [ep]; exact ⟨LR_d (a4 i hi).1 fun c hc => e1 c (by omega) (by omega), (a4 i hi).2⟩⟩, ⟨b1, b2, fun q => ⟨LR_d (b3 q).1 fun c hc => e1 c (by omega) (by omega), (b3 q).2⟩⟩, ⟨c1, c2, c3⟩, ⟨f1, f2⟩, hi⟩
theorem S_write {dc ds : zD} {v : Int} (h : OR dc ds) (hn : ds 400 24 < 160) (hv : 0 ≤ v ∧ v ≤ 127) : ∃ c1 s1, f_X11_writeByte v dc = some (0, c1) ∧ f_X12_writes v ds = some (0, s1) ∧ WO dc ds c1 s1 1 := by
  obtain ⟨h1, h2, h3⟩ := h
  refine ⟨zu (zu dc 25 (ds 400 24).toNat v) 0 11 (ds 400 24 + 1), zu (zu ds 408 (ds 400 24).toNat v) 400 24 (ds 400 24 + 1), ?_, ?_, ⟨by rw [zu_eq, zu_eq], by rw [zu_eq]; omega, fun j j0 j1 => ?_⟩, by rw [zu_eq]; omega, ⟨fun c c1 c2 => by rw [zu_row c1, zu_row c2], fun j hj => by rw [zu_ne (Or.inr hj), zu_row (by omega)]⟩, fun c c1 c2 => by rw [zu_row c1, zu_row c2], fun j hj => by rw [zu_ne (Or.inr hj), zu_row (by omega)]⟩
  · unfold f_X11_writeByte
    rw [zl_n, h1, if_neg (by omega), zl_n, zg_t (by omega), zl_n, zl_n, zu_ne (by omega), h1, zl_n, zw_id (by omega) (by omega), zl_n]
  · unfold f_X12_writes
    rw [zl_n, zl_n, zb8_s hv, zg_t (by omega), zl_n, zb8_s hv, zl_n, zu_ne (by omega), zl_n, zw_id (by omega) (by omega), zl_n]
  · rw [zu_eq] at j1
    have r1 : zu (zu dc 25 (ds 400 24).toNat v) 0 11 (ds 400 24 + 1) 25 = zu dc 25 (ds 400 24).toNat v 25 := zu_row (by omega)
    have r2 : zu (zu ds 408 (ds 400 24).toNat v) 400 24 (ds 400 24 + 1) 408 = zu ds 408 (ds 400 24).toNat v 408 := zu_row (by omega)
    rw [r1, r2]
    by_cases e : j = ds 400 24
    · subst e
      rw [zu_eq, zu_eq]
    · rw [zu_ne (by omega), zu_ne (by omega)]
      exact h3 j j0 (by omega)
theorem S_tail {dc : zD} {x n c : Int} {f : Int → Int} (hx : 0 ≤ x ∧ x < dc 1 0) (h8 : dc 1 0 ≤ 8) (hN : NF (dc 2 x.toNat) c n f) : ∀ (k q : Nat) (i : Int), k < q → i + k = 6 → n ≤ i → l_X11_writeName_2 q x i dc = some (0, dc) := by
  obtain ⟨n1, n2, n3, n4, n5⟩ := hN
  intro k
  induction k with
  | zero =>
    intro q i hq hi hn
    obtain ⟨q, rfl⟩ : ∃ q0, q = q0 + 1 := ⟨q - 1, by omega⟩
    show l_X11_writeName_2F _ x i dc = _
    unfold l_X11_writeName_2F
    rw [if_pos (by omega)]
  | succ k ih =>
    intro q i hq hi hn
    obtain ⟨q, rfl⟩ : ∃ q0, q = q0 + 1 := ⟨q - 1, by omega⟩
    show l_X11_writeName_2F _ x i dc = _
    unfold l_X11_writeName_2F
    rw [if_neg (by omega), e_cl hx h8, zc_n, if_pos (show 0 ≤ i ∧ i < 6 by omega), n3 i (by omega) (by omega), if_neg (show ¬ i < n by omega), if_pos (show (0 : Int) ≤ 0 by omega), zl_n, zw_id (by omega) (by omega)]
    exact ih q (i + 1) (by omega) (by omega) (by omega)
theorem S_head {x n c a : Int} {f : Int → Int} (hN : NF a c n f) : ∀ (k q q' : Nat) (i : Int) {dc ds : zD}, (0 ≤ x ∧ x < dc 1 0) → dc 1 0 ≤ 8 → dc 2 x.toNat = a → k < q' → 6 < q + i → 0 ≤ i → i + k = n → OR dc ds → ds 400 24 + k ≤ 160 → ∃ c1 s1, l_X11_writeName_2 q x i dc = some (0, c1) ∧ l_X12_writesName_10 q' c i ds = some (0, s1) ∧ WO dc ds c1 s1 k := by
  have hN2 := hN
  obtain ⟨n1, n2, n3, n4, n5⟩ := hN2
  intro k
  induction k with
  | zero =>
    intro q q' i dc ds hx h8 ha hq' hq i0 hi hO hs
    obtain ⟨q', rfl⟩ : ∃ q0, q' = q0 + 1 := ⟨q' - 1, by omega⟩
    refine ⟨dc, ds, S_tail hx h8 (by rw [ha]; exact hN) (6 - i).toNat q i (by omega) (by omega) (by omega), ?_, WO.rf hO⟩
    show l_X12_writesName_10F _ c i ds = _
    unfold l_X12_writesName_10F
    rw [n4, zc_n, if_pos (by omega)]
  | succ k ih =>
    intro q q' i dc ds hx h8 ha hq' hq i0 hi hO hs
    obtain ⟨q', rfl⟩ : ∃ q0, q' = q0 + 1 := ⟨q' - 1, by omega⟩
    obtain ⟨q, rfl⟩ : ∃ q0, q = q0 + 1 := ⟨q - 1, by omega⟩
    have hf := n2 i i0 (by omega)
    obtain ⟨c1, s1, a1, a2, a3⟩ := S_write (v := 97 + f i - 1) hO (by omega) (by omega)
    have a4 := a3
    obtain ⟨b1, b2, ⟨b3, -⟩, -⟩ := a4
    obtain ⟨c2, s2, e1, e2, e3⟩ := ih q q' (i + 1) (dc := c1) (ds := s1) (by rw [b3 1 (by omega) (by omega)]; exact hx) (by rw [b3 1 (by omega) (by omega)]; exact h8) (by rw [b3 2 (by omega) (by omega)]; exact ha) (by omega) (by omega) (by omega) (by omega) b1 (by omega)
    refine ⟨c2, s2, ?_, ?_, (a3.tr e3).le (by omega)⟩
    · show l_X11_writeName_2F _ x i dc = _
      unfold l_X11_writeName_2F
      rw [if_neg (by omega), e_cl hx h8, zc_n, if_pos (show 0 ≤ i ∧ i < 6 by omega), ha, n3 i i0 (by omega), if_pos (show i < n by omega), if_neg (by omega), zl_n, zw_id (x := 97 + f i) (by omega) (by omega), zl_n, zw_id (by omega) (by omega), a1, zc_n, zl_n, zw_id (by omega) (by omega)]
      exact e1
    · show l_X12_writesName_10F _ c i ds = _
      unfold l_X12_writesName_10F
      rw [n4, zc_n, if_neg (by omega), e_rl hN, zc_n, if_pos (show 0 ≤ i ∧ i < n by omega), zl_n, zw_id (x := 97 + f i) (by omega) (by omega), zl_n, zw_id (by omega) (by omega), a2, zc_n, zl_n, zw_id (by omega) (by omega)]
      exact e2
theorem S_name {dc ds : zD} {x : Int} (h : LR dc 30 (ds 401)) (hx : 0 ≤ x ∧ x < ds 401 0) (hO : OR dc ds) (hs : ds 400 24 ≤ 154) : ∃ c1 s1, f_X11_writeName x dc = some (0, c1) ∧ f_X12_writesName x ds = some (0, s1) ∧ WO dc ds c1 s1 6 := by
  obtain ⟨i0, -⟩ := LR_2 h
  obtain ⟨u1, u2⟩ := LR_U h
  obtain ⟨n, f, hN⟩ := NF_of (u2 x hx.1 hx.2)
  have n1 := hN.1
  obtain ⟨c1, s1, a1, a2, a3⟩ := S_head (x := x) hN n.toNat zF zF 0 (dc := dc) (ds := ds) (by omega) (by omega) rfl (by have := zF_big; omega) (by have := zF_big; omega) (by omega) (by omega) hO (by omega)
  refine ⟨c1, s1, a1, ?_, a3.le (by omega)⟩
  unfold f_X12_writesName
  rw [e_of (by omega) (by omega), zc_n]
  exact a2
theorem S_digit {dc ds : zD} {v : Int} (hv : 0 ≤ v ∧ v ≤ 99) (hO : OR dc ds) (hs : ds 400 24 ≤ 159) : ∃ c1 s1, j_X11_writeNumber_17 v dc = some (0, c1) ∧ j_X12_writesNumber_14 v ds = some (0, s1) ∧ WO dc ds c1 s1 1 := by
  obtain ⟨c1, s1, a1, a2, a3⟩ := S_write (v := 48 + v % 10) hO (by omega) (by omega)
  have hrem := zrem_of v 10 (by omega) (by omega) (by omega) (by omega)
  have hn : ∀ {β : Type} {x : Option β}, zn 10 x = x := fun {β x} => zn_t (by decide)
  refine ⟨c1, s1, ?_, ?_, a3⟩
  · unfold j_X11_writeNumber_17
    rw [hn, zl_n, hrem, zl_n, zw_id (by omega) (by omega), a1, zc_n]
  · unfold j_X12_writesNumber_14
    rw [hn, zl_n, hrem, zl_n, zw_id (by omega) (by omega), a2, zc_n]
theorem zdiv_10 {x : Int} (h : 0 ≤ x ∧ x ≤ 99) : zdiv x 10 = x / 10 := by
  unfold zdiv
  rw [Int32.toInt_div, zI_toInt ⟨by omega, by omega⟩, zI_toInt ⟨by omega, by omega⟩, Int.tdiv_eq_ediv_of_nonneg h.1]
  exact Int.bmod_eq_of_le (by omega) (by omega)
theorem S_number {dc ds : zD} {v : Int} (hv : 0 ≤ v ∧ v ≤ 99) (hO : OR dc ds) (hs : ds 400 24 ≤ 158) : ∃ c1 s1, f_X11_writeNumber v dc = some (0, c1) ∧ f_X12_writesNumber v ds = some (0, s1) ∧ WO dc ds c1 s1 2 := by
  have hn : ∀ {β : Type} {x : Option β}, zn 10 x = x := fun {β x} => zn_t (by decide)
  by_cases h : v < 10
  · obtain ⟨c1, s1, a1, a2, a3⟩ := S_digit hv hO (by omega)
    refine ⟨c1, s1, ?_, ?_, a3.le (by omega)⟩
    · unfold f_X11_writeNumber
      rw [if_pos h, a1]
    · unfold f_X12_writesNumber f_X12_writesNumberR
      rw [if_pos (by omega), a2]
  · obtain ⟨c1, s1, a1, a2, a3⟩ := S_digit (v := v / 10) (by omega) hO (by omega)
    have a4 := a3
    obtain ⟨b1, b2, -⟩ := a4
    obtain ⟨c2, s2, e1, e2, e3⟩ := S_digit hv b1 (by omega)
    refine ⟨c2, s2, ?_, ?_, (a3.tr e3).le (by omega)⟩
    · unfold j_X11_writeNumber_17 at a1
      rw [hn, zl_n, zrem_of (v / 10) 10 (by omega) (by omega) (by omega) (by omega), show v / 10 % 10 = v / 10 by omega, zl_n, zw_id (by omega) (by omega)] at a1
      unfold f_X11_writeNumber
      rw [if_neg h, hn, zl_n, zdiv_10 hv, zl_n, zw_id (by omega) (by omega)]
      cases hw : f_X11_writeByte (48 + v / 10) dc with
      | none => rw [hw] at a1; cases a1
      | some p =>
        rw [hw, zc_n] at a1
        obtain ⟨p1, p2⟩ := p
        have e : p2 = c1 := by injection a1 with a1; injection a1
        rw [zc_n]
        show j_X11_writeNumber_17 v p2 = _
        rw [e, e1]
    · unfold f_X12_writesNumber f_X12_writesNumberR
      rw [if_neg (by omega), hn, zl_n, zdiv_10 hv]
      unfold f_X12_writesNumberR
      rw [if_pos (by omega), a2, zc_n, e2]
theorem LR_l1 {d : zD} {s : Nat → Int} (h : LR d 30 s) : d 30 8 = s 1 := by
  obtain ⟨K, L, ⟨⟨h1, -⟩, -⟩, -⟩ := h
  exact h1
theorem LR_li {d : zD} {s : Nat → Int} (h : LR d 30 s) : (0 ≤ s 1 ∧ s 1 ≤ 16) ∧ ∀ i, 0 ≤ i → i < s 1 → d (30 + 29) i.toNat = s (30 + i).toNat ∧ 0 ≤ s (30 + i).toNat ∧ s (30 + i).toNat < s 0 := by
  obtain ⟨K, L, ⟨-, ⟨-, -, hA⟩, -, -, -, -, -, -, -, -, hI, hIL, -⟩, -⟩ := h
  exact ⟨hI.2.1, fun i i0 i1 => ⟨hA i i0 i1, hIL i i0 i1⟩⟩
theorem S_list : ∀ (k q q' : Nat) (i : Int) {dc ds : zD}, LR dc 30 (ds 401) → k < q → k < q' → 0 ≤ i → i + k = ds 401 1 → OR dc ds → ds 400 24 + 7 * k ≤ 160 → ∃ c1 s1, l_X11_printList_7 q i dc = some (s1 400 24, c1) ∧ l_X12_printList_12 q' i ds = some (s1 400 24, s1) ∧ WO dc ds c1 s1 (7 * k) := by
  intro k
  induction k with
  | zero =>
    intro q q' i dc ds h hq hq' i0 hi hO hs
    obtain ⟨q, rfl⟩ : ∃ q0, q = q0 + 1 := ⟨q - 1, by omega⟩
    obtain ⟨q', rfl⟩ : ∃ q0, q' = q0 + 1 := ⟨q' - 1, by omega⟩
    have l1 := LR_l1 h
    refine ⟨dc, ds, ?_, ?_, (WO.rf hO).le (by omega)⟩
    · show l_X11_printList_7F _ i dc = _
      unfold l_X11_printList_7F
      rw [zl_n, l1, if_pos (by omega), zl_n, hO.1]
    · show l_X12_printList_12F _ i ds = _
      unfold l_X12_printList_12F
      rw [zg_t (by omega), zl_n, show (1 : Int).toNat = 1 from rfl, if_pos (by omega), zl_n]
  | succ k ih =>
    intro q q' i dc ds h hq hq' i0 hi hO hs
    obtain ⟨q, rfl⟩ : ∃ q0, q = q0 + 1 := ⟨q - 1, by omega⟩
    obtain ⟨q', rfl⟩ : ∃ q0, q' = q0 + 1 := ⟨q' - 1, by omega⟩
    have l1 := LR_l1 h
    obtain ⟨l2, l3⟩ := LR_li h
    obtain ⟨e29, x0, x1⟩ := l3 i i0 (by omega)
    have hpre : ∃ c0 s0, WO dc ds c0 s0 1 ∧ l_X11_printList_7 (q + 1) i dc = j_X11_printList_28 (l_X11_printList_7 q) i c0 ∧ l_X12_printList_12 (q' + 1) i ds = j_X12_printList_32 (l_X12_printList_12 q') i s0 := by
      by_cases hi0 : i ≤ 0
      · refine ⟨dc, ds, (WO.rf hO).le (by omega), ?_, ?_⟩
        · show l_X11_printList_7F _ i dc = _
          unfold l_X11_printList_7F
          rw [zl_n, l1, if_neg (by omega), if_pos hi0]
        · show l_X12_printList_12F _ i ds = _
          unfold l_X12_printList_12F
          rw [zg_t (by omega), zl_n, show (1 : Int).toNat = 1 from rfl, if_neg (by omega), if_pos hi0]
      · obtain ⟨c1, s1, a1, a2, a3⟩ := S_write (v := 32) hO (by omega) (by omega)
        refine ⟨c1, s1, a3, ?_, ?_⟩
        · show l_X11_printList_7F _ i dc = _
          unfold l_X11_printList_7F
          rw [zl_n, l1, if_neg (by omega), if_neg hi0, a1, zc_n]
        · show l_X12_printList_12F _ i ds = _
          unfold l_X12_printList_12F
          rw [zg_t (by omega), zl_n, show (1 : Int).toNat = 1 from rfl, if_neg (by omega), if_neg hi0, a2, zc_n]
    obtain ⟨c0, s0, w0, p1, p2⟩ := hpre
    have w0' := w0
    obtain ⟨o0, b0, ⟨f0, -⟩, g0, -⟩ := w0'
    have h0 := w0.lr h
    have e401 : s0 401 = ds 401 := g0 401 (by omega) (by omega)
    obtain ⟨c1, s1, a1, a2, a3⟩ := S_name (x := ds 401 (30 + i).toNat) h0 (by rw [e401]; exact ⟨x0, x1⟩) o0 (by omega)
    have a4 := a3
    obtain ⟨o1, b1, ⟨f1, -⟩, g1, -⟩ := a4
    have f401 : s1 401 = ds 401 := by rw [g1 401 (by omega) (by omega), e401]
    obtain ⟨c2, s2, m1, m2, m3⟩ := ih q q' (i + 1) (dc := c1) (ds := s1) (a3.lr h0) (by omega) (by omega) (by omega) (by rw [f401]; omega) o1 (by omega)
    refine ⟨c2, s2, ?_, ?_, ((w0.tr a3).tr m3).le (by omega)⟩
    · rw [p1]
      unfold j_X11_printList_28
      rw [zg_t (by omega), zl_n, f0 (30 + 29) (by omega) (by omega), e29, a1, zc_n, zl_n, zw_id (by omega) (by omega), m1]
    · rw [p2]
      unfold j_X12_printList_32
      rw [zl_n, zw_id (x := 30 + i) (by omega) (by omega), zg_t (by omega), zl_n, e401, a2, zc_n, zl_n, zw_id (by omega) (by omega), m2]
