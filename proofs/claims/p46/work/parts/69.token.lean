/-! What is asked of a token: is it this word, a name, a number; what fails. -/
theorem z_shl5 {x : Int} (h : 0 ≤ x ∧ x < 33554432) : zshl x 5 = 32 * x := by
  show (((zI x).toBitVec <<< ((zI 5 &&& 31).toBitVec.smod 32))).toInt = _
  have e5 : ((zI 5 &&& 31).toBitVec.smod 32).toNat = 5 := by decide
  have e : ((BitVec.ofInt 32 x) <<< (5 : Nat)).toNat = (32 * x).toNat := by
    rw [BitVec.toNat_shiftLeft, Nat.shiftLeft_eq]
    have := z_bn x
    omega
  rw [BitVec.shiftLeft_eq', e5, z_bv, BitVec.toInt_eq_toNat_of_lt (by rw [e]; omega), e]
  omega
theorem z_or5 {x y : Int} (h : 0 ≤ x ∧ x < 33554432) (hy : 0 ≤ y ∧ y < 32) : zor (32 * x) y = 32 * x + y := by
  show ((zI (32 * x) ||| zI y).toBitVec).toInt = _
  have e : ((zI (32 * x) ||| zI y).toBitVec).toNat = (32 * x + y).toNat := by
    show (BitVec.ofInt 32 (32 * x)).toNat ||| (BitVec.ofInt 32 y).toNat = _
    have h1 := z_bn (32 * x)
    have h2 := z_bn y
    have e1 : (BitVec.ofInt 32 (32 * x)).toNat = x.toNat <<< 5 := by rw [Nat.shiftLeft_eq]; omega
    have e2 : (BitVec.ofInt 32 y).toNat = y.toNat := by omega
    rw [e1, e2, ← Nat.shiftLeft_add_eq_or_of_lt (by omega : y.toNat < 2 ^ 5), Nat.shiftLeft_eq]
    omega
  rw [BitVec.toInt_eq_toNat_of_lt (by rw [e]; omega), e]
  omega
def FT2 (d d' : zD) : Prop := (∀ c, c ≠ 10 → d' c = d c) ∧ ∀ j, j < 2 ∨ 6 < j → d' 10 j = d 10 j
def FS2 (d d' : zD) : Prop := (∀ c, c ≠ 400 → d' c = d c) ∧ ∀ j, j < 12 ∨ 18 < j → d' 400 j = d 400 j
theorem FT2.tr {a b c : zD} (h : FT2 a b) (q : FT2 b c) : FT2 a c := ⟨fun k k1 => (q.1 k k1).trans (h.1 k k1), fun j j1 => (q.2 j j1).trans (h.2 j j1)⟩
theorem FS2.tr {a b c : zD} (h : FS2 a b) (q : FS2 b c) : FS2 a c := ⟨fun k k1 => (q.1 k k1).trans (h.1 k k1), fun j j1 => (q.2 j j1).trans (h.2 j j1)⟩
theorem FT2.rf {a : zD} : FT2 a a := ⟨fun _ _ => rfl, fun _ _ => rfl⟩
theorem FS2.rf {a : zD} : FS2 a a := ⟨fun _ _ => rfl, fun _ _ => rfl⟩
theorem FT2.u {a : zD} {i : Nat} {v : Int} (h : 2 ≤ i ∧ i ≤ 6) : FT2 a (zu a 10 i v) := ⟨fun k k1 => zu_row k1, fun j j1 => zu_ne (by omega)⟩
theorem FS2.u {a : zD} {i : Nat} {v : Int} (h : 12 ≤ i ∧ i ≤ 18) : FS2 a (zu a 400 i v) := ⟨fun k k1 => zu_row k1, fun j j1 => zu_ne (by omega)⟩
theorem FT.two {a b : zD} (h : FT a b) : FT2 a b := ⟨h.1, fun j hj => h.2 j (by omega) (by omega) (by omega)⟩
theorem FS.two {a b : zD} (h : FS a b) : FS2 a b := ⟨h.1, fun j hj => h.2 j (by omega)⟩
def PG (B : Int → Int) (n : Int) (dc ds : zD) : Prop := TZ B n dc ds ∧ (dc 10 5 = 0 ∧ dc 10 6 = -1) ∧ ds 400 12 = 0 ∧ ds 400 13 = -1
def PB (dc ds : zD) : Prop := dc 10 5 = ds 400 12 ∧ dc 10 6 = ds 400 13 ∧ ds 400 12 ≠ 0
/-- the reference stands in an error -/
def BD (d : zD) : Prop := d 400 12 ≠ 0
theorem e_good {d : zD} (h : d 400 12 = 0) : f_X12_isGood d = some (1, d) := by
  unfold f_X12_isGood
  rw [zl_n, if_pos h]
theorem e_bad {d : zD} (h : BD d) : f_X12_isGood d = some (0, d) := by
  unfold f_X12_isGood
  rw [zl_n, if_neg h]
section K
variable {B : Int → Int} {n : Int}
theorem P_adv {dc ds : zD} (h : PG B n dc ds) : ∃ dc1 ds1, f_X9_advance dc = some (0, dc1) ∧ f_X12_goesOn ds = some (0, ds1) ∧ PG B n dc1 ds1 ∧ FT2 dc dc1 ∧ FS2 ds ds1 := by
  obtain ⟨⟨hT, t, p, ⟨k1, k2, k3, k4⟩, kk, p0, p1, p2⟩, g1, g2, g3⟩ := h
  obtain ⟨dc1, ds1, a1, a2, a3, a4, a5⟩ := T_adv hT k3 k4 (by omega)
  refine ⟨dc1, ds1, a1, ?_, ⟨a3, by rw [a4.2 5 (by omega) (by omega) (by omega), a4.2 6 (by omega) (by omega) (by omega)]; exact g1, by rw [a5.2 12 (by omega)]; exact g2, by rw [a5.2 13 (by omega)]; exact g3⟩, a4.two, a5.two⟩
  unfold f_X12_goesOn
  rw [e_good g2, zc_n, if_neg (show ¬ (1 : Int) = 0 by decide), a2, zc_n]
theorem P_fail {dc ds : zD} {e : Int} (h : PG B n dc ds) (he : e ≠ 0) : ∃ dc1 ds1, f_X9_fail e dc = some (0, dc1) ∧ f_X12_errs e ds = some (0, ds1) ∧ PB dc1 ds1 ∧ FT2 dc dc1 ∧ FS2 ds ds1 := by
  obtain ⟨⟨hT, t, p, ⟨k1, k2, k3, k4⟩, kk, p0, p1, p2⟩, g1, g2, g3⟩ := h
  refine ⟨zu (zu dc 10 5 e) 10 6 t, zu (zu ds 400 12 e) 400 13 t, ?_, ?_, ⟨?_, ?_, ?_⟩, (FT2.u (by omega)).tr (FT2.u (by omega)), (FS2.u (by omega)).tr (FS2.u (by omega))⟩
  · unfold f_X9_fail
    rw [zl_n, zl_n, zu_ne (by omega), k1, zl_n]
  · unfold f_X12_errs
    rw [e_good g2, zc_n, if_neg (show ¬ (1 : Int) = 0 by decide), zl_n, zl_n, zu_ne (by omega), k2, zl_n]
  · rw [zu_ne (by omega), zu_eq, zu_ne (by omega), zu_eq]
  · rw [zu_eq, zu_eq]
  · rw [zu_ne (by omega), zu_eq]; exact he
theorem P_word {dc ds : zD} {t1 t2 : Nat} (h : PG B n dc ds) (ht : (zt1 t1).2.2.2 = (zt1 t2).2.2.2) : ∃ v, (v = 0 ∨ v = 1) ∧ f_X9_isAtWord t1 dc = some (v, dc) ∧ f_X12_isWord t2 ds = some (v, ds) := by
  have hF := zF_big
  have hlen : zslen t1 = zslen t2 := by unfold zslen; rw [ht]
  have hch : ∀ j, zsch t1 j = zsch t2 j := fun j => by unfold zsch; rw [ht]
  obtain ⟨⟨hT, t, p, ⟨k1, k2, k3, k4⟩, kk, p0, p1, p2⟩, g1, g2, g3⟩ := h
  obtain ⟨h1, n1, n2, h4, h5⟩ := id hT
  have hkind : dc 10 2 = 0 ↔ ds 400 16 = 1 := by
    rcases kk with ⟨q1, q2, -⟩ | ⟨q1, q2, -⟩ | ⟨q1, q2, -⟩ | ⟨q1, q2, -⟩ | ⟨q1, q2, -⟩ <;> rw [q1, q2] <;> decide
  have ec : f_X9_isAtWord t1 dc = if dc 10 2 = 0 then (if p - t = (zslen t1 : Int) then l_X9_isAtWord_27 t1 zF 0 dc else some (0, dc)) else some (0, dc) := by
    unfold f_X9_isAtWord
    rw [zl_n, zl_n, k3, zl_n, k1, zl_n, zw_id (x := p - t) (by omega) (by omega), zl_n]
  have em : f_X12_isWord t2 ds = if ds 400 16 = 1 then (if p - t = (zslen t1 : Int) then l_X12_isWord_35 t2 zF 0 ds else some (0, ds)) else some (0, ds) := by
    unfold f_X12_isWord
    rw [e_good g2, zc_n, if_neg (show ¬ (1 : Int) = 0 by decide), zl_n, zl_n, k4, zl_n, k2, zl_n, zw_id (x := p - t) (by omega) (by omega), zl_n, hlen]
  rw [ec, em]
  by_cases hk : dc 10 2 = 0
  · rw [if_pos hk, if_pos (hkind.mp hk)]
    by_cases hl : p - t = (zslen t1 : Int)
    · rw [if_pos hl, if_pos hl]
      have loop : ∀ (k q q' : Nat) (x : Int), k < q → k < q' → 0 ≤ x → x + k = zslen t1 → ∃ v, (v = 0 ∨ v = 1) ∧ l_X9_isAtWord_27 t1 q x dc = some (v, dc) ∧ l_X12_isWord_35 t2 q' x ds = some (v, ds) := by
        intro k
        induction k with
        | zero =>
          intro q q' x hq hq' x0 hx
          obtain ⟨q, rfl⟩ : ∃ q0, q = q0 + 1 := ⟨q - 1, by omega⟩
          obtain ⟨q', rfl⟩ : ∃ q0, q' = q0 + 1 := ⟨q' - 1, by omega⟩
          refine ⟨1, Or.inr rfl, ?_, ?_⟩
          · show l_X9_isAtWord_27F t1 _ x dc = _
            unfold l_X9_isAtWord_27F
            rw [zl_n, if_pos (by omega)]
          · show l_X12_isWord_35F t2 _ x ds = _
            unfold l_X12_isWord_35F
            rw [zl_n, if_pos (by omega)]
        | succ k ih =>
          intro q q' x hq hq' x0 hx
          obtain ⟨q, rfl⟩ : ∃ q0, q = q0 + 1 := ⟨q - 1, by omega⟩
          obtain ⟨q', rfl⟩ : ∃ q0, q' = q0 + 1 := ⟨q' - 1, by omega⟩
          have hb := h4 (t + x) (by omega) (by omega)
          have c1 : l_X9_isAtWord_27 t1 (q + 1) x dc = if B (t + x) = zsch t1 x.toNat then l_X9_isAtWord_27 t1 q (x + 1) dc else some (0, dc) := by
            show l_X9_isAtWord_27F t1 _ x dc = _
            unfold l_X9_isAtWord_27F
            rw [zl_n, if_neg (by omega), zl_n, k1, zl_n, zw_id (x := t + x) (by omega) (by omega), zg_t (by omega), zl_n, hb.1, zg_t (by omega), zl_n, zl_n, zw_id (x := x + 1) (by omega) (by omega)]
          have c2 : l_X12_isWord_35 t2 (q' + 1) x ds = if B (t + x) = zsch t1 x.toNat then l_X12_isWord_35 t2 q' (x + 1) ds else some (0, ds) := by
            show l_X12_isWord_35F t2 _ x ds = _
            unfold l_X12_isWord_35F
            rw [zl_n, if_neg (by omega), zl_n, k2, zl_n, zw_id (x := t + x) (by omega) (by omega), e_bt hT (by omega), zc_n, zg_t (by omega), zl_n, hch, zl_n, zw_id (x := x + 1) (by omega) (by omega)]
          rw [c1, c2]
          by_cases e : B (t + x) = zsch t1 x.toNat
          · rw [if_pos e, if_pos e]
            exact ih q q' (x + 1) (by omega) (by omega) (by omega) (by omega)
          · rw [if_neg e, if_neg e]
            exact ⟨0, Or.inl rfl, rfl, rfl⟩
      exact loop (zslen t1) zF zF 0 (by omega) (by omega) (by omega) (by omega)
    · rw [if_neg hl, if_neg hl]
      exact ⟨0, Or.inl rfl, rfl, rfl⟩
  · rw [if_neg hk, if_neg (fun q => hk (hkind.mpr q))]
    exact ⟨0, Or.inl rfl, rfl, rfl⟩
theorem P_atEnd {dc ds : zD} (h : PG B n dc ds) : f_X9_isAtEnd dc = some (if ds 400 16 = 0 then 1 else 0, dc) := by
  obtain ⟨⟨hT, t, p, ⟨k1, k2, k3, k4⟩, kk, p0, p1, p2⟩, g1, g2, g3⟩ := h
  unfold f_X9_isAtEnd
  rw [zl_n]
  rcases kk with ⟨q1, q2, -⟩ | ⟨q1, q2, -⟩ | ⟨q1, q2, -⟩ | ⟨q1, q2, -⟩ | ⟨q1, q2, -⟩ <;> rw [q1, q2] <;> rfl
theorem P_semi {dc ds : zD} (h : PG B n dc ds) : ∃ v dc1 ds1, f_X9_readSemicolon dc = some (v, dc1) ∧ f_X12_semicolon ds = some (0, ds1) ∧ (v = 1 ∧ PG B n dc1 ds1 ∨ v = 0 ∧ PB dc1 ds1) ∧ FT2 dc dc1 ∧ FS2 ds ds1 := by
  obtain ⟨⟨hT, t, p, hp, kk, p0, p1, p2⟩, g⟩ := id h
  have hkind : dc 10 2 = 2 ↔ ds 400 16 = 3 := by
    rcases kk with ⟨q1, q2, -⟩ | ⟨q1, q2, -⟩ | ⟨q1, q2, -⟩ | ⟨q1, q2, -⟩ | ⟨q1, q2, -⟩ <;> rw [q1, q2] <;> decide
  unfold f_X9_readSemicolon f_X12_semicolon j_X12_semicolon_13
  rw [zl_n, zl_n]
  by_cases hk : dc 10 2 = 2
  · obtain ⟨dc1, ds1, a1, a2, a3, a4, a5⟩ := P_adv h
    refine ⟨1, dc1, ds1, ?_, ?_, Or.inl ⟨rfl, a3⟩, a4, a5⟩
    · rw [if_pos hk, a1, zc_n]
    · rw [if_pos (hkind.mp hk), a2, zc_n]
  · obtain ⟨dc1, ds1, a1, a2, a3, a4, a5⟩ := P_fail (e := 1) h (by decide)
    refine ⟨0, dc1, ds1, ?_, ?_, Or.inr ⟨rfl, a3⟩, a4, a5⟩
    · rw [if_neg hk, a1, zc_n]
    · rw [if_neg (fun q => hk (hkind.mpr q)), a2, zc_n]
      unfold f_X12_goesOn
      rw [e_bad a3.2.2, zc_n, if_pos (show (0 : Int) = 0 from rfl), zc_n]
/-- in an error, the reference reads no more -/
theorem B_on {d : zD} (h : BD d) : f_X12_goesOn d = some (0, d) := by
  unfold f_X12_goesOn
  rw [e_bad h, zc_n, if_pos (show (0 : Int) = 0 from rfl)]
theorem B_errs {d : zD} {e : Int} (h : BD d) : f_X12_errs e d = some (0, d) := by
  unfold f_X12_errs
  rw [e_bad h, zc_n, if_pos (show (0 : Int) = 0 from rfl)]
theorem B_semi {d : zD} (h : BD d) : f_X12_semicolon d = some (0, d) := by
  unfold f_X12_semicolon j_X12_semicolon_13
  rw [zl_n, B_errs h, zc_n, B_on h, zc_n]
  split <;> rfl
theorem B_num {d : zD} {x y : Int} (h : BD d) : f_X12_number x y d = some (x, d) := by
  have j33 : j_X12_number_33 x d = some (x, d) := by
    unfold j_X12_number_33 j_X12_number_48
    rw [e_bad h, zc_n, if_pos (show (0 : Int) = 0 from rfl), B_on h, zc_n]
  unfold f_X12_number
  rw [zl_n]
  by_cases h2 : d 400 16 = 2
  · rw [if_pos h2, zl_n, e_isIn, zc_n]
    by_cases hi : x ≤ d 400 17 ∧ d 400 17 ≤ y
    · rw [if_pos hi, if_neg (show ¬ (1 : Int) = 0 by decide), j33]
    · rw [if_neg hi, if_pos (show (0 : Int) = 0 from rfl), B_errs h, zc_n, j33]
  · rw [if_neg h2, B_errs h, zc_n, j33]
theorem P_num {dc ds : zD} {x y : Int} (h : PG B n dc ds) (hx : 0 ≤ x) : ∃ v w dc1 ds1, f_X9_readNumber x y dc = some (v, dc1) ∧ f_X12_number x y ds = some (w, ds1) ∧ (v = w ∧ (x ≤ v ∧ v ≤ y) ∧ PG B n dc1 ds1 ∨ v = -1 ∧ w = x ∧ PB dc1 ds1) ∧ FT2 dc dc1 ∧ FS2 ds ds1 := by
  have hF := zF_big
  obtain ⟨⟨hT, t, p, ⟨k1, k2, k3, k4⟩, kk, p0, p1, p2⟩, g1, g2, g3⟩ := id h
  obtain ⟨h1, n1, n2, h4, h5⟩ := id hT
  have hkind : dc 10 2 = 1 ↔ ds 400 16 = 2 := by
    rcases kk with ⟨q1, q2, -⟩ | ⟨q1, q2, -⟩ | ⟨q1, q2, -⟩ | ⟨q1, q2, -⟩ | ⟨q1, q2, -⟩ <;> rw [q1, q2] <;> decide
  by_cases hk : dc 10 2 = 1
  · have kk2 : t < p ∧ p - t ≤ 4 ∧ (∀ i, t ≤ i → i < p → 48 ≤ B i ∧ B i ≤ 57) ∧ ds 400 17 = nvl B t (p - t).toNat := by
      rcases kk with ⟨q1, -⟩ | ⟨-, -, q⟩ | ⟨q1, -⟩ | ⟨q1, -⟩ | ⟨q1, -⟩
      · exact absurd (q1.symm.trans hk) (by decide)
      · exact q
      · exact absurd (q1.symm.trans hk) (by decide)
      · exact absurd (q1.symm.trans hk) (by decide)
      · exact absurd (q1.symm.trans hk) (by decide)
    obtain ⟨m1, m2, m3, m4⟩ := kk2
    have hnb := nvl_b (B := B) (p - t).toNat t fun i i0 i1 => m3 i i0 (by omega)
    have hnb2 := p10 (p - t).toNat (by omega)
    have loop : ∀ (k q : Nat) (x2 : Int), k < q → t ≤ x2 → x2 + k = p → l_X9_numberHere_7 q (nvl B t (x2 - t).toNat) x2 dc = some (nvl B t (p - t).toNat, dc) := by
      intro k
      induction k with
      | zero =>
        intro q x2 hq x0 hx
        obtain ⟨q, rfl⟩ : ∃ q0, q = q0 + 1 := ⟨q - 1, by omega⟩
        show l_X9_numberHere_7F _ _ x2 dc = _
        unfold l_X9_numberHere_7F
        rw [zl_n, k3, if_pos (by omega), show x2 = p by omega]
      | succ k ih =>
        intro q x2 hq x0 hx
        obtain ⟨q, rfl⟩ : ∃ q0, q = q0 + 1 := ⟨q - 1, by omega⟩
        have hb := h4 x2 (by omega) (by omega)
        have hm := m3 x2 (by omega) (by omega)
        have hv := nvl_b (B := B) (x2 - t).toNat t fun i i0 i1 => m3 i i0 (by omega)
        have hv2 := p10' (x2 - t).toNat (by omega)
        have hs : nvl B t (x2 + 1 - t).toNat = 10 * nvl B t (x2 - t).toNat + B x2 - 48 := by
          rw [show (x2 + 1 - t).toNat = (x2 - t).toNat + 1 by omega]
          show 10 * nvl B t (x2 - t).toNat + (B (t + ((x2 - t).toNat : Int)) - 48) = _
          rw [show t + ((x2 - t).toNat : Int) = x2 by omega]
          omega
        show l_X9_numberHere_7F _ _ x2 dc = _
        unfold l_X9_numberHere_7F
        rw [zl_n, k3, if_neg (by omega), zl_n, zw_id (x := 10 * nvl B t (x2 - t).toNat) (by omega) (by omega), zg_t (by omega), zl_n, hb.1, zl_n, zw_id (x := 10 * nvl B t (x2 - t).toNat + B x2) (by omega) (by omega), zl_n, zw_id (x := 10 * nvl B t (x2 - t).toNat + B x2 - 48) (by omega) (by omega), zl_n, zw_id (x := x2 + 1) (by omega) (by omega), ← hs]
        exact ih q (x2 + 1) (by omega) (by omega) (by omega)
    have eh : f_X9_numberHere dc = some (ds 400 17, dc) := by
      unfold f_X9_numberHere
      rw [zl_n, k1, m4]
      have := loop (p - t).toNat zF t (by omega) (by omega) (by omega)
      rw [show (t - t).toNat = 0 by omega] at this
      exact this
    by_cases hin : x ≤ ds 400 17 ∧ ds 400 17 ≤ y
    · obtain ⟨dc1, ds1, a1, a2, a3, a4, a5⟩ := P_adv h
      refine ⟨ds 400 17, ds 400 17, dc1, ds1, ?_, ?_, Or.inl ⟨rfl, hin, a3⟩, a4, a5⟩
      · unfold f_X9_readNumber
        rw [zl_n, if_pos hk, eh, zc_n, if_neg (by omega), if_pos hin.2, a1, zc_n]
      · unfold f_X12_number j_X12_number_33 j_X12_number_48
        rw [zl_n, if_pos (hkind.mp hk), zl_n, e_isIn, zc_n, if_pos hin, if_neg (show ¬ (1 : Int) = 0 by decide), e_good g2, zc_n, if_neg (show ¬ (1 : Int) = 0 by decide), zl_n, a2, zc_n]
    · obtain ⟨dc1, ds1, a1, a2, a3, a4, a5⟩ := P_fail (e := 2) h (by decide)
      refine ⟨-1, x, dc1, ds1, ?_, ?_, Or.inr ⟨rfl, rfl, a3⟩, a4, a5⟩
      · unfold f_X9_readNumber j_X9_readNumber_31
        rw [zl_n, if_pos hk, eh, zc_n, a1, zc_n]
        by_cases hlt : ds 400 17 < x
        · rw [if_pos hlt]
        · rw [if_neg hlt, if_neg (by omega)]
      · unfold f_X12_number j_X12_number_33 j_X12_number_48
        rw [zl_n, if_pos (hkind.mp hk), zl_n, e_isIn, zc_n, if_neg hin, if_pos (show (0 : Int) = 0 from rfl), a2, zc_n, e_bad a3.2.2, zc_n, if_pos (show (0 : Int) = 0 from rfl), B_on a3.2.2, zc_n]
  · obtain ⟨dc1, ds1, a1, a2, a3, a4, a5⟩ := P_fail (e := 1) h (by decide)
    refine ⟨-1, x, dc1, ds1, ?_, ?_, Or.inr ⟨rfl, rfl, a3⟩, a4, a5⟩
    · unfold f_X9_readNumber
      rw [zl_n, if_neg hk, a1, zc_n]
    · unfold f_X12_number j_X12_number_33 j_X12_number_48
      rw [zl_n, if_neg (fun q => hk (hkind.mpr q)), a2, zc_n, e_bad a3.2.2, zc_n, if_pos (show (0 : Int) = 0 from rfl), B_on a3.2.2, zc_n]
end K
