/-! A setup is read: settings, what stands only once. -/
def SU (dc ds : zD) : Prop := NS 13 dc ds ∧ (∀ x : Int, 0 ≤ x → x < ds 401 0 → dc 15 x.toNat = rT (ds 401) x 0 ∧ dc 16 x.toNat = rT (ds 401) x 1 ∧ dc 17 x.toNat = rT (ds 401) x 2) ∧ FRm (ds 401) ∧ SV (ds 401) ∧ dc 12 4 = ds 401 1 ∧ dc 12 5 = ds 401 5 ∧ (∀ j : Nat, j < 6 → dc 18 j = ds 401 (6 + j)) ∧ (∀ k : Int, 0 ≤ k → k < ds 401 1 → dc 19 k.toNat = ds 401 (30 + k).toNat) ∧ dc 12 6 = ds 400 19 ∧ 0 ≤ ds 400 19 ∧ ds 400 19 ≤ 15
def FY (d d' : zD) : Prop := (∀ c, c ≠ 10 → c < 12 ∨ 19 < c → d' c = d c) ∧ (∀ j, j < 2 ∨ 6 < j → d' 10 j = d 10 j)
def FZ (d d' : zD) : Prop := (∀ c, c ≠ 400 → c ≠ 401 → d' c = d c) ∧ ∀ j, j < 12 ∨ 19 < j → d' 400 j = d 400 j
/-- in an error: what may still be written -/
def FQ (d d' : zD) : Prop := (∀ c, c ≠ 400 → c ≠ 401 → d' c = d c) ∧ ∀ j, j ≠ 19 → d' 400 j = d 400 j
theorem FY.tr {a b c : zD} (h : FY a b) (q : FY b c) : FY a c := ⟨fun k k1 k2 => (q.1 k k1 k2).trans (h.1 k k1 k2), fun j j1 => (q.2 j j1).trans (h.2 j j1)⟩
theorem FZ.tr {a b c : zD} (h : FZ a b) (q : FZ b c) : FZ a c := ⟨fun k k1 k2 => (q.1 k k1 k2).trans (h.1 k k1 k2), fun j j1 => (q.2 j j1).trans (h.2 j j1)⟩
theorem FQ.tr {a b c : zD} (h : FQ a b) (q : FQ b c) : FQ a c := ⟨fun k k1 k2 => (q.1 k k1 k2).trans (h.1 k k1 k2), fun j j1 => (q.2 j j1).trans (h.2 j j1)⟩
theorem FQ.rf {a : zD} : FQ a a := ⟨fun _ _ _ => rfl, fun _ _ => rfl⟩
theorem FQ.z {a b : zD} (h : FQ a b) : FZ a b := ⟨h.1, fun j hj => h.2 j (by omega)⟩
theorem FT2.y {a b : zD} (h : FT2 a b) : FY a b := ⟨fun k k1 _ => h.1 k k1, h.2⟩
theorem FS2.z {a b : zD} (h : FS2 a b) : FZ a b := ⟨fun k k1 _ => h.1 k k1, fun j hj => h.2 j (by omega)⟩
theorem FY.u {c i : Nat} {a : zD} {v : Int} (h : 12 ≤ c ∧ c ≤ 19) : FY a (zu a c i v) := ⟨fun k k1 k2 => zu_row (by omega), fun j j1 => zu_ne (by omega)⟩
theorem FZ.u1 {i : Nat} {a : zD} {v : Int} : FZ a (zu a 401 i v) := ⟨fun k k1 k2 => zu_row k2, fun j j1 => zu_ne (by omega)⟩
theorem FZ.u9 {a : zD} {v : Int} : FZ a (zu a 400 19 v) := ⟨fun k k1 k2 => zu_row k1, fun j j1 => zu_ne (by omega)⟩
theorem FQ.u1 {i : Nat} {a : zD} {v : Int} : FQ a (zu a 401 i v) := ⟨fun k k1 k2 => zu_row k2, fun j j1 => zu_ne (by omega)⟩
theorem FQ.u9 {a : zD} {v : Int} : FQ a (zu a 400 19 v) := ⟨fun k k1 k2 => zu_row k1, fun j j1 => zu_ne (by omega)⟩
theorem BD.q {a b : zD} (h : BD a) (f : FQ a b) : BD b := by
  unfold BD
  rw [f.2 12 (by omega)]
  exact h
theorem PB.q {dc a b : zD} (h : PB dc a) (f : FQ a b) : PB dc b := by
  unfold PB
  rw [f.2 12 (by omega), f.2 13 (by omega)]
  exact h
theorem SU_f {dc ds dc' ds' : zD} (h : SU dc ds) (e : ∀ c, 12 ≤ c → c ≤ 19 → dc' c = dc c) (o : ds' 401 = ds 401) (o1 : ds' 400 19 = ds 400 19) : SU dc' ds' := by
  obtain ⟨h1, h2⟩ := h
  refine ⟨NS_f h1 (e 13 (by omega) (by omega)) (e 14 (by omega) (by omega)) o, ?_⟩
  rw [e 12 (by omega) (by omega), e 15 (by omega) (by omega), e 16 (by omega) (by omega), e 17 (by omega) (by omega), e 18 (by omega) (by omega), e 19 (by omega) (by omega), o, o1]
  exact h2
theorem SU_t {dc ds dc' ds' : zD} (h : SU dc ds) (f : FT2 dc dc') (g : FS2 ds ds') : SU dc' ds' := SU_f h (fun c c0 c1 => f.1 c (by omega)) (g.1 401 (by omega)) (g.2 19 (by omega))
/-- how many stand already -/
def pop4 (t : Int) : Int := t % 2 + t / 2 % 2 + t / 4 % 2 + t / 8 % 2
theorem once_all : ∀ t : Fin 16, ∀ k : Fin 4, (zand (t.val : Int) ((2 ^ k.val : Nat) : Int) = 0 ∧ zand (zshr (t.val : Int) (k.val : Int)) 1 ≠ 1 ∧ pop4 (zor (t.val : Int) ((2 ^ k.val : Nat) : Int)) = pop4 (t.val : Int) + 1 ∨ zand (t.val : Int) ((2 ^ k.val : Nat) : Int) ≠ 0 ∧ zand (zshr (t.val : Int) (k.val : Int)) 1 = 1) ∧ zor (t.val : Int) ((2 ^ k.val : Nat) : Int) = zor (t.val : Int) (zshl 1 (k.val : Int)) ∧ (0 ≤ zor (t.val : Int) ((2 ^ k.val : Nat) : Int) ∧ zor (t.val : Int) ((2 ^ k.val : Nat) : Int) ≤ 15) ∧ (0 < (k.val : Int) → zor (t.val : Int) ((2 ^ k.val : Nat) : Int) % 2 = (t.val : Int) % 2) ∧ ((k.val : Int) = 0 → zor (t.val : Int) ((2 ^ k.val : Nat) : Int) % 2 = 1 ∧ (zand (t.val : Int) ((2 ^ k.val : Nat) : Int) = 0 → (t.val : Int) % 2 = 0)) := by decide
theorem once_of {t k w : Int} (ht : 0 ≤ t ∧ t ≤ 15) (hk : 0 ≤ k ∧ k ≤ 3 ∧ w = ((2 ^ k.toNat : Nat) : Int)) : (zand t w = 0 ∧ zand (zshr t k) 1 ≠ 1 ∧ pop4 (zor t w) = pop4 t + 1 ∨ zand t w ≠ 0 ∧ zand (zshr t k) 1 = 1) ∧ zor t w = zor t (zshl 1 k) ∧ (0 ≤ zor t w ∧ zor t w ≤ 15) ∧ (0 < k → zor t w % 2 = t % 2) ∧ (k = 0 → zor t w % 2 = 1 ∧ (zand t w = 0 → t % 2 = 0)) := by
  have h := once_all ⟨t.toNat, by omega⟩ ⟨k.toNat, by omega⟩
  have e1 : ((t.toNat : Nat) : Int) = t := by omega
  have e2 : ((k.toNat : Nat) : Int) = k := by omega
  dsimp only at h
  rw [e1, e2, ← hk.2.2] at h
  exact h
theorem B_once17 {d : zD} {k : Int} (h : BD d) : ∃ d', j_X12_once_17 k d = some (0, d') ∧ FQ d d' := by
  refine ⟨zu d 400 19 (zor (d 400 19) (zshl 1 k)), ?_, FQ.u9⟩
  unfold j_X12_once_17
  rw [zl_n, zl_n, zl_n, zl_n, B_on (h.q FQ.u9), zc_n]
theorem B_once {d : zD} {k : Int} (h : BD d) : ∃ d', f_X12_once k d = some (0, d') ∧ FQ d d' := by
  obtain ⟨d', e1, e2⟩ := B_once17 (k := k) h
  refine ⟨d', ?_, e2⟩
  unfold f_X12_once
  rw [zl_n, zl_n, zl_n, B_errs h, zc_n, e1]
  split <;> rfl
theorem B_sets : ∀ (k q : Nat) {d : zD} {i e : Int}, BD d → k < q → 0 ≤ i → i + k = e → e ≤ 6 → ∃ d', l_X12_readsSettings_2 q e i d = some (0, d') ∧ FQ d d' := by
  intro k
  induction k with
  | zero =>
    intro q d i e h hq i0 hi he
    obtain ⟨q, rfl⟩ : ∃ q0, q = q0 + 1 := ⟨q - 1, by omega⟩
    refine ⟨d, ?_, FQ.rf⟩
    show l_X12_readsSettings_2F _ e i d = _
    unfold l_X12_readsSettings_2F
    rw [if_pos (by omega)]
  | succ k ih =>
    intro q d i e h hq i0 hi he
    obtain ⟨q, rfl⟩ : ∃ q0, q = q0 + 1 := ⟨q - 1, by omega⟩
    obtain ⟨d2, a1, a2⟩ := ih q (d := zu d 401 (6 + i).toNat (sLo i.toNat)) (i := i + 1) (e := e) (h.q FQ.u1) (by omega) (by omega) (by omega) he
    refine ⟨d2, ?_, FQ.u1.tr a2⟩
    show l_X12_readsSettings_2F _ e i d = _
    unfold l_X12_readsSettings_2F
    rw [if_neg (by omega), zl_n, zw_id (x := 6 + i) (by omega) (by omega), e_least (by omega), zc_n, e_greatest (by omega), zc_n, B_num h, zc_n, zg_t (by omega), zl_n, zl_n, zw_id (by omega) (by omega), a1]
section K7
variable {B : Int → Int} {n : Int}
theorem P_scan {dc ds : zD} (h : PG B n dc ds) : ∃ dc1 ds1, f_X9_advance dc = some (0, dc1) ∧ f_X12_scans ds = some (0, ds1) ∧ PG B n dc1 ds1 ∧ FT2 dc dc1 ∧ FS2 ds ds1 := by
  obtain ⟨⟨hT, t, p, ⟨k1, k2, k3, k4⟩, kk, p0, p1, p2⟩, g1, g2, g3⟩ := h
  obtain ⟨dc1, ds1, a1, a2, a3, a4, a5⟩ := T_adv hT k3 k4 (by omega)
  exact ⟨dc1, ds1, a1, a2, ⟨a3, by rw [a4.2 5 (by omega) (by omega) (by omega), a4.2 6 (by omega) (by omega) (by omega)]; exact g1, by rw [a5.2 12 (by omega)]; exact g2, by rw [a5.2 13 (by omega)]; exact g3⟩, a4.two, a5.two⟩
theorem P_once {dc ds : zD} {k w : Int} (h : PG B n dc ds) (hS : SU dc ds) (hk : 0 ≤ k ∧ k ≤ 3 ∧ w = ((2 ^ k.toNat : Nat) : Int)) : (∃ dc1 ds1, f_X7_beginOnce w dc = some (1, dc1) ∧ f_X12_once k ds = some (0, ds1) ∧ PG B n dc1 ds1 ∧ SU dc1 ds1 ∧ (ds1 401 0 = ds 401 0 ∧ pop4 (ds1 400 19) = pop4 (ds 400 19) + 1 ∧ ds1 401 1 = ds 401 1 ∧ (0 < k → ds1 400 19 % 2 = ds 400 19 % 2) ∧ (k = 0 → ds1 400 19 % 2 = 1 ∧ ds 400 19 % 2 = 0)) ∧ FY dc dc1 ∧ FZ ds ds1) ∨ (∃ dc1 ds1, f_X7_beginOnce w dc = some (0, dc1) ∧ f_X12_once k ds = some (0, ds1) ∧ PB dc1 ds1 ∧ FY dc dc1 ∧ FZ ds ds1) := by
  obtain ⟨s1, s2, s3, s4, s5, s6, s7, s8, s9, s10, s11⟩ := id hS
  obtain ⟨o1, o2, ⟨o3, o4⟩, o5, o6⟩ := once_of ⟨s10, s11⟩ hk
  rcases o1 with ⟨o1, o1', op⟩ | ⟨o1, o1'⟩
  · have h1 : PG B n (zu dc 12 6 (zor (ds 400 19) w)) (zu ds 400 19 (zor (ds 400 19) w)) := PG_x h (zu_row (by omega)) (zu_row (by omega)) (zu_row (by omega)) fun j j0 j1 => zu_ne (by omega)
    have hS1 : SU (zu dc 12 6 (zor (ds 400 19) w)) (zu ds 400 19 (zor (ds 400 19) w)) := by
      have e : zu ds 400 19 (zor (ds 400 19) w) 401 = ds 401 := zu_row (by omega)
      refine ⟨NS_f s1 (zu_row (by omega)) (zu_row (by omega)) e, ?_⟩
      rw [e, zu_row (b := 15) (by omega), zu_row (b := 16) (by omega), zu_row (b := 17) (by omega), zu_row (b := 18) (by omega), zu_row (b := 19) (by omega), zu_ne (j := 4) (by omega), zu_ne (j := 5) (by omega), zu_eq, zu_eq]
      exact ⟨s2, s3, s4, s5, s6, s7, s8, rfl, o3, o4⟩
    obtain ⟨dc1, ds1, a1, a2, a3, a4, a5⟩ := P_adv h1
    refine Or.inl ⟨dc1, ds1, ?_, ?_, a3, SU_t hS1 a4 a5, ⟨by rw [a5.1 401 (by omega), zu_row (by omega)], by rw [a5.2 19 (by omega), zu_eq]; exact op, by rw [a5.1 401 (by omega), zu_row (by omega)], fun q => by rw [a5.2 19 (by omega), zu_eq]; exact o5 q, fun q => by rw [a5.2 19 (by omega), zu_eq]; exact ⟨(o6 q).1, (o6 q).2 o1⟩⟩, (FY.u (by omega)).tr a4.y, FZ.u9.tr a5.z⟩
    · unfold f_X7_beginOnce
      rw [zl_n, s9, zl_n, if_pos o1, zl_n, zl_n, zl_n, a1, zc_n]
    · unfold f_X12_once j_X12_once_17
      rw [zl_n, zl_n, zl_n, if_neg o1', zl_n, zl_n, zl_n, ← o2, zl_n, a2, zc_n]
  · obtain ⟨dc1, ds1, a1, a2, a3, a4, a5⟩ := P_fail (e := 4) h (by decide)
    obtain ⟨ds2, b1, b2⟩ := B_once17 (k := k) a3.2.2
    refine Or.inr ⟨dc1, ds2, ?_, ?_, a3.q b2, a4.y, a5.z.tr b2.z⟩
    · unfold f_X7_beginOnce
      rw [zl_n, s9, zl_n, if_neg o1, a1, zc_n]
    · unfold f_X12_once
      rw [zl_n, zl_n, zl_n, if_pos o1', a2, zc_n, b1]
theorem SU_set {dc ds : zD} {i v : Int} (hS : SU dc ds) (hi : 0 ≤ i ∧ i ≤ 5) (hv : sLo i.toNat ≤ v ∧ v ≤ sHi i.toNat) : SU (zu dc 18 i.toNat v) (zu ds 401 (6 + i).toNat v) := by
  obtain ⟨⟨n1, n2, n3⟩, s2, ⟨f2, f3, f4, f12, f26, f27, f28, f29, f46, fT⟩, ⟨v1, v5, v6, v7, v8, v9, v10, v11, v30, vT⟩, s5, s6, s7, s8, s9, s10, s11⟩ := hS
  have e401 : zu ds 401 (6 + i).toNat v 401 = us (ds 401) (6 + i).toNat v := zu_r
  have eT : rT (us (ds 401) (6 + i).toNat v) = rT (ds 401) := rT_f (by omega)
  have eo : ∀ j, j < 6 ∨ 11 < j → us (ds 401) (6 + i).toNat v j = ds 401 j := fun j hj => us_ne (by omega)
  have er : ∀ j : Nat, j < 6 → us (ds 401) (6 + i).toNat v (6 + j) = if i = j then v else ds 401 (6 + j) := fun j hj => by
    by_cases e : i = j
    · rw [if_pos e, show (6 + i).toNat = 6 + j by omega, us_eq]
    · rw [if_neg e, us_ne (by omega)]
  have hlo : ∀ j : Nat, j < 6 → sLo j ≤ ds 401 (6 + j) ∧ ds 401 (6 + j) ≤ sHi j := fun j hj => by
    have hj6 : j = 0 ∨ j = 1 ∨ j = 2 ∨ j = 3 ∨ j = 4 ∨ j = 5 := by omega
    rcases hj6 with rfl | rfl | rfl | rfl | rfl | rfl
    · exact v6
    · exact v7
    · exact v8
    · exact v9
    · exact v10
    · exact v11
  have hnew : ∀ j : Nat, j < 6 → sLo j ≤ us (ds 401) (6 + i).toNat v (6 + j) ∧ us (ds 401) (6 + i).toNat v (6 + j) ≤ sHi j := fun j hj => by
    rw [er j hj]
    split
    · rename_i e
      rw [show j = i.toNat by omega]; exact hv
    · exact hlo j hj
  unfold SU NS FRm SV
  rw [e401, eT, eo 0 (by omega), eo 1 (by omega), eo 2 (by omega), eo 3 (by omega), eo 4 (by omega), eo 5 (by omega), eo 26 (by omega), eo 27 (by omega), eo 28 (by omega), eo 29 (by omega), eo 46 (by omega), zu_row (b := 13) (by omega), zu_row (b := 13 + 1) (by omega), zu_row (b := 15) (by omega), zu_row (b := 16) (by omega), zu_row (b := 17) (by omega), zu_row (b := 12) (by omega), zu_row (b := 19) (by omega), zu_row (b := 400) (by omega)]
  refine ⟨⟨n1, n2, n3⟩, s2, ⟨f2, f3, f4, fun k k0 k1 => by rw [eo k (by omega)]; exact f12 k k0 k1, f26, f27, f28, f29, f46, fT⟩, ⟨v1, v5, hnew 0 (by omega), hnew 1 (by omega), hnew 2 (by omega), hnew 3 (by omega), hnew 4 (by omega), hnew 5 (by omega), fun k k0 k1 => by rw [eo _ (by omega)]; exact v30 k k0 k1, vT⟩, s5, s6, fun j hj => ?_, fun k k0 k1 => by rw [eo _ (by omega)]; exact s8 k k0 k1, s9, s10, s11⟩
  rw [er j hj]
  by_cases e : i = j
  · rw [if_pos e, show j = i.toNat by omega, zu_eq]
  · rw [if_neg e, zu_ne (by omega)]
    exact s7 j hj
theorem P_sets : ∀ (k q q' : Nat) {dc ds : zD} {i e : Int}, PG B n dc ds → SU dc ds → k < q → k < q' → 0 ≤ i → i + k = e → e ≤ 6 → (∃ dc1 ds1, l_X7_readSettings_2 q (e - 1) i dc = some (1, dc1) ∧ l_X12_readsSettings_2 q' e i ds = some (0, ds1) ∧ PG B n dc1 ds1 ∧ SU dc1 ds1 ∧ (ds1 401 0 = ds 401 0 ∧ ds1 400 19 = ds 400 19 ∧ ds1 401 1 = ds 401 1) ∧ FY dc dc1 ∧ FZ ds ds1) ∨ (∃ dc1 ds1, l_X7_readSettings_2 q (e - 1) i dc = some (0, dc1) ∧ l_X12_readsSettings_2 q' e i ds = some (0, ds1) ∧ PB dc1 ds1 ∧ FY dc dc1 ∧ FZ ds ds1) := by
  intro k
  induction k with
  | zero =>
    intro q q' dc ds i e h hS hq hq' i0 hi he
    obtain ⟨q, rfl⟩ : ∃ q0, q = q0 + 1 := ⟨q - 1, by omega⟩
    obtain ⟨q', rfl⟩ : ∃ q0, q' = q0 + 1 := ⟨q' - 1, by omega⟩
    refine Or.inl ⟨dc, ds, ?_, ?_, h, hS, ⟨rfl, rfl, rfl⟩, FT2.rf.y, FS2.rf.z⟩
    · show l_X7_readSettings_2F _ (e - 1) i dc = _
      unfold l_X7_readSettings_2F
      rw [if_pos (by omega)]
    · show l_X12_readsSettings_2F _ e i ds = _
      unfold l_X12_readsSettings_2F
      rw [if_pos (by omega)]
  | succ k ih =>
    intro q q' dc ds i e h hS hq hq' i0 hi he
    obtain ⟨q, rfl⟩ : ∃ q0, q = q0 + 1 := ⟨q - 1, by omega⟩
    obtain ⟨q', rfl⟩ : ∃ q0, q' = q0 + 1 := ⟨q' - 1, by omega⟩
    have lo0 : 0 ≤ sLo i.toNat := by unfold sLo; split <;> omega
    obtain ⟨v, w, d1, s1, a1, a2, a3, a4, a5⟩ := P_num (x := sLo i.toNat) (y := sHi i.toNat) h lo0
    have cl : l_X7_readSettings_2 (q + 1) (e - 1) i dc = if v = -1 then some (0, d1) else l_X7_readSettings_2 q (e - 1) (i + 1) (zu d1 18 i.toNat v) := by
      show l_X7_readSettings_2F _ (e - 1) i dc = _
      unfold l_X7_readSettings_2F
      rw [if_neg (by omega), zg_t (by omega), zl_n, zg_t (by omega), zl_n, ztab_lo (by omega), ztab_hi (by omega), a1, zc_n, zg_t (by omega), zl_n, zl_n, zw_id (x := i + 1) (by omega) (by omega)]
    have re : l_X12_readsSettings_2 (q' + 1) e i ds = l_X12_readsSettings_2 q' e (i + 1) (zu s1 401 (6 + i).toNat w) := by
      show l_X12_readsSettings_2F _ e i ds = _
      unfold l_X12_readsSettings_2F
      rw [if_neg (by omega), zl_n, zw_id (x := 6 + i) (by omega) (by omega), e_least (by omega), zc_n, e_greatest (by omega), zc_n, a2, zc_n, zg_t (by omega), zl_n, zl_n, zw_id (by omega) (by omega)]
    rw [cl, re]
    rcases a3 with ⟨k1, k2, k3⟩ | ⟨k1, k2, k3⟩
    · rw [if_neg (by omega), ← k1]
      have hS1 := SU_set (SU_t hS a4 a5) (i := i) (by omega) k2
      have h1 : PG B n (zu d1 18 i.toNat v) (zu s1 401 (6 + i).toNat v) := PG_x k3 (zu_row (by omega)) (zu_row (by omega)) (zu_row (by omega)) fun j j0 j1 => zu_ne (by omega)
      have fy : FY dc (zu d1 18 i.toNat v) := a4.y.tr (FY.u (by omega))
      have fz : FZ ds (zu s1 401 (6 + i).toNat v) := a5.z.tr FZ.u1
      rcases ih q q' (i := i + 1) (e := e) h1 hS1 (by omega) (by omega) (by omega) (by omega) he with ⟨d2, s2, b1, b2, b3, b4, ⟨b0, b9, b10⟩, b5, b6⟩ | ⟨d2, s2, b1, b2, b3, b4, b5⟩
      · exact Or.inl ⟨d2, s2, b1, b2, b3, b4, ⟨by rw [b0, zu_ne (by omega), a5.1 401 (by omega)], by rw [b9, zu_ne (by omega), a5.2 19 (by omega)], by rw [b10, zu_ne (by omega), a5.1 401 (by omega)]⟩, fy.tr b5, fz.tr b6⟩
      · exact Or.inr ⟨d2, s2, b1, b2, b3, fy.tr b4, fz.tr b5⟩
    · rw [if_pos k1]
      obtain ⟨s2, b1, b2⟩ := B_sets k q' (d := zu s1 401 (6 + i).toNat w) (i := i + 1) (e := e) (BD.q k3.2.2 FQ.u1) (by omega) (by omega) (by omega) he
      exact Or.inr ⟨d1, s2, rfl, b1, k3.q (FQ.u1.tr b2), a4.y, a5.z.tr (FQ.u1.tr b2).z⟩
end K7
