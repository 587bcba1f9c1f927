/-! One statement of a script. -/
def FV (m : Nat) (d d' : zD) : Prop := (∀ c, c ≠ 10 → c ≠ 22 → c ≠ 23 → c ≠ 24 → d' c = d c) ∧ (∀ j, j < 2 ∨ 6 < j → d' 10 j = d 10 j) ∧ ∀ j, j ≠ m → d' 22 j = d 22 j ∧ d' 23 j = d 23 j ∧ d' 24 j = d 24 j
theorem FV.tr {m : Nat} {a b c : zD} (h : FV m a b) (q : FV m b c) : FV m a c := ⟨fun k k1 k2 k3 k4 => (q.1 k k1 k2 k3 k4).trans (h.1 k k1 k2 k3 k4), fun j j1 => (q.2.1 j j1).trans (h.2.1 j j1), fun j hj => ⟨(q.2.2 j hj).1.trans (h.2.2 j hj).1, (q.2.2 j hj).2.1.trans (h.2.2 j hj).2.1, (q.2.2 j hj).2.2.trans (h.2.2 j hj).2.2⟩⟩
theorem FT2.v {m : Nat} {a b : zD} (h : FT2 a b) : FV m a b := ⟨fun k k1 _ _ _ => h.1 k k1, h.2, fun j _ => ⟨by rw [h.1 22 (by omega)], by rw [h.1 23 (by omega)], by rw [h.1 24 (by omega)]⟩⟩
theorem FV.u {m c : Nat} {a : zD} {v : Int} (h : c = 22 ∨ c = 23 ∨ c = 24) : FV m a (zu a c m v) := ⟨fun k k1 k2 k3 k4 => zu_row (by omega), fun j j1 => zu_ne (by omega), fun j hj => ⟨zu_ne (Or.inr hj), zu_ne (Or.inr hj), zu_ne (Or.inr hj)⟩⟩
section K4
variable {B : Int → Int} {n : Int}
theorem PG_x {dc ds dc' ds' : zD} (h : PG B n dc ds) (e : dc' 10 = dc 10) (e1 : dc' 11 = dc 11) (o : ds' 405 = ds 405) (o1 : ∀ j, 11 ≤ j → j ≤ 18 → ds' 400 j = ds 400 j) : PG B n dc' ds' := by
  obtain ⟨⟨⟨h1, n1, n2, h4, h5⟩, t, p, ⟨k1, k2, k3, k4⟩, kk, p0, p1, p2⟩, g1, g2, g3⟩ := h
  refine ⟨⟨⟨h1, by rw [e]; exact n1, by rw [o1 11 (by omega) (by omega)]; exact n2, fun q q0 q1 => by rw [e1, o]; exact h4 q q0 q1, h5⟩, t, p, ⟨by rw [e]; exact k1, by rw [o1 14 (by omega) (by omega)]; exact k2, by rw [e]; exact k3, by rw [o1 15 (by omega) (by omega)]; exact k4⟩, ?_, p0, p1, p2⟩, by rw [e]; exact g1, by rw [o1 12 (by omega) (by omega)]; exact g2, by rw [o1 13 (by omega) (by omega)]; exact g3⟩
  unfold TKk
  rw [e, o1 16 (by omega) (by omega), o1 17 (by omega) (by omega), o1 18 (by omega) (by omega)]
  exact kk
theorem PG_c {dc ds dc' : zD} (h : PG B n dc ds) (e : dc' 10 = dc 10) (e1 : dc' 11 = dc 11) : PG B n dc' ds := PG_x h e e1 rfl fun _ _ _ => rfl
theorem NS_f {s : Nat} {dc ds dc' ds' : zD} (h : NS s dc ds) (e : dc' s = dc s) (e1 : dc' (s + 1) = dc (s + 1)) (o : ds' 401 = ds 401) : NS s dc' ds' := by
  unfold NS
  rw [e, e1, o]
  exact h
theorem j57 {x v : Int} {dc ds : zD} (h : PG B n dc ds) : (v ≠ x ∧ ∃ dc1 ds1, j_X5_readWho_57 x v dc = some (v, dc1) ∧ f_X12_goesOn ds = some (0, ds1) ∧ PG B n dc1 ds1 ∧ FT2 dc dc1 ∧ FS2 ds ds1) ∨ (v = x ∧ ∃ dc1 ds1, j_X5_readWho_57 x v dc = some (-2, dc1) ∧ f_X12_errs 4 ds = some (0, ds1) ∧ PB dc1 ds1 ∧ FT2 dc dc1 ∧ FS2 ds ds1) := by
  by_cases e : v = x
  · obtain ⟨dc1, ds1, a1, a2, a3⟩ := P_fail (e := 4) h (by decide)
    refine Or.inr ⟨e, dc1, ds1, ?_, a2, a3⟩
    unfold j_X5_readWho_57
    rw [if_pos e, a1, zc_n]
  · obtain ⟨dc1, ds1, a1, a2, a3⟩ := P_adv h
    refine Or.inl ⟨e, dc1, ds1, ?_, a2, a3⟩
    unfold j_X5_readWho_57
    rw [if_neg e, a1, zc_n]
theorem B_adds {d : zD} {x1 x2 x3 x4 : Int} (h : BD d) : f_X12_adds x1 x2 x3 x4 d = some (0, d) := by
  unfold f_X12_adds
  rw [e_bad h, zc_n, if_pos (show (0 : Int) = 0 from rfl)]
theorem B_p42 {d : zD} {x y : Int} (h : BD d) : j_X12_readsPost_42 x y d = some (0, d) := by
  unfold j_X12_readsPost_42
  rw [B_on h, zc_n, B_num h, zc_n, B_adds h, zc_n]
theorem B_p24 {d : zD} {x y : Int} (h : BD d) : j_X12_readsPost_24 x y d = some (0, d) := by
  unfold j_X12_readsPost_24
  rw [e_bad h, zc_n, if_pos (show (0 : Int) = 0 from rfl), B_p42 h]
theorem B_post {d : zD} (h : BD d) : f_X12_readsPost d = some (0, d) := by
  unfold f_X12_readsPost
  rw [B_who h, zc_n, B_on h, zc_n, e_bad h, zc_n, if_pos (show (0 : Int) = 0 from rfl), B_p24 h]
theorem P_post {dc ds : zD} {m : Int} (h : PG B n dc ds) (hN : NS 1 dc ds) (hm : dc 20 6 = m) (hm0 : 0 ≤ m ∧ m < 30) : (∃ a r l dc1 ds1, f_X5_readPost dc = some (1, dc1) ∧ f_X12_readsPost ds = (zc (f_X12_adds 0 a r l ds1) fun _ d => some (0, d)) ∧ PG B n dc1 ds1 ∧ ((-1 ≤ a ∧ a < ds 401 0) ∧ (-1 ≤ r ∧ r < ds 401 0) ∧ a ≠ r ∧ 1 ≤ l ∧ l ≤ 20) ∧ dc1 22 m.toNat = a ∧ dc1 23 m.toNat = r ∧ dc1 24 m.toNat = l ∧ FV m.toNat dc dc1 ∧ FS2 ds ds1) ∨ ∃ dc1 ds1, f_X5_readPost dc = some (0, dc1) ∧ f_X12_readsPost ds = some (0, ds1) ∧ PB dc1 ds1 ∧ FV m.toNat dc dc1 ∧ FS2 ds ds1 := by
  have hN2 := hN.2.1
  have g2 := h.2.2.1
  -- what the class does first
  have c1 : ∀ {v : Int} {d1 : zD}, f_X5_readWho (-2) dc = some (v, d1) → FT2 dc d1 → f_X5_readPost dc = if v = -2 then some (0, zu d1 22 m.toNat v) else zc (f_X5_readWho v (zu d1 22 m.toNat v)) fun v49 d => zg 30 m <| zl (zu d 23 m.toNat v49) fun d => zl (d 20 6) fun v58 => zg 30 v58 <| zl (d 23 (v58 : Int).toNat) fun v61 => if (v61 : Int) = (-2) then (some (0, d)) else (zl (d 20 6) fun v74 => zc (f_X9_readNumber 1 20 d) fun v84 d => zg 30 v74 <| zl (zu d 24 (v74 : Int).toNat v84) fun d => zl (d 20 6) fun v93 => zg 30 v93 <| zl (d 24 (v93 : Int).toNat) fun v96 => if (v96 : Int) = (-1) then (some (0, d)) else (some (1, d))) := fun {v d1} hw hf => by
    have q20 : zu d1 22 m.toNat v 20 6 = m := by rw [zu_ne (by omega), hf.1 20 (by omega), hm]
    unfold f_X5_readPost
    rw [zl_n, hm, hw, zc_n, zg_t (by omega), zl_n, zl_n, q20, zg_t (by omega), zl_n, zu_eq]
    by_cases e : v = -2
    · rw [if_pos e, if_pos e]
    · rw [if_neg e, if_neg e, zl_n, zl_n, zg_t (by omega), zl_n, zu_eq]
  rcases P_who h hN with ⟨v, hv, w1, w2⟩ | ⟨w, d1, s1, w1, w2, w3, w4, w5⟩
  · rcases j57 (x := -2) (v := v) h with ⟨-, d1, s1, a1, a2, a3, a4, a5⟩ | ⟨e, -⟩
    · have hw := (w2 (-2)).trans a1
      have hc := c1 hw a4
      rw [if_neg (by omega)] at hc
      have g2' := a3.2.2.1
      have hr : f_X12_readsPost ds = zc (f_X12_whoHere s1) fun v17 d => j_X12_readsPost_24 v v17 d := by
        unfold f_X12_readsPost
        rw [w1, zc_n, a2, zc_n, e_good g2', zc_n, if_neg (show ¬ (1 : Int) = 0 by decide)]
      have h1 : PG B n (zu d1 22 m.toNat v) s1 := PG_c a3 (zu_row (by omega)) (zu_row (by omega))
      have f1 : FV m.toNat dc (zu d1 22 m.toNat v) := a4.v.tr (FV.u (by omega))
      have e401 : s1 401 = ds 401 := a5.1 401 (by omega)
      have n1 : NS 1 (zu d1 22 m.toNat v) s1 := NS_f hN (f1.1 1 (by omega) (by omega) (by omega) (by omega)) (f1.1 2 (by omega) (by omega) (by omega) (by omega)) e401
      have q20 : ∀ {d : zD}, FT2 (zu d1 22 m.toNat v) d → d 20 6 = m := fun hf => by rw [hf.1 20 (by omega), f1.1 20 (by omega) (by omega) (by omega) (by omega), hm]
      -- the second
      have c2 : ∀ {r : Int} {d2 : zD}, f_X5_readWho v (zu d1 22 m.toNat v) = some (r, d2) → FT2 (zu d1 22 m.toNat v) d2 → f_X5_readPost dc = if r = -2 then some (0, zu d2 23 m.toNat r) else zc (f_X9_readNumber 1 20 (zu d2 23 m.toNat r)) fun v84 d => zg 30 m <| zl (zu d 24 m.toNat v84) fun d => zl (d 20 6) fun v93 => zg 30 v93 <| zl (d 24 (v93 : Int).toNat) fun v96 => if (v96 : Int) = (-1) then (some (0, d)) else (some (1, d)) := fun {r d2} hw2 hf => by
        have q := q20 hf
        rw [hc, hw2, zc_n, zg_t (by omega), zl_n, zl_n, zu_ne (by omega), q, zg_t (by omega), zl_n, zu_eq]
        by_cases e : r = -2
        · rw [if_pos e, if_pos e]
        · rw [if_neg e, if_neg e, zl_n]
      rcases P_who h1 n1 with ⟨r, hr2, y1, y2⟩ | ⟨w, d2, s2, y1, y2, y3, y4, y5⟩
      · have hr3 : f_X12_readsPost ds = j_X12_readsPost_24 v r s1 := by rw [hr, y1, zc_n]
        rcases j57 (x := v) (v := r) h1 with ⟨ne, d2, s2, b1, b2, b3, b4, b5⟩ | ⟨e, d2, s2, b1, b2, b3, b4, b5⟩
        · have hc2 := c2 ((y2 v).trans b1) b4
          rw [if_neg (by omega)] at hc2
          have h2 : PG B n (zu d2 23 m.toNat r) s2 := PG_c b3 (zu_row (by omega)) (zu_row (by omega))
          have f2 : FV m.toNat dc (zu d2 23 m.toNat r) := f1.tr (b4.v.tr (FV.u (by omega)))
          have hr4 : f_X12_readsPost ds = zc (f_X12_number 1 20 s2) fun v50 d => zc (f_X12_adds 0 v r v50 d) fun _ d => some (0, d) := by
            rw [hr3]
            unfold j_X12_readsPost_24 j_X12_readsPost_42
            rw [e_good g2', zc_n, if_neg (show ¬ (1 : Int) = 0 by decide), if_neg ne, b2, zc_n]
          obtain ⟨l, w, d3, s3, z1, z2, z3, z4, z5⟩ := P_num (x := 1) (y := 20) h2 (by omega)
          have q3 : d3 20 6 = m := by rw [z4.1 20 (by omega), zu_ne (by omega)]; exact q20 b4
          have hc3 : f_X5_readPost dc = if l = -1 then some (0, zu d3 24 m.toNat l) else some (1, zu d3 24 m.toNat l) := by
            rw [hc2, z1, zc_n, zg_t (by omega), zl_n, zl_n, zu_ne (by omega), q3, zg_t (by omega), zl_n, zu_eq]
          have f3 : FV m.toNat dc (zu d3 24 m.toNat l) := f2.tr (z4.v.tr (FV.u (by omega)))
          rcases z3 with ⟨k1, k2, k3⟩ | ⟨k1, k2, k3⟩
          · refine Or.inl ⟨v, r, l, zu d3 24 m.toNat l, s3, ?_, ?_, PG_c k3 (zu_row (by omega)) (zu_row (by omega)), ⟨hv, by rw [e401] at hr2; exact hr2, fun q => ne q.symm, k2⟩, ?_, ?_, zu_eq, f3, a5.tr (b5.tr z5)⟩
            · rw [hc3, if_neg (by omega)]
            · rw [hr4, z2, zc_n, k1]
            · rw [zu_ne (by omega), z4.1 22 (by omega), zu_ne (by omega), b4.1 22 (by omega), zu_eq]
            · rw [zu_ne (by omega), z4.1 23 (by omega), zu_eq]
          · refine Or.inr ⟨zu d3 24 m.toNat l, s3, ?_, ?_, ?_, f3, a5.tr (b5.tr z5)⟩
            · rw [hc3, if_pos k1]
            · rw [hr4, z2, zc_n, B_adds k3.2.2, zc_n]
            · obtain ⟨t1, t2, t3⟩ := k3
              exact ⟨by rw [zu_ne (by omega)]; exact t1, by rw [zu_ne (by omega)]; exact t2, t3⟩
        · have hc2 := c2 ((y2 v).trans b1) b4
          rw [if_pos rfl] at hc2
          refine Or.inr ⟨_, s2, hc2, ?_, ?_, f1.tr (b4.v.tr (FV.u (by omega))), a5.tr b5⟩
          · rw [hr3]
            unfold j_X12_readsPost_24
            rw [e_good g2', zc_n, if_neg (show ¬ (1 : Int) = 0 by decide), if_pos e, b2, zc_n, B_p42 b3.2.2]
          · obtain ⟨t1, t2, t3⟩ := b3
            exact ⟨by rw [zu_ne (by omega)]; exact t1, by rw [zu_ne (by omega)]; exact t2, t3⟩
      · have hc2 := c2 (y5 v) y3
        rw [if_pos rfl] at hc2
        refine Or.inr ⟨_, s2, hc2, ?_, ?_, f1.tr (y3.v.tr (FV.u (by omega))), a5.tr y4⟩
        · rw [hr, y1, zc_n, B_p24 y2.2.2]
        · obtain ⟨t1, t2, t3⟩ := y2
          exact ⟨by rw [zu_ne (by omega)]; exact t1, by rw [zu_ne (by omega)]; exact t2, t3⟩
    · omega
  · have hc := c1 (w5 (-2)) w3
    rw [if_pos rfl] at hc
    refine Or.inr ⟨_, s1, hc, ?_, ?_, w3.v.tr (FV.u (by omega)), w4⟩
    · unfold f_X12_readsPost
      rw [w1, zc_n, B_on w2.2.2, zc_n, e_bad w2.2.2, zc_n, if_pos (show (0 : Int) = 0 from rfl), B_p24 w2.2.2]
    · obtain ⟨t1, t2, t3⟩ := w2
      exact ⟨by rw [zu_ne (by omega)]; exact t1, by rw [zu_ne (by omega)]; exact t2, t3⟩
end K4
