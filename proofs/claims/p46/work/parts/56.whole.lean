/-! What the whole class and the whole reference have in common. -/
theorem LR_d {d d' : zD} {b : Nat} {s : Nat → Int} (h : LR d b s) (e : ∀ c, (1 ≤ c ∧ c ≤ 5) ∨ (b ≤ c ∧ c < b + 30) → d' c = d c) : LR d' b s := by
  obtain ⟨K, L, h, hz⟩ := h
  obtain ⟨hS, hA, hQ, hM, hD, hK, hL, hKL, hP, hG, hI, hIL, hIT, hIM, hU, hb⟩ := h
  refine ⟨K, L, ⟨?_, ?_, RQ_d hQ fun c _ _ => e c (by omega), RM_d hM fun c _ _ => e c (by omega), RD_d hD (e _ (by omega)), KR_d hK fun c _ _ => e c (by omega), hL, hKL, hP, RG_d hG (e _ (by omega)) (e _ (by omega)), hI, hIL, hIT, hIM, RU_d hU fun c _ _ => e c (by omega), hb⟩, hz⟩
  · unfold RS
    rw [e b (by omega), e (b + 1) (by omega)]
    exact hS
  · unfold RA
    rw [e (b + 27) (by omega), e (b + 28) (by omega), e (b + 29) (by omega)]
    exact hA
theorem rT_c {s s' : Nat → Int} (e : ∀ k, k < 800 → s' k = s k) : rT s' = rT s := by
  funext y u
  unfold rT
  split
  · rw [e _ (by omega)]
  · rfl
theorem rM_c {s s' : Nat → Int} (e : ∀ k, k < 800 → s' k = s k) : rM s' = rM s := by
  funext y u
  unfold rM
  split
  · rw [e _ (by omega)]
  · rfl
theorem LR_s {d : zD} {b : Nat} {s s' : Nat → Int} (h : LR d b s) (e : ∀ k, k < 800 → s' k = s k) : LR d b s' := by
  obtain ⟨K, L, h, hz⟩ := h
  obtain ⟨-, i3, -⟩ := RC_i h
  obtain ⟨hS, hA, hQ, hM, hD, hK, hL, hKL, hP, hG, hI, hIL, hIT, hIM, hU, hb⟩ := h
  refine ⟨K, L, ?_, ?_⟩
  · unfold RC
    rw [rT_c e, rM_c e, e 0 (by omega), e 2 (by omega), e 3 (by omega), e 4 (by omega), e 8 (by omega), e 46 (by omega)]
    refine ⟨RS_s hS fun k hk => e k (by omega), RA_s hA i3.2 fun k hk => e k (by omega), hQ, hM, hD, hK, hL, hKL, hP, ?_, RI_s hI fun k hk => e k (by omega), RIL_s hIL i3.2 fun k hk => e k (by omega), hIT, hIM, hU, hb⟩
    obtain ⟨g1, g2, g3⟩ := hG
    have i29 : 0 ≤ s 29 ∧ s 29 ≤ 20 := by
      obtain ⟨-, -, -, -, -, -, -, -, -, -, -, -, -, -, -, q, -⟩ := hI
      exact q
    refine ⟨by rw [e 29 (by omega)]; exact g1, g2, fun i w i0 i1 w0 w1 => ?_⟩
    rw [e 29 (by omega)] at i1 ⊢
    rw [e _ (by omega)]
    exact g3 i w i0 i1 w0 w1
  · rw [rT_c e, e 0 (by omega), e 3 (by omega)]
    exact hz
def pst (ds : zD) (i : Nat) : Nat → Int := fun j => ds 404 (800 * i + j)
def HR (dc ds : zD) : Prop := (0 ≤ dc 8 1 ∧ dc 8 1 < 8) ∧ dc 8 2 = ds 400 5 ∧ (0 ≤ ds 400 5 ∧ ds 400 5 ≤ 8) ∧ ∀ i : Nat, (i : Int) < ds 400 5 → LR dc (120 + 30 * ((dc 8 1 + i) % 8).toNat) (pst ds i) ∧ pst ds i 4 ≤ 9999
def SR (dc ds : zD) : Prop := dc 0 12 = ds 400 6 ∧ (ds 400 6 = 0 ∨ ds 400 6 = 1) ∧ (ds 400 6 = 1 → LR dc 90 (ds 403) ∧ ds 403 4 ≤ 9999)
def IR (dc ds : zD) : Prop := dc 10 1 = ds 400 11 ∧ (0 ≤ ds 400 11 ∧ ds 400 11 ≤ 600) ∧ (∀ j : Int, 0 ≤ j → j < ds 400 11 → dc 11 j.toNat = zand (ds 405 j.toNat) 255 ∧ 0 ≤ dc 11 j.toNat ∧ dc 11 j.toNat ≤ 255)
def ER (dc ds : zD) : Prop := dc 10 5 = ds 400 12 ∧ dc 10 6 = ds 400 13
def OR (dc ds : zD) : Prop := dc 0 11 = ds 400 24 ∧ (0 ≤ ds 400 24 ∧ ds 400 24 ≤ 160) ∧ ∀ j : Int, 0 ≤ j → j < ds 400 24 → dc 25 j.toNat = ds 408 j.toNat
def GR (dc ds : zD) : Prop := LR dc 30 (ds 401) ∧ ds 401 4 ≤ 9999 ∧ HR dc ds ∧ SR dc ds ∧ IR dc ds ∧ ER dc ds ∧ OR dc ds
theorem GR_d {dc dc' ds : zD} (h : GR dc ds) (e : ∀ c, c ≠ 6 → c ≠ 7 → c < 60 ∨ 90 ≤ c → dc' c = dc c) : GR dc' ds := by
  obtain ⟨h1, h2, ⟨a1, a2, a3, a4⟩, ⟨b1, b2, b3⟩, ⟨c1, c2, c3⟩, ⟨f1, f2⟩, ⟨g1, g2, g3⟩⟩ := h
  unfold GR HR SR IR ER OR
  rw [e 8 (by omega) (by omega) (by omega), e 0 (by omega) (by omega) (by omega), e 10 (by omega) (by omega) (by omega), e 11 (by omega) (by omega) (by omega), e 25 (by omega) (by omega) (by omega)]
  exact ⟨LR_d h1 fun c hc => e c (by omega) (by omega) (by omega), h2, ⟨a1, a2, a3, fun i hi => ⟨LR_d (a4 i hi).1 fun c hc => e c (by omega) (by omega) (by omega), (a4 i hi).2⟩⟩, ⟨b1, b2, fun q => ⟨LR_d (b3 q).1 fun c hc => e c (by omega) (by omega) (by omega), (b3 q).2⟩⟩, ⟨c1, c2, c3⟩, ⟨f1, f2⟩, ⟨g1, g2, g3⟩⟩
theorem GR_s {dc ds ds' : zD} (h : GR dc ds) (e : ∀ c, c ≠ 400 → c ≠ 401 → c ≠ 407 → ds' c = ds c) (e1 : ∀ k, k < 800 → ds' 401 k = ds 401 k) (e0 : ∀ j, j ≠ 0 → j ≠ 7 → j ≠ 8 → j ≠ 9 → ds' 400 j = ds 400 j) : GR dc ds' := by
  obtain ⟨h1, h2, ⟨a1, a2, a3, a4⟩, ⟨b1, b2, b3⟩, ⟨c1, c2, c3⟩, ⟨f1, f2⟩, ⟨g1, g2, g3⟩⟩ := h
  have ep : ∀ i, pst ds' i = pst ds i := fun i => by
    unfold pst
    rw [e 404 (by omega) (by omega) (by omega)]
  unfold GR HR SR IR ER OR
  rw [e 403 (by omega) (by omega) (by omega), e 405 (by omega) (by omega) (by omega), e 408 (by omega) (by omega) (by omega), e0 5 (by omega) (by omega) (by omega) (by omega), e0 6 (by omega) (by omega) (by omega) (by omega), e0 11 (by omega) (by omega) (by omega) (by omega), e0 12 (by omega) (by omega) (by omega) (by omega), e0 13 (by omega) (by omega) (by omega) (by omega), e0 24 (by omega) (by omega) (by omega) (by omega), e1 4 (by omega)]
  exact ⟨LR_s h1 e1, h2, ⟨a1, a2, a3, fun i hi => by rw [ep]; exact a4 i hi⟩, ⟨b1, b2, b3⟩, ⟨c1, c2, c3⟩, ⟨f1, f2⟩, ⟨g1, g2, g3⟩⟩
/-- cells of either side -/
def Fc (d d' : zD) : Prop := ∀ c, 400 ≤ c → d' c = d c
def Fm (d d' : zD) : Prop := ∀ c, c < 400 → d' c = d c
theorem Fc.tr {a c e : zD} (h : Fc a c) (q : Fc c e) : Fc a e := fun k h1 => (q k h1).trans (h k h1)
theorem Fm.tr {a c e : zD} (h : Fm a c) (q : Fm c e) : Fm a e := fun k h1 => (q k h1).trans (h k h1)
theorem Fc.rf {a : zD} : Fc a a := fun _ _ => rfl
theorem Fm.rf {a : zD} : Fm a a := fun _ _ => rfl
theorem Fc.u {a : zD} {c i : Nat} {v : Int} (h : c < 400) : Fc a (zu a c i v) := fun k hk => zu_row (by omega)
theorem Fm.u {a : zD} {c i : Nat} {v : Int} (h : 400 ≤ c) : Fm a (zu a c i v) := fun k hk => zu_row (by omega)
/-- the line as it is is kept, to be undone -/
theorem R_keep {dc ds : zD} (h : GR dc ds) : ∃ dc' ds', f_X0_remember 30 dc = some (0, dc') ∧ f_X12_keeps ds = some (0, ds') ∧ GR dc' ds' ∧ (∀ c, c ≠ 8 → c < 120 ∨ 360 ≤ c → dc' c = dc c) ∧ (∀ c, c ≠ 400 → c ≠ 404 → ds' c = ds c) ∧ (∀ j, j ≠ 5 → ds' 400 j = ds 400 j) := by
  have hg := h
  obtain ⟨h1, h2, ⟨a1, a2, a3, a4⟩, hS, hI, hE, hO⟩ := h
  -- the reference
  have hpre : ∃ (s1 : zD) (n : Int), f_X12_keeps ds = j_X12_keeps_37 s1 ∧ (∀ c, c ≠ 400 → c ≠ 404 → s1 c = ds c) ∧ (∀ j, j ≠ 5 → s1 400 j = ds 400 j) ∧ s1 400 5 = n ∧ (0 ≤ n ∧ n ≤ 7) ∧ (n = ds 400 5 ∧ (∀ j, s1 404 j = ds 404 j) ∨ n = 7 ∧ ds 400 5 = 8 ∧ ∀ j, j < 5600 → s1 404 j = ds 404 (800 + j)) := by
    unfold f_X12_keeps
    rw [zl_n]
    by_cases h8 : ds 400 5 = 8
    · obtain ⟨s0, r1, r2, r3⟩ := e_copies (a0 := 404) (n0 := 6400) (a2 := 404) (n2 := 6400) (p := 800) (t := 0) (m := 5600) (d := ds) (by omega) (by omega) (Or.inr (by omega)) (by omega) (by omega)
      have r1' : f_X12_copies 404 6400 404 6400 800 0 5600 ds = some (0, s0) := r1
      refine ⟨zu s0 400 5 7, 7, ?_, fun c c1 c2 => (zu_row c1).trans (r2 c c2), fun j hj => ?_, zu_eq, by omega, Or.inr ⟨rfl, h8, fun j hj => ?_⟩⟩
      · rw [if_pos h8, r1', zc_n, zl_n, zl_n, zl_n, r2 400 (by omega), h8]
        rfl
      · rw [zu_ne (Or.inr hj), r2 400 (by omega)]
      · rw [zu_o (by omega), r3, if_pos (by omega)]
        rfl
    · rw [if_neg h8]
      exact ⟨ds, ds 400 5, rfl, fun _ _ _ => rfl, fun _ _ => rfl, rfl, by omega, Or.inl ⟨rfl, fun _ => rfl⟩⟩
  obtain ⟨s1, n, p1, p2, p3, p4, p5, p6⟩ := hpre
  obtain ⟨s2, q1, q2, q3⟩ := e_copies (a0 := 401) (n0 := 800) (a2 := 404) (n2 := 6400) (p := 0) (t := 800 * n.toNat) (m := 800) (d := s1) (by omega) (by omega) (Or.inl (by omega)) (by omega) (by omega)
  have q1' : f_X12_copies 401 800 404 6400 0 (800 * n) 800 s1 = some (0, s2) := by
    have e : ((800 * n.toNat : Nat) : Int) = 800 * n := by omega
    rw [e] at q1
    exact q1
  have e5 : s2 400 5 = n := by rw [q2 400 (by omega)]; exact p4
  have emod : f_X12_keeps ds = some (0, zu s2 400 5 (n + 1)) := by
    rw [p1]
    unfold j_X12_keeps_37
    rw [zl_n, p4, zl_n, zw_id (x := 800 * n) (by omega) (by omega), q1', zc_n, zl_n, e5, zl_n, zw_id (x := n + 1) (by omega) (by omega), zl_n]
  have hs401 : zu s2 400 5 (n + 1) 401 = ds 401 := by rw [zu_row (by omega), q2 401 (by omega), p2 401 (by omega) (by omega)]
  have hpn : pst (zu s2 400 5 (n + 1)) n.toNat = fun j => if j < 800 then ds 401 j else s1 404 (800 * n.toNat + j) := by
    funext j
    unfold pst
    rw [zu_o (by omega), q3, p2 401 (by omega) (by omega)]
    by_cases hj : j < 800
    · rw [if_pos (by omega), if_pos hj, show 0 + (800 * n.toNat + j - 800 * n.toNat) = j by omega]
    · rw [if_neg (by omega), if_neg hj]
  have hpo : ∀ i : Nat, (i : Int) < n → ∀ j, j < 800 → pst (zu s2 400 5 (n + 1)) i j = s1 404 (800 * i + j) := fun i hi j hj => by
    unfold pst
    rw [zu_o (by omega), q3, if_neg (by omega)]
  -- the class
  have hrem := zrem_of (dc 8 1 + dc 8 2) 8 (by omega) (by omega) (by omega) (by omega)
  have hrem2 := zrem_of (dc 8 1 + 1) 8 (by omega) (by omega) (by omega) (by omega)
  obtain ⟨d1, r1, r2, r3⟩ := R_copy (d := dc) (b := 120 + 30 * ((dc 8 1 + dc 8 2) % 8).toNat) h1 (by omega) (by omega)
  have e81 : d1 8 = dc 8 := r2 8 (by omega)
  have ecl : f_X0_remember 30 dc = some (0, if 8 ≤ dc 8 2 then zu d1 8 1 ((dc 8 1 + 1) % 8) else zu d1 8 2 (dc 8 2 + 1)) := by
    unfold f_X0_remember
    rw [zl_n, zl_n, zl_n, zw_id (x := dc 8 1 + dc 8 2) (by omega) (by omega), zn_8, zl_n, hrem, zg_t (by omega), r1, zc_n, zl_n, e81]
    by_cases hc : 8 ≤ dc 8 2
    · rw [if_pos hc, if_pos hc, zl_n, zl_n, zw_id (x := dc 8 1 + 1) (by omega) (by omega), zn_8, zl_n, hrem2, zl_n]
    · rw [if_neg hc, if_neg hc, zl_n, zl_n, zw_id (x := dc 8 2 + 1) (by omega) (by omega), zl_n]
  generalize hd2 : (if 8 ≤ dc 8 2 then zu d1 8 1 ((dc 8 1 + 1) % 8) else zu d1 8 2 (dc 8 2 + 1)) = d2 at ecl
  have f2 : ∀ c, c ≠ 8 → d2 c = d1 c := fun c hc => by
    rw [← hd2]
    split
    · rw [zu_row hc]
    · rw [zu_row hc]
  have f3 : ∀ c, c ≠ 8 → c < 120 ∨ 360 ≤ c → d2 c = dc c := fun c c1 c2 => by rw [f2 c c1, r2 c (by omega)]
  have o1 : d2 8 1 = (if n = 7 ∧ ds 400 5 = 8 then (dc 8 1 + 1) % 8 else dc 8 1) := by
    rw [← hd2, a2]
    by_cases hc : 8 ≤ ds 400 5
    · rw [if_pos hc, zu_eq, if_pos]
      rcases p6 with ⟨e, -⟩ | ⟨e, e', -⟩
      · omega
      · exact ⟨e, e'⟩
    · rw [if_neg hc, zu_ne (by omega), e81, if_neg (by omega)]
  have o2 : d2 8 2 = n + 1 := by
    rw [← hd2, a2]
    rcases p6 with ⟨e, -⟩ | ⟨e, e', -⟩
    · rw [if_neg (by omega), zu_eq, e]
    · rw [if_pos (by omega), zu_ne (by omega), e81, a2, e', e]
      rfl
  have n5 : (zu s2 400 5 (n + 1)) 400 5 = n + 1 := zu_eq
  refine ⟨d2, _, ecl, emod, ⟨?_, ?_, ⟨?_, ?_, ?_, fun i hi => ?_⟩, ?_, ?_, ?_, ?_⟩, f3, fun c c1 c2 => by rw [zu_row c1, q2 c c2, p2 c c1 c2], fun j hj => by rw [zu_ne (Or.inr hj), q2 400 (by omega), p3 j hj]⟩
  · rw [hs401]; exact LR_d h1 fun c hc => f3 c (by omega) (by omega)
  · rw [hs401]; exact h2
  · rw [o1]; split <;> omega
  · rw [o2, n5]
  · rw [n5]; omega
  · rw [n5] at hi
    have hLd : ∀ {bb : Nat} {s : Nat → Int}, LR d1 bb s → 120 ≤ bb → LR d2 bb s := fun hl hb => LR_d hl fun c hc => f2 c (by omega)
    by_cases hin : (i : Int) = n
    · have hi2 : i = n.toNat := by omega
      subst hi2
      have hb : (d2 8 1 + (n.toNat : Int)) % 8 = (dc 8 1 + dc 8 2) % 8 := by
        rw [o1, a2]
        rcases p6 with ⟨e, -⟩ | ⟨e, e', -⟩
        · rw [if_neg (by omega)]; omega
        · rw [if_pos ⟨e, e'⟩]; omega
      rw [hb]
      refine ⟨hLd (LR_s r3 fun k hk => ?_) (by omega), ?_⟩
      · rw [hpn]; exact if_pos hk
      · rw [hpn]; exact h2
    · have hin2 : (i : Int) < n := by omega
      rcases p6 with ⟨e, e'⟩ | ⟨e, e', e''⟩
      · have a := a4 i (by omega)
        have hb : (d2 8 1 + (i : Int)) % 8 = (dc 8 1 + i) % 8 := by rw [o1, if_neg (by omega)]
        have hp : ∀ k, k < 800 → pst (zu s2 400 5 (n + 1)) i k = pst ds i k := fun k hk => by rw [hpo i hin2 k hk, e']; rfl
        rw [hb, hp 4 (by omega)]
        refine ⟨hLd (LR_s (LR_d a.1 fun c hc => r2 c ?_) hp) (by omega), a.2⟩
        rw [a2]
        omega
      · have a := a4 (i + 1) (by omega)
        have hb : (d2 8 1 + (i : Int)) % 8 = (dc 8 1 + ((i + 1 : Nat) : Int)) % 8 := by rw [o1, if_pos ⟨e, e'⟩]; omega
        have hp : ∀ k, k < 800 → pst (zu s2 400 5 (n + 1)) i k = pst ds (i + 1) k := fun k hk => by
          rw [hpo i hin2 k hk, e'' _ (by omega)]
          unfold pst
          rw [show 800 + (800 * i + k) = 800 * (i + 1) + k by omega]
        rw [hb, hp 4 (by omega)]
        refine ⟨hLd (LR_s (LR_d a.1 fun c hc => r2 c ?_) hp) (by omega), a.2⟩
        rw [a2, e']
        omega
  · obtain ⟨b1, b2, b3⟩ := hS
    unfold SR
    rw [f3 0 (by omega) (by omega), zu_ne (Or.inr (by omega)), q2 400 (by omega), p3 6 (by omega), zu_row (by omega), q2 403 (by omega), p2 403 (by omega) (by omega)]
    exact ⟨b1, b2, fun q => ⟨LR_d (b3 q).1 fun c hc => f3 c (by omega) (by omega), (b3 q).2⟩⟩
  · unfold IR
    rw [f3 10 (by omega) (by omega), f3 11 (by omega) (by omega), zu_ne (Or.inr (by omega)), q2 400 (by omega), p3 11 (by omega), zu_row (by omega), q2 405 (by omega), p2 405 (by omega) (by omega)]
    exact hI
  · unfold ER
    rw [f3 10 (by omega) (by omega), zu_ne (Or.inr (by omega)), zu_ne (Or.inr (by omega)), q2 400 (by omega), p3 12 (by omega), p3 13 (by omega)]
    exact hE
  · unfold OR
    rw [f3 0 (by omega) (by omega), f3 25 (by omega) (by omega), zu_ne (Or.inr (by omega)), q2 400 (by omega), p3 24 (by omega), zu_row (by omega), q2 408 (by omega), p2 408 (by omega) (by omega)]
    exact hO
