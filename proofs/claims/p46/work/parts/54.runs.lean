/-! Whole turns, and runs of them. -/
def LR (d : zD) (b : Nat) (s : Nat → Int) : Prop := ∃ K L, RC K L D0 d b s (1000 * s 4 + s 2) ∧ RZ L (s 0) (s 3) (rT s)
/-- a line's and its host's cells -/
def Fg (g b : Nat) (d d' : zD) : Prop := ∀ c, c ≠ g → c < b ∨ b + 30 ≤ c → d' c = d c
theorem Fg.tr {g b : Nat} {a c e : zD} (h : Fg g b a c) (q : Fg g b c e) : Fg g b a e := fun k h1 h2 => (q k h1 h2).trans (h k h1 h2)
theorem Fg.rf {g b : Nat} {a : zD} : Fg g b a a := fun _ _ _ => rfl
theorem Fr.g {g b : Nat} {d d' : zD} (h : Fr b d d') : Fg g b d d' := fun c _ hc => h c (by omega)
theorem Fr0.g {b g : Nat} {d d' : zD} (h : Fr0 b d d') : Fg g b d d' := fun c _ hc => h c (by omega)
/-- numbers of the row that a turn leaves -/
def Fz (s s' : Nat → Int) : Prop := (∀ k, k < 12 → k ≠ 3 → k ≠ 4 → k ≠ 5 → s' k = s k) ∧ P3 s s'
theorem Fz.tr {a c e : Nat → Int} (h : Fz a c) (q : Fz c e) : Fz a e := ⟨fun k h1 h2 h3 h4 => (q.1 k h1 h2 h3 h4).trans (h.1 k h1 h2 h3 h4), h.2.tr q.2⟩
theorem Fz.rf {a : Nat → Int} : Fz a a := ⟨fun _ _ _ _ _ => rfl, P3.rf⟩
theorem Fq.z {s s' : Nat → Int} (h : Fq s s') : Fz s s' := ⟨fun k h1 h2 h3 h4 => h.1 k (by omega) h2 h4 (by omega) (by omega), h.2⟩
/-- what a turn tells -/
def TF (k x v j : Int) (s s' : Nat → Int) : Prop :=
  (1 ≤ s' 29 ∧ ∀ w : Int, 0 ≤ w → w < 5 → s' (700 + 5 * (s' 29 - 1) + w).toNat = w5 w k x v j (s' 3)) ∧ s 3 < s' 3 ∧
  (k = 3 → x = -1 ∧ v = 0 ∧ j = 0 ∧ s' 3 = s 3 + 1 ∧ s' 24 = zw (s 24 + 1) ∧ s' 23 = s 23 ∧ s' 19 = s 19) ∧
  (k ≠ 3 → ((0 ≤ k ∧ k ≤ 2) ∧ 0 ≤ x ∧ x < s 0) ∧ s' 24 = s 24 ∧ s' 23 = (if k = 2 then zw (s 23 + 1) else s 23) ∧ zw (s' 19) = zw (s 19 + j - (if v = 0 then 0 else 1)) ∧
    rT s' x (11 + k) = zw (rT s x (11 + k) + 1) ∧ TVr k v ∧ (1 ≤ j ∧ j ≤ (if k = 2 then 1 else s 7)) ∧ (v ≠ 0 → rT s' x 5 = 0 ∧ rT s' x 4 = 1 ∧ rT s' x 3 = 1) ∧ (zR (s 19) → zR (s' 19)))
section RUNS
variable {d : zD} {b g : Nat}
theorem R_turnK {K L : Int → Int → List Int} {ds : zD} (h : RC K L D0 d b (ds 401) (1000 * ds 401 4 + ds 401 2)) (hz : RZ L (ds 401 0) (ds 401 3) (rT (ds 401))) (hg : 6 ≤ g ∧ g < b) (h4 : ds 401 4 ≤ 19000) : ∃ d' ds' v j, f_X1_makeTurn g b d = some (0, d') ∧ f_X12_turns ds = some (0, ds') ∧ LR d' b (ds' 401) ∧ ds' 401 4 = ds 401 4 + 1 ∧ Fg g b d d' ∧ Ft ds ds' ∧ Fz (ds 401) (ds' 401) ∧ TF (cK L (us (ds 401) 4 (ds 401 4 + 1)) (ds 401 4 + 1)) (cX L (us (ds 401) 4 (ds 401 4 + 1)) (ds 401 4 + 1)) v j (ds 401) (ds' 401) := by
  have hh := h
  obtain ⟨⟨s8, s9, s10, -⟩, -, -, -, -, -, -, -, -, -, hI, -⟩ := hh
  have hI1 := hI
  obtain ⟨⟨i1, i2⟩, -, ⟨i3, i4⟩, i5, ⟨i6, i7⟩, -⟩ := hI1
  -- the turn's number
  have h1 := RC_pair (i := 10) (j := 4) (v := ds 401 4 + 1) (N' := 1000 * ds 401 4 + ds 401 2) h RS_p10 (by omega) (fun q => by
    unfold RI
    rw [us_ne (i := 4) (j := 0) (by omega), us_ne (i := 4) (j := 1) (by omega), us_ne (i := 4) (j := 2) (by omega), us_ne (i := 4) (j := 3) (by omega), us_eq, us_ne (i := 4) (j := 5) (by omega), us_ne (i := 4) (j := 6) (by omega), us_ne (i := 4) (j := 7) (by omega), us_ne (i := 4) (j := 8) (by omega), us_ne (i := 4) (j := 9) (by omega), us_ne (i := 4) (j := 10) (by omega), us_ne (i := 4) (j := 11) (by omega), us_ne (i := 4) (j := 26) (by omega), us_ne (i := 4) (j := 27) (by omega), us_ne (i := 4) (j := 28) (by omega), us_ne (i := 4) (j := 29) (by omega), us_ne (i := 4) (j := 46) (by omega)]
    obtain ⟨a0, a1, a2, a3, a4, a5, a6, a7, a8, a9, a10, a11, a12, a13, a14, a15, a16, a17⟩ := q
    exact ⟨a0, a1, a2, a3, ⟨by omega, by omega⟩, a5, a6, a7, a8, a9, a10, a11, a12, a13, a14, a15, a16, a17⟩) (by rw [us_ne (by omega)]; exact Int.le_refl _)
  generalize hs1 : us (ds 401) 4 (ds 401 4 + 1) = s1 at h1 ⊢
  have es1 : ∀ k, k ≠ 4 → ds 401 k = s1 k := fun k hk => by rw [← hs1, us_ne hk]
  have es4 : s1 4 = ds 401 4 + 1 := by rw [← hs1, us_eq]
  have eT1 : rT s1 = rT (ds 401) := by rw [← hs1]; exact rT_f (by omega)
  obtain ⟨d2, k1, k2, k3, k4, k5⟩ := k_choose (t := ds 401 4 + 1) h1 hg
  have h2 := RC_g h1 hg k2
  obtain ⟨s2, m1, m2, m3, m4, m5⟩ := m_next h1 es1 (by omega)
  have e2 : s2 401 = ds 401 := m2 401 (by omega)
  have cTi := cT_in h1 (ds 401 4 + 1)
  have cEi := cE_in h1
  have cPi := cP_in h1
  have hh1 := h1
  obtain ⟨-, -, -, -, -, -, -, -, -, -, -, hIL1, -⟩ := hh1
  generalize hk : cK L s1 (ds 401 4 + 1) = k at k3 k5 m1 m5 ⊢
  generalize hx : cX L s1 (ds 401 4 + 1) = x at k4 m4 ⊢
  have hs3 : zu s2 401 4 (ds 401 4 + 1) 401 = s1 := by rw [zu_r, e2]; exact hs1
  rw [← hs3] at h2
  have ft3 : Ft ds (zu s2 401 4 (ds 401 4 + 1)) := ⟨fun c c1 c2 => by rw [zu_row c1]; exact m2 c c2, fun j j1 j2 j3 => by rw [zu_o (by omega)]; exact m3 j j2 j3⟩
  have n8 : (zu s2 401 4 (ds 401 4 + 1)) 400 8 = x := by rw [zu_o (by omega)]; exact m4
  have n9 : k = 0 → (zu s2 401 4 (ds 401 4 + 1)) 400 9 = cP s1 := fun q => by rw [zu_o (by omega)]; exact m5 q
  generalize hs3' : zu s2 401 4 (ds 401 4 + 1) = s3 at h2 ft3 n8 n9 hs3
  have z3 : RZ L (s3 401 0) (s3 401 3) (rT (s3 401)) := by
    rw [hs3, ← es1 0 (by omega), ← es1 3 (by omega), eT1]
    exact hz
  have fg2 : Fg g b d d2 := fun c c1 c2 => by rw [k2 c c1, zu_row (by omega)]
  have hx3A : k = 3 → x = -1 := fun hk3 => by
    rw [← hx]
    rw [← hk] at hk3
    unfold cK at hk3
    unfold cX
    by_cases ht : cT s1 (ds 401 4 + 1) = -1
    · rw [if_pos ht] at hk3 ⊢
      by_cases hb : s1 25 < s1 10 ∧ cE L s1 ≠ -1
      · rw [if_pos hb] at hk3; omega
      · rw [if_neg hb] at hk3 ⊢
        by_cases hp : cP s1 = -1
        · rw [if_pos hp] at hk3 ⊢
          by_cases he : cE L s1 = -1
          · exact he
          · rw [if_neg he] at hk3; omega
        · rw [if_neg hp] at hk3; omega
    · rw [if_neg ht] at hk3; omega
  have hkxA : ¬ k = 3 → (0 ≤ k ∧ k ≤ 2) ∧ (0 ≤ x ∧ x < ds 401 0) ∧ (k ≠ 2 → rT (ds 401) x 4 = 1) ∧ (k = 1 → L 1 x ≠ []) ∧ (k = 0 → 0 ≤ cP s1 ∧ cP s1 < 16) := fun hk3 => by
    rw [← hk, ← hx, ← eT1]
    rw [← hk] at hk3
    have e0 := es1 0 (by omega)
    have e1 := es1 1 (by omega)
    obtain ⟨-, ⟨l1, l2⟩, -⟩ := RC_i h
    unfold cK at hk3 ⊢
    unfold cX
    by_cases ht : cT s1 (ds 401 4 + 1) = -1
    · simp only [if_pos ht] at hk3 ⊢
      by_cases hb : s1 25 < s1 10 ∧ cE L s1 ≠ -1
      · simp only [if_pos hb]
        have := cEi.resolve_left hb.2
        exact ⟨by omega, by omega, fun _ => this.2.1, fun _ => this.2.2, fun q => absurd q (by decide)⟩
      · simp only [if_neg hb] at hk3 ⊢
        by_cases hp : cP s1 = -1
        · simp only [if_pos hp] at hk3 ⊢
          by_cases he : cE L s1 = -1
          · rw [if_pos he] at hk3; omega
          · simp only [if_neg he]
            have := cEi.resolve_left he
            exact ⟨by omega, by omega, fun _ => this.2.1, fun _ => this.2.2, fun q => absurd q (by decide)⟩
        · simp only [if_neg hp]
          have hp1 := cPi.resolve_left hp
          have hl1 := hIL1 _ hp1.1.1 hp1.1.2
          exact ⟨by omega, by omega, fun _ => hp1.2, fun q => absurd q (by decide), fun _ => by omega⟩
    · simp only [if_neg ht]
      have := cTi.resolve_left ht
      exact ⟨by omega, by omega, fun q => absurd rfl q, fun q => absurd q (by decide), fun q => absurd q (by decide)⟩
  have hd10 : d2 1 0 = ds 401 0 := by
    have hh2 := h2
    obtain ⟨-, -, -, -, -, -, -, -, -, -, -, -, -, -, hU2, -⟩ := hh2
    rw [hU2.1, hs3, ← es1 0 (by omega)]
  have ecl : f_X1_makeTurn g b d = if k = 3 then (zl (d2 b 9) fun v41 => zl (zw (v41 + 1)) fun v45 => zl (zu d2 b 9 v45) fun d => zg 13 12 <| zl (d (b + 28) (12 : Int).toNat) fun v59 => zl (zw (v59 + 1)) fun v61 => zg 13 12 <| zl (zu d (b + 28) (12 : Int).toNat v61) fun d => l_X1_makeTurn_161 g b zF 0 0 0 d) else (zc (f_X1_noteBeginning g b d2) fun _ d => zl (d g 1) fun v50 => if v50 = 2 then l_X1_makeTurn_71 g b zF 0 0 1 d else zg 6 1 <| zl (d (b + 27) (1 : Int).toNat) fun v90 => l_X1_makeTurn_71 g b zF 0 0 v90 d) := by
    unfold f_X1_makeTurn
    rw [zl_n, zl_n, zl_n, s10, zw_id (x := ds 401 4 + 1) (by omega) (by omega), zl_n, zu_q, k1, zc_n, zl_n, k4, e_has6, zc_n]
    by_cases hk3 : k = 3
    · have := hx3A hk3
      rw [if_pos hk3, if_neg (show ¬ (0 ≤ x ∧ x < d2 1 0) by omega), if_pos rfl]
    · have hx2 := (hkxA hk3).2.1
      rw [if_neg hk3, if_pos (show 0 ≤ x ∧ x < d2 1 0 by rw [hd10]; exact hx2), if_neg (show ¬ (1 : Int) = 0 by decide)]
  have erf : f_X12_turns ds = if k = 3 then (zc (f_X12_counts 12 s3) fun _ d => zc (f_X12_passes 1 d) fun _ d => zc (f_X12_keepsTurn 3 (-1) 0 0 d) fun _ d => some (0, d)) else (zc (f_X12_remembers k x s3) fun _ d => zc (f_X12_tries x k d) fun v58 d => if v58 = 0 then (if k = 2 then j_X12_turns_93 k x v58 d else zc (f_X12_isMissed x d) fun _ d => j_X12_turns_93 k x v58 d) else zc (f_X12_puts x 5 0 d) fun _ d => zc (f_X12_puts x 4 1 d) fun _ d => j_X12_turns_93 k x v58 d) := by
    have e4 : s2 401 (4 : Int).toNat = ds 401 4 := by rw [e2]; rfl
    unfold f_X12_turns
    rw [m1, zc_n, zl_n, m4, zg_t (by omega), zl_n, e4, zl_n, zw_id (by omega) (by omega), zg_t (by omega), zl_n]
    show (if k = 3 then zc (f_X12_counts 12 (zu s2 401 4 (ds 401 4 + 1))) _ else zc (f_X12_remembers k x (zu s2 401 4 (ds 401 4 + 1))) _) = _
    rw [hs3']
  -- behind the tries: what is due, the log
  have fin : ∀ {K' L' : Int → Int → List Int} {D' : Int → List Int} {d5 s5 : zD} {N' j v : Int}, RC K' L' D' d5 b (s5 401) N' → RZ L' (s5 401 0) (s5 401 3) (rT (s5 401)) → N' ≤ 1000 * ds 401 4 + ds 401 2 + 1000 → s5 401 4 = ds 401 4 + 1 → s5 401 2 = ds 401 2 → ∃ d' ds', l_X1_makeTurn_161 g b zF j v 0 d5 = some (0, d') ∧ f_X12_keepsTurn (d5 g 1) (d5 g 2) v j s5 = some (0, ds') ∧ LR d' b (ds' 401) ∧ ds' 401 4 = ds 401 4 + 1 ∧ Fg g b d5 d' ∧ Fs s5 ds' ∧ Fz (s5 401) (ds' 401) ∧ (∀ c, c < 700 → c ≠ 29 → ds' 401 c = s5 401 c) ∧ 1 ≤ ds' 401 29 ∧ ∀ w : Int, 0 ≤ w → w < 5 → ds' 401 (700 + 5 * (ds' 401 29 - 1) + w).toNat = w5 w (d5 g 1) (d5 g 2) v j (s5 401 3) := by
    intro K' L' D' d5 s5 N' j v h5 z5 hN5 h54 h52
    obtain ⟨⟨j1, j2⟩, -⟩ := RC_i h5
    have := zF_big
    obtain ⟨d6, K6, D6, q1, q2, q3, q4⟩ := R_dues (r := v) (j := j) hg (s5 401 0).toNat zF h5 z5 (i := 0) (by omega) (by omega) (fun y y0 y1 => by omega) (by omega)
    have h6 := RC_D0 q2 q3
    obtain ⟨d7, s7, p1, p2, p3, p4, p5, p6, p7, p8⟩ := R_log (k := d6 g 1) (t := d6 g 2) (e := v) (m := j) h6
    have eg : d6 g = d5 g := q4 g (by omega)
    refine ⟨d7, s7, by rw [q1, p1, zc_n], by rw [← eg]; exact p2, ?_, by rw [p6 4 (by omega) (by omega)]; exact h54, fun c c1 c2 => by rw [p4 c (by omega) (by omega)]; exact q4 c (by omega), p5, ⟨fun c c1 c2 c3 c4 => p6 c (by omega) (by omega), P3.e (by
      funext y u
      unfold rM
      split
      · rw [p6 _ (by omega) (by omega)]
      · rfl)⟩, p6, p7, by rw [← eg]; exact p8⟩
    refine ⟨_, L', RC_N p3 (by rw [p6 4 (by omega) (by omega), p6 2 (by omega) (by omega), h54, h52]; omega) (by rw [p6 4 (by omega) (by omega), p6 2 (by omega) (by omega), h54, h52]; omega), ?_⟩
    rw [p6 0 (by omega) (by omega), p6 3 (by omega) (by omega)]
    have e7 : rT (s7 401) = rT (s5 401) := by
      funext y u
      unfold rT
      split
      · rw [p6 _ (by omega) (by omega)]
      · rfl
    rw [e7]
    exact z5
  rw [ecl, erf]
  by_cases hk3 : k = 3
  · rw [if_pos hk3, if_pos hk3]
    have hx3 := hx3A hk3
    have h3 := R_acc h2 (k := 12) (by omega)
    have e3 : aD s3 12 401 3 = ds 401 3 := by rw [aD_k (by omega) (by omega), hs3, ← es1 3 (by omega)]
    obtain ⟨s5, L5, D5, w1, w2, w3, w4, w5, w6, w7⟩ := R_wait h3 (k := 1) (by omega) (by omega)
    have s9' : d2 b 9 = ds 401 3 := by rw [k2 b (by omega), zu_ne (by omega)]; exact s9
    have e28 : (zu d2 b 9 (ds 401 3 + 1)) (b + 28) (12 : Int).toNat = d2 (b + 28) (12 : Int).toNat := zu_o (by omega)
    rw [e3, zu_comm (a := b + 28) (c := b) (Or.inl (by omega))] at w2
    have q0 : s5 401 4 = ds 401 4 + 1 := by rw [w5.1 4 (by omega) (by omega) (by omega) (by omega), aD_k (by omega) (by omega), hs3, es4]
    have q2 : s5 401 2 = ds 401 2 := by rw [w5.1 2 (by omega) (by omega) (by omega) (by omega), aD_k (by omega) (by omega), hs3, ← es1 2 (by omega)]
    obtain ⟨d', ds', f1, f2, f3, f4, f5, f6, f7, f8, f9, f10⟩ := fin (j := 0) (v := 0) w2 w3 (by omega) q0 q2
    have eg1 : (zu (zu d2 b 9 (ds 401 3 + 1)) (b + 28) (12 : Int).toNat (zw (d2 (b + 28) (12 : Int).toNat + 1))) g 1 = 3 := by rw [zu_o (by omega), zu_o (by omega), k3, hk3]
    have eg2 : (zu (zu d2 b 9 (ds 401 3 + 1)) (b + 28) (12 : Int).toNat (zw (d2 (b + 28) (12 : Int).toNat + 1))) g 2 = -1 := by rw [zu_o (by omega), zu_o (by omega), k4, hx3]
    rw [eg1, eg2] at f2 f10
    have t3 : ds' 401 3 = ds 401 3 + 1 := by rw [f8 3 (by omega) (by omega), w7, e3]
    have a24 : aD s3 12 401 24 = zw (s3 401 24 + 1) := by
      unfold aD
      rw [zu_r, show (12 + 12 : Int).toNat = 24 from rfl, us_eq]
    have a23 : ∀ c, c < 50 → c ≠ 24 → aD s3 12 401 c = s3 401 c := fun c c1 c2 => by
      unfold aD
      rw [zu_r, show (12 + 12 : Int).toNat = 24 from rfl, us_ne c2]
    refine ⟨d', ds', 0, 0, ?_, ?_, f3, f4, Fg.tr fg2 (Fg.tr (Fg.tr (Fr.u (by omega)).g (Fr.u (by omega)).g) f5), Ft.tr ft3 (Ft.tr Fs.a.t (Ft.tr w4.t f6.t)), ?_, ⟨f9, fun w w0 w1 => ?_⟩, by omega, fun _ => ⟨hx3, rfl, rfl, t3, ?_, ?_, ?_⟩, fun q => absurd hk3 q⟩
    rotate_left 3
    · rw [f10 w w0 w1, hk3, hx3, f8 3 (by omega) (by omega)]
    · rw [f8 24 (by omega) (by omega), w5.1 24 (by omega) (by omega) (by omega) (by omega), a24, hs3, ← es1 24 (by omega)]
    · rw [f8 23 (by omega) (by omega), w5.1 23 (by omega) (by omega) (by omega) (by omega), a23 23 (by omega) (by omega), hs3, ← es1 23 (by omega)]
    · rw [f8 19 (by omega) (by omega), w5.1 19 (by omega) (by omega) (by omega) (by omega), a23 19 (by omega) (by omega), hs3, ← es1 19 (by omega)]
    · rw [zl_n, s9', zl_n, zw_id (by omega) (by omega), zl_n, zg_t (by omega), zl_n, e28, zl_n, zg_t (by omega), zl_n]
      exact f1
    · rw [e_counts (by omega), zc_n, w1, zc_n, f2, zc_n]
    · refine Fz.tr ⟨fun c c1 c2 c3 c4 => ?_, P3.e (by rw [aD_M (by omega), hs3, ← hs1]; exact rM_f (by omega))⟩ (Fz.tr w5.q.z f7)
      rw [aD_k (by omega) (by omega), hs3, ← es1 c c3]
  · rw [if_neg hk3, if_neg hk3]
    obtain ⟨hk2, hx2, hon, hsl, hpl⟩ := hkxA hk3
    have hx3 : 0 ≤ x ∧ x < s3 401 0 := by rw [hs3, ← es1 0 (by omega)]; exact hx2
    obtain ⟨d4, s4, b1, b2, b3, b4, b5, b6, b7, b8, b9, b10, b11⟩ := R_begin (p := cP s1) h2 z3 hg hx3 hk2 k3 k4 (fun q => ⟨k5 q, n9 q, hpl q⟩)
    have hgk4 : d4 g 1 = k := by rw [b5 g (by omega)]; exact k3
    have hgx4 : d4 g 2 = x := by rw [b5 g (by omega)]; exact k4
    have hx4 : 0 ≤ x ∧ x < s4 401 0 := by rw [b7 0 (by omega) (by omega)]; exact hx3
    have hh4 := b3
    obtain ⟨-, ⟨aS, -⟩, -, -, -, -, -, -, -, -, ⟨-, -, -, -, -, -, -, t7, -⟩, -⟩ := hh4
    have a1 : d4 (b + 27) (1 : Int).toNat = s4 401 7 := aS 1 (by omega) (by omega)
    generalize hmost : (if k = 2 then (1 : Int) else s4 401 7) = most
    have hm5 : most ≤ 5 := by rw [← hmost]; split <;> omega
    have e401 : zu s4 400 7 0 401 = s4 401 := zu_row (by omega)
    obtain ⟨m, v, d5, s5, K5, L5, D5, c1, c2, c3, c4, c5, c6, c7, c8, c9, c10⟩ := R_tries (g := g) (k := k) (x := x) (most := most) hg hk2 hm5 5 zF zF (ds := zu s4 400 7 0) (j := 0) (r := 0) (by rw [e401]; exact b3) (by rw [e401]; exact b4) (by rw [e401]; exact hx4) hgk4 hgx4 (by omega) (by omega) (by omega) zu_eq (fun q _ => hsl q) ⟨fun _ => Or.inl rfl, fun _ => by decide⟩ (by have := zF_big; omega) (by have := zF_big; omega)
    rw [e401] at c9 c10
    have hgk5 : d5 g 1 = k := by rw [c7 g (by omega)]; exact hgk4
    have hgx5 : d5 g 2 = x := by rw [c7 g (by omega)]; exact hgx4
    have k50 : ∀ j, j < 12 → j ≠ 3 → j ≠ 5 → s5 401 j = s1 j := fun j j1 j2 j3 => by rw [c9.1 j (by omega) j2 j3 (by omega) (by omega), b7 j (by omega) (by omega), hs3]
    have hx5 : 0 ≤ x ∧ x < s5 401 0 := by rw [k50 0 (by omega) (by omega) (by omega), ← es1 0 (by omega)]; exact hx2
    have hon5 : k ≠ 2 → rT (s5 401) x 4 = 1 := fun q => by
      have r1 := c5
      obtain ⟨-, -, hQ5, -⟩ := r1
      have r2 := (hQ5 x hx5.1 hx5.2).2.1
      have r3 := b3
      obtain ⟨-, -, hQ4, -⟩ := r3
      have r4 := (hQ4 x hx4.1 hx4.2).2.1
      rw [c7 (b + 17) (by omega), r4, b8 x 4 (by omega), hs3, eT1, hon q] at r2
      exact r2.symm
    obtain ⟨d6, s6, e1, e2', e3, e4, e5, e6, e7, e8, e9, e10⟩ := R_end (v := v) c5 c6 hg hx5 hgk5 hgx5 hon5
    have q0 : s6 401 4 = ds 401 4 + 1 := by rw [e7 4 (by omega) (by omega), k50 4 (by omega) (by omega) (by omega), es4]
    have q2 : s6 401 2 = ds 401 2 := by rw [e7 2 (by omega) (by omega), k50 2 (by omega) (by omega) (by omega), ← es1 2 (by omega)]
    obtain ⟨d', ds', f1, f2, f3, f4, f5, f6, f7, f8, f9, f10⟩ := fin (j := m) (v := v) e3 e4 (by omega) q0 q2
    have hgk6 : d6 g 1 = k := by rw [e5 g (by omega)]; exact hgk5
    have hgx6 : d6 g 2 = x := by rw [e5 g (by omega)]; exact hgx5
    rw [hgk6, hgx6] at f2 f10
    have h67 : s6 400 7 = m := by rw [e6 400 (by omega)]; exact c3
    have hmost1 : 1 ≤ most := by rw [← hmost]; split <;> omega
    obtain ⟨l1, ⟨l2, l3⟩, l4, l5, l6, -, l9⟩ := c10
    obtain ⟨l7, l8⟩ := l4 rfl (by omega)
    have k3s : ∀ c, c < 50 → c ≠ 4 → s3 401 c = ds 401 c := fun c c1 c2 => by rw [hs3, ← es1 c c2]
    have hT0 : ∀ y u : Int, rT (s3 401) y u = rT (ds 401) y u := fun y u => by rw [hs3, eT1]
    have d7 : ∀ c, c < 700 → c ≠ 29 → ds' 401 c = s6 401 c := f8
    have dT : ∀ y u : Int, rT (ds' 401) y u = rT (s6 401) y u := fun y u => by
      unfold rT
      split
      · rw [d7 _ (by omega) (by omega)]
      · rfl
    have h45 : ∀ u : Int, (u = 3 ∨ u = 11 + k) → rT (s5 401) x u = rT (s4 401) x u := fun u hu => by
      have z5 := c5
      have z4 := b3
      obtain ⟨-, -, hQ5, -⟩ := z5
      obtain ⟨-, -, hQ4, -⟩ := z4
      have y5 := hQ5 x hx5.1 hx5.2
      have y4 := hQ4 x hx4.1 hx4.2
      rw [c7 (b + 16) (by omega), c7 (b + 24) (by omega)] at y5
      rcases hu with rfl | rfl
      · exact y5.1.symm.trans y4.1
      · exact (y5.2.2.2.2.2.2.2 k hk2.1 (by omega)).symm.trans (y4.2.2.2.2.2.2.2 k hk2.1 (by omega))
    have t37 : ds' 401 3 = s5 401 3 := by rw [d7 3 (by omega) (by omega), e7 3 (by omega) (by omega)]
    have tf : TF k x v m (ds 401) (ds' 401) := by
      refine ⟨⟨f9, fun w w0 w1 => ?_⟩, ?_, fun q => absurd q hk3, fun _ => ⟨⟨hk2, hx2⟩, ?_, ?_, ?_, ?_, c4, ⟨by omega, ?_⟩, fun hv => ⟨?_, ?_, ?_⟩, fun q => ?_⟩⟩
      · rw [f10 w w0 w1, d7 3 (by omega) (by omega)]
      · rw [t37, ← k3s 3 (by omega) (by omega), ← b7 3 (by omega) (by omega)]
        exact l8
      · rw [d7 24 (by omega) (by omega), e7 24 (by omega) (by omega), c9.1 24 (by omega) (by omega) (by omega) (by omega) (by omega), b7 24 (by omega) (by omega), k3s 24 (by omega) (by omega)]
      · rw [d7 23 (by omega) (by omega), e7 23 (by omega) (by omega), c9.1 23 (by omega) (by omega) (by omega) (by omega) (by omega), b10, k3s 23 (by omega) (by omega)]
      · rw [d7 19 (by omega) (by omega), e7 19 (by omega) (by omega), l6, b7 19 (by omega) (by omega), k3s 19 (by omega) (by omega)]
        congr 1
        split <;> simp
      · rw [dT, e8 x (11 + k) (by omega), h45 _ (Or.inr rfl), b9, hT0]
      · rw [← k3s 7 (by omega) (by omega), ← b7 7 (by omega) (by omega), hmost]
        omega
      · rw [dT]; exact (e9 hv).1
      · rw [dT]; exact (e9 hv).2
      · rw [dT, e8 x 3 (by omega), h45 _ (Or.inl rfl)]
        rcases l1 hv with q | q
        · exact absurd rfl q
        · exact q
      · rw [d7 19 (by omega) (by omega), e7 19 (by omega) (by omega)]
        exact l9 (by rw [b7 19 (by omega) (by omega), k3s 19 (by omega) (by omega)]; exact q)
    refine ⟨d', ds', v, m, ?_, ?_, f3, f4, Fg.tr fg2 (Fg.tr b5.g (Fg.tr c7.g (Fg.tr (fun c c1 c2 => e5 c c2) f5))), Ft.tr ft3 (Ft.tr b6.t (Ft.tr (Ft.u (by omega)) (Ft.tr c8 (Ft.tr e6.t f6.t)))), ?_, tf⟩
    · rw [b1, zc_n, zl_n, hgk4]
      have hm1 : l_X1_makeTurn_71 g b zF 0 0 most d4 = some (0, d') := by
        rw [c1]
        unfold j_X1_makeTurn_124
        rw [e1, zc_n]
        exact f1
      by_cases hkk : k = 2
      · rw [if_pos hkk]
        rw [if_pos hkk] at hmost
        rw [hmost]
        exact hm1
      · rw [if_neg hkk, zg_t (by omega), zl_n, a1]
        rw [if_neg hkk] at hmost
        rw [hmost]
        exact hm1
    · have htr : f_X12_tries x k s4 = some (v, s5) := by
        unfold f_X12_tries j_X12_tries_16
        by_cases hkk : k = 2
        · rw [if_pos hkk, zl_n]
          rw [if_pos hkk] at hmost
          rw [hmost]
          exact c2
        · rw [if_neg hkk, zg_t (by omega), zl_n, zl_n]
          rw [if_neg hkk] at hmost
          show l_X12_tries_25 zF x k (s4 401 7) 0 _ = _
          rw [hmost]
          exact c2
      rw [b2, zc_n, htr, zc_n]
      refine e2' ?_
      unfold j_X12_turns_93
      rw [zl_n, h67, f2, zc_n]
    · refine Fz.tr ⟨fun c c1 c2 c3 c4 => ?_, P3.tr (P3.tr (P3.e (by rw [b11, hs3, ← hs1]; exact rM_f (by omega))) c9.2) (P3.e e10)⟩ f7
      rw [e7 c (by omega) (by omega), k50 c c1 c2 c4, ← es1 c c3]
theorem R_turn {ds : zD} (h : LR d b (ds 401)) (hg : 6 ≤ g ∧ g < b) (h4 : ds 401 4 ≤ 19000) : ∃ d' ds', f_X1_makeTurn g b d = some (0, d') ∧ f_X12_turns ds = some (0, ds') ∧ LR d' b (ds' 401) ∧ ds' 401 4 = ds 401 4 + 1 ∧ Fg g b d d' ∧ Ft ds ds' ∧ Fz (ds 401) (ds' 401) := by
  obtain ⟨K, L, h, hz⟩ := h
  obtain ⟨d', ds', v, j, a1, a2, a3, a4, a5, a6, a7, -⟩ := R_turnK h hz hg h4
  exact ⟨d', ds', a1, a2, a3, a4, a5, a6, a7⟩
theorem R_turns_loop (hg : 6 ≤ g ∧ g < b) (n : Int) (had : Int) (hn : n ≤ 1000) : ∀ (k q q' : Nat) {d ds : zD} {i : Int}, LR d b (ds 401) → 0 ≤ i → i + k = n → ds 401 4 + k ≤ 19000 → k < q → k < q' → ∃ d' ds', l_X1_makeTurns_2 g b q n i d = some (0, d') ∧ l_X12_runsNow_8 q' n had i ds = (zc (f_X12_inState 3 ds') fun v25 d => zl (zw (v25 - had)) fun v29 => some (v29, d)) ∧ LR d' b (ds' 401) ∧ ds' 401 4 = ds 401 4 + k ∧ Fg g b d d' ∧ Ft ds ds' ∧ Fz (ds 401) (ds' 401) := by
  intro k
  induction k with
  | zero =>
    intro q q' d ds i h i0 ik h4 hq hq'
    obtain ⟨q, rfl⟩ : ∃ q0, q = q0 + 1 := ⟨q - 1, by omega⟩
    obtain ⟨q', rfl⟩ : ∃ q0, q' = q0 + 1 := ⟨q' - 1, by omega⟩
    refine ⟨d, ds, ?_, ?_, h, by omega, Fg.rf, Ft.rf, Fz.rf⟩
    · show l_X1_makeTurns_2F g b _ n i d = _
      unfold l_X1_makeTurns_2F
      rw [if_pos (by omega)]
    · show l_X12_runsNow_8F _ n had i ds = _
      unfold l_X12_runsNow_8F
      rw [if_pos (by omega)]
  | succ k ih =>
    intro q q' d ds i h i0 ik h4 hq hq'
    obtain ⟨q, rfl⟩ : ∃ q0, q = q0 + 1 := ⟨q - 1, by omega⟩
    obtain ⟨q', rfl⟩ : ∃ q0, q' = q0 + 1 := ⟨q' - 1, by omega⟩
    obtain ⟨d1, s1, r1, r2, r3, r4, r5, r6, r7⟩ := R_turn h hg (by omega)
    obtain ⟨d2, s2, q1, q2, q3, q4, q5, q6, q7⟩ := ih q q' (i := i + 1) r3 (by omega) (by omega) (by omega) (by omega) (by omega)
    refine ⟨d2, s2, ?_, ?_, q3, by omega, Fg.tr r5 q5, Ft.tr r6 q6, Fz.tr r7 q7⟩
    · show l_X1_makeTurns_2F g b _ n i d = _
      unfold l_X1_makeTurns_2F
      rw [if_neg (by omega), r1, zc_n, zl_n, zw_id (by omega) (by omega), q1]
    · show l_X12_runsNow_8F _ n had i ds = _
      unfold l_X12_runsNow_8F
      rw [if_neg (by omega), r2, zc_n, zl_n, zw_id (by omega) (by omega), q2]
/-- messages in a state -/
def cSt (s : Nat → Int) (v : Int) : Int := cnt (fun m => decide (rM s m 3 = v)) 0 (s 2).toNat
theorem r_inState {ds : zD} {v : Int} (h : 0 ≤ ds 401 2 ∧ ds 401 2 ≤ 40) : ∀ (k q : Nat) (n m : Int), k < q → 0 ≤ m → m + k = ds 401 2 → 0 ≤ n → n ≤ m → l_X12_inState_4 q v n m ds = some (n + cnt (fun m => decide (rM (ds 401) m 3 = v)) m k, ds) := by
  intro k
  induction k with
  | zero =>
    intro q n m hq h0 hm hn hnm
    obtain ⟨q, rfl⟩ : ∃ q', q = q' + 1 := ⟨q - 1, by omega⟩
    have e2 : ds 401 (2 : Int).toNat = ds 401 2 := rfl
    show l_X12_inState_4F _ v n m ds = _
    unfold l_X12_inState_4F
    rw [zg_t (by omega), zl_n, e2, if_pos (by omega)]
    simp [cnt]
  | succ k ih =>
    intro q n m hq h0 hm hn hnm
    obtain ⟨q, rfl⟩ : ∃ q', q = q' + 1 := ⟨q - 1, by omega⟩
    have e2 : ds 401 (2 : Int).toNat = ds 401 2 := rfl
    show l_X12_inState_4F _ v n m ds = _
    unfold l_X12_inState_4F cnt
    rw [zg_t (by omega), zl_n, e2, if_neg (by omega), e_message0 (by omega) (by omega), zc_n]
    by_cases hp : rM (ds 401) m 3 = v
    · rw [if_pos hp, zl_n, zl_n, zw_id (x := n + 1) (by omega) (by omega), zw_id (x := m + 1) (by omega) (by omega), ih q (n + 1) (m + 1) (by omega) (by omega) (by omega) (by omega) (by omega), if_pos (decide_eq_true hp), Int.add_assoc]
    · rw [if_neg hp, zl_n, zw_id (x := m + 1) (by omega) (by omega), ih q n (m + 1) (by omega) (by omega) (by omega) (by omega) (by omega), if_neg (fun q => hp (of_decide_eq_true q)), Int.zero_add]
theorem e_inState {ds : zD} {v : Int} (h : 0 ≤ ds 401 2 ∧ ds 401 2 ≤ 40) : f_X12_inState v ds = some (cSt (ds 401) v, ds) := by
  unfold f_X12_inState cSt
  rw [r_inState h (ds 401 2).toNat zF 0 0 (by have := zF_big; omega) (by omega) (by omega) (by omega) (by omega), Int.zero_add]
theorem k_countIn_loop {s : Nat → Int} {v : Int} (h : LR d b s) : ∀ (k q : Nat) (n m : Int), k < q → 0 ≤ m → m + k = s 2 → 0 ≤ n → n ≤ m → l_X3_countIn_4 b q v n m d = some (n + cnt (fun m => decide (rM s m 3 = v)) m k, d) := by
  obtain ⟨K, L, h, -⟩ := h
  obtain ⟨-, -, i4, -⟩ := RC_i h
  have hh := h
  obtain ⟨hS, -, -, hM, -⟩ := hh
  have s2 := hS.2.2.2.2.2.2.2.2
  intro k
  induction k with
  | zero =>
    intro q n m hq h0 hm hn hnm
    obtain ⟨q, rfl⟩ : ∃ q', q = q' + 1 := ⟨q - 1, by omega⟩
    show l_X3_countIn_4F b _ v n m d = _
    unfold l_X3_countIn_4F
    rw [zl_n, s2, if_pos (by omega)]
    simp [cnt]
  | succ k ih =>
    intro q n m hq h0 hm hn hnm
    obtain ⟨q, rfl⟩ : ∃ q', q = q' + 1 := ⟨q - 1, by omega⟩
    have q5 := ((hM m h0 (by omega)).2.2.2.2.2.2 (fun _ _ _ hq => by cases hq)).1
    show l_X3_countIn_4F b _ v n m d = _
    unfold l_X3_countIn_4F cnt
    rw [zl_n, s2, if_neg (by omega), zg_t (by omega), zl_n, q5]
    by_cases hp : rM s m 3 = v
    · rw [if_pos hp, zl_n, zl_n, zw_id (x := n + 1) (by omega) (by omega), zw_id (x := m + 1) (by omega) (by omega), ih q (n + 1) (m + 1) (by omega) (by omega) (by omega) (by omega) (by omega), if_pos (decide_eq_true hp), Int.add_assoc]
    · rw [if_neg hp, zl_n, zw_id (x := m + 1) (by omega) (by omega), ih q n (m + 1) (by omega) (by omega) (by omega) (by omega) (by omega), if_neg (fun q => hp (of_decide_eq_true q)), Int.zero_add]
theorem LR_2 {s : Nat → Int} (h : LR d b s) : (1 ≤ s 0 ∧ s 0 ≤ 8) ∧ (0 ≤ s 1 ∧ s 1 ≤ 16) ∧ (0 ≤ s 2 ∧ s 2 ≤ 40) ∧ (0 ≤ s 4 ∧ s 4 ≤ 20000) ∧ 6 ≤ b := by
  obtain ⟨K, L, h, -⟩ := h
  obtain ⟨-, -, -, -, -, -, -, -, -, -, ⟨i0, i1, i2, -, i4, -⟩, -, -, -, -, hb⟩ := h
  exact ⟨i0, i1, i2, i4, hb⟩
theorem k_countIn {s : Nat → Int} {v : Int} (h : LR d b s) : f_X3_countIn b v d = some (cSt s v, d) := by
  obtain ⟨-, -, i4, -⟩ := LR_2 h
  unfold f_X3_countIn cSt
  rw [k_countIn_loop h (s 2).toNat zF 0 0 (by have := zF_big; omega) (by omega) (by omega) (by omega) (by omega), Int.zero_add]
theorem k_delivered {s : Nat → Int} (h : LR d b s) : f_X2_delivered b d = some (cSt s 3, d) := by
  unfold f_X2_delivered
  rw [k_countIn h, zc_n]
theorem R_run {ds : zD} {n : Int} (h : LR d b (ds 401)) (hg : 6 ≤ g ∧ g < b) (hn : 0 ≤ n ∧ n ≤ 1000) (h4 : ds 401 4 + n ≤ 19000) : ∃ d' ds', f_X1_makeTurns g b n d = some (0, d') ∧ f_X12_runsNow n ds = some (zw (cSt (ds' 401) 3 - cSt (ds 401) 3), ds') ∧ LR d' b (ds' 401) ∧ ds' 401 4 = ds 401 4 + n ∧ Fg g b d d' ∧ Ft ds ds' ∧ Fz (ds 401) (ds' 401) := by
  obtain ⟨-, -, i4, -⟩ := LR_2 h
  obtain ⟨d', ds', r1, r2, r3, r4, r5, r6, r7⟩ := R_turns_loop hg n (cSt (ds 401) 3) (by omega) n.toNat zF zF h (i := 0) (by omega) (by omega) (by omega) (by have := zF_big; omega) (by have := zF_big; omega)
  refine ⟨d', ds', r1, ?_, r3, by omega, r5, r6, r7⟩
  unfold f_X12_runsNow
  rw [e_inState i4, zc_n, r2, e_inState (by rw [r7.1 2 (by omega) (by omega) (by omega) (by omega)]; exact i4), zc_n, zl_n]
end RUNS
