/-! A turn. -/
def D0 : Int → List Int := fun _ => []
section TURN
variable {K L : Int → Int → List Int} {D : Int → List Int} {d : zD} {b : Nat} {s : Nat → Int} {N : Int}
theorem RC_N {N' : Int} (h : RC K L D d b s N) (hN : N ≤ N') (h9 : N' ≤ 1000000000) : RC K L D d b s N' := by
  obtain ⟨p1, p2, p3, p4, p5, p6, p7, p8, p9, p10, p11, p12⟩ := h
  exact ⟨p1, p2, p3, p4, p5, p6, p7, p8, p9, p10, RI_N p11 hN h9, p12⟩
theorem RP_T {n k tm lim : Int} {T T' M : zM} (h : RP L n k tm lim T M) (e : ∀ y u : Int, u ≤ 10 → T' y u = T y u) : RP L n k tm lim T' M := by
  refine ⟨fun y y0 yn => ?_, fun m m0 mk => RJm_c (h.2.1 m m0 mk) (fun _ _ => rfl) (e _ _ (by omega)), fun y y0 yn => ?_⟩
  · rw [e y 6 (by omega), e y 7 (by omega), e y 8 (by omega), e y 9 (by omega)]
    exact h.1 y y0 yn
  · unfold RJx
    rw [e y 6 (by omega), e y 9 (by omega), e y 8 (by omega), e y 7 (by omega), e y 1 (by omega), e y 10 (by omega), e y 2 (by omega), e y 4 (by omega), e y 5 (by omega)]
    exact h.2.2 y y0 yn
/-- a frame that lets the counts of how often change -/
def Fr0 (b : Nat) (d d' : zD) : Prop := ∀ c, c < b ∨ b + 30 ≤ c ∨ c = b + 17 → d' c = d c
theorem Fr.w {b : Nat} {d d' : zD} (h : Fr b d d') : Fr0 b d d' := fun c hc => h c (by omega)
theorem Fr0.tr {b : Nat} {d d' d2 : zD} (h : Fr0 b d d') (g : Fr0 b d' d2) : Fr0 b d d2 := fun c a => (g c a).trans (h c a)
theorem Fr0.u {b a i : Nat} {d : zD} {v : Int} (h : (b ≤ a ∧ a < b + 30) ∧ a ≠ b + 17) : Fr0 b d (zu d a i v) := fun c hc => zu_row (by omega)
theorem uT_comm {s : Nat → Int} {x v w : Int} (hx : 0 ≤ x) : uT (uT s x 5 v) x 4 w = uT (uT s x 4 w) x 5 v := by
  funext j
  unfold uT us
  by_cases h4 : j = (50 + 16 * x + 4).toNat
  · rw [if_pos h4, if_neg (by omega), if_pos h4]
  · rw [if_neg h4]
    by_cases h5 : j = (50 + 16 * x + 5).toNat
    · rw [if_pos h5, if_pos h5]
    · rw [if_neg h5, if_neg h5, if_neg h4]
/-- what is asked where a terminal's misses or its being on are set -/
def RSTj (s : Nat → Int) (x w v : Int) : Prop := (w = 4 → v = 1 → rT s x 5 < s 8) ∧ (w = 5 → 0 ≤ v ∧ (rT s x 4 = 1 → v < s 8))
/-- a number of a terminal that both have, but for its bits -/
theorem RC_st {x v w : Int} {c : Nat} (h : RC K L D d b s N) (hx : 0 ≤ x ∧ x < s 0) (hc : (c = 17 ∧ w = 4 ∧ (v = 0 ∨ v = 1)) ∨ (c = 18 ∧ w = 5) ∨ (c = 16 ∧ w = 3 ∧ (v = 0 ∨ v = 1))) (hj : RSTj s x w v) : RC K L D (zu d (b + c) x.toNat v) b (uT s x w v) N := by
  obtain ⟨⟨i1, i2⟩, -, i4, -, hN⟩ := RC_i h
  have hx8 : 0 ≤ x ∧ x < 8 := by omega
  have hq46 := RC_q h
  have hh := h
  obtain ⟨hS, hA, hQ, hM, hD, hK, hL, hKL, hP, hG, hI, hIL, hIT, hIM, hU, hb⟩ := hh
  have ek : ∀ k, k < 50 ∨ 178 ≤ k → uT s x w v k = s k := fun k hk => uT_k hx8 (by omega) hk
  have hT : rT (uT s x w v) = up2 (rT s) x w v := rT_u hx8 (by omega)
  have hM' : rM (uT s x w v) = rM s := rM_uT hx8 (by omega)
  have eT : ∀ y u : Int, u ≠ w → rT (uT s x w v) y u = rT s y u := fun y u hu => by rw [hT, up2_ne (Or.inr hu)]
  refine RC_gen h (fun k k1 k2 => ek k (by omega)) (fun k k1 => ek k (by omega)) (by rw [ek 46 (by omega)]; exact hq46) ⟨Int.le_refl _, hN⟩ (fun c' hc' => zu_row (by omega)) ?_ ?_ ?_ ?_ ?_ hKL ?_ ?_ ?_ (fun y u hu => eT y u (by omega))
  · rw [hT]; exact RQ_up hQ hx.1 (by omega)
  · rw [hM']; exact RM_d hM fun c _ _ => zu_row (by omega)
  · rw [hM']
    exact RD_c hD (zu_row (by omega)) (fun y => ⟨eT _ _ (by omega), eT _ _ (by omega)⟩) fun _ _ _ _ _ => ⟨rfl, rfl⟩
  · rw [hM']; exact KR_d hK fun c _ _ => zu_row (by omega)
  · rw [hM']; exact hL
  · rw [hM']
    refine ⟨fun y y0 yn => ?_, fun m m0 mk => RJm_c (hP.2.1 m m0 mk) (fun _ _ => rfl) (eT _ 2 (by omega)), fun y y0 yn => ?_⟩
    · rw [eT y 6 (by omega), eT y 7 (by omega), eT y 8 (by omega), eT y 9 (by omega)]
      exact hP.1 y y0 yn
    · obtain ⟨g1, g2, g3, g4, g5, g6⟩ := hP.2.2 y y0 yn
      unfold RJx
      rw [eT y 6 (by omega), eT y 9 (by omega), eT y 8 (by omega), eT y 7 (by omega), eT y 1 (by omega), eT y 10 (by omega), eT y 2 (by omega)]
      refine ⟨g1, g2, g3, g4, ?_, ?_⟩
      · by_cases hyx : y = x
        · subst hyx
          by_cases h4 : w = 4
          · subst h4
            rw [hT, up2_eq, up2_ne (by omega)]
            exact hj.1 rfl
          · by_cases h5 : w = 5
            · subst h5
              rw [hT, up2_eq, up2_ne (by omega)]
              exact (hj.2 rfl).2
            · rw [eT y 4 (by omega), eT y 5 (by omega)]
              exact g5
        · rw [hT, up2_ne (Or.inl hyx), up2_ne (Or.inl hyx)]
          exact g5
      · by_cases hyx : y = x
        · subst hyx
          by_cases h5 : w = 5
          · subst h5
            rw [hT, up2_eq]
            exact (hj.2 rfl).1
          · rw [eT y 5 (by omega)]
            exact g6
        · rw [hT, up2_ne (Or.inl hyx)]
          exact g6
  · intro y y0 yn
    obtain ⟨g0, g1, g2, g3, g4, g6, g7, g8, g9, g10⟩ := hIT y y0 yn
    rw [eT y 0 (by omega), eT y 1 (by omega), eT y 2 (by omega), eT y 6 (by omega), eT y 7 (by omega), eT y 8 (by omega), eT y 9 (by omega), eT y 10 (by omega)]
    have e : ∀ w', (rT s y w' = 0 ∨ rT s y w' = 1) → w' ≠ 5 → (rT (uT s x w v) y w' = 0 ∨ rT (uT s x w v) y w' = 1) := fun w' hq h5 => by
      rw [hT]
      unfold up2
      split
      · omega
      · exact hq
    exact ⟨g0, g1, g2, e 3 g3 (by omega), e 4 g4 (by omega), g6, g7, g8, g9, g10⟩
  · rw [hM', ek 46 (by omega)]; exact hIM
/-- how often something was done with a terminal -/
theorem RC_often {x v w : Int} (h : RC K L D d b s N) (hx : 0 ≤ x ∧ x < s 0) (hw : 0 ≤ w ∧ w < 4) : RC K L D (zu d (b + 24) (w * 8 + x).toNat v) b (uT s x (11 + w) v) N := by
  obtain ⟨⟨i1, i2⟩, -, i4, -, hN⟩ := RC_i h
  have hx8 : 0 ≤ x ∧ x < 8 := by omega
  have hq46 := RC_q h
  have hh := h
  obtain ⟨hS, hA, hQ, hM, hD, hK, hL, hKL, hP, hG, hI, hIL, hIT, hIM, hU, hb⟩ := hh
  have ek : ∀ k, k < 50 ∨ 178 ≤ k → uT s x (11 + w) v k = s k := fun k hk => uT_k hx8 (by omega) hk
  have hT : rT (uT s x (11 + w) v) = up2 (rT s) x (11 + w) v := rT_u hx8 (by omega)
  have hM' : rM (uT s x (11 + w) v) = rM s := rM_uT hx8 (by omega)
  have eT : ∀ y u : Int, u ≤ 10 → rT (uT s x (11 + w) v) y u = rT s y u := fun y u hu => by rw [hT, up2_ne (by omega)]
  refine RC_gen h (fun k k1 k2 => ek k (by omega)) (fun k k1 => ek k (by omega)) (by rw [ek 46 (by omega)]; exact hq46) ⟨Int.le_refl _, hN⟩ (fun c' hc' => zu_row (by omega)) ?_ ?_ ?_ ?_ ?_ hKL ?_ ?_ ?_ (fun y u hu => by rw [hT, up2_ne (by omega)])
  · intro y y0 yn
    obtain ⟨h1, h2, h3, h4, h5, h6, h7, h8⟩ := hQ y y0 yn
    rw [eT y 3 (by omega), eT y 4 (by omega), eT y 5 (by omega), eT y 6 (by omega), eT y 7 (by omega), eT y 8 (by omega), eT y 9 (by omega), zu_row (by omega), zu_row (by omega), zu_row (by omega), zu_row (by omega), zu_row (by omega), zu_row (by omega), zu_row (by omega)]
    refine ⟨h1, h2, h3, h4, h5, h6, h7, fun w' w0 w4 => ?_⟩
    rw [hT, zu_t (by omega) (by omega)]
    by_cases hq : y = x ∧ w' = w
    · obtain ⟨rfl, rfl⟩ := hq
      rw [if_pos ⟨rfl, rfl⟩, up2_eq]
    · rw [if_neg (fun q => by omega), up2_ne (by omega)]
      exact h8 w' w0 w4
  · rw [hM']; exact RM_d hM fun c _ _ => zu_row (by omega)
  · rw [hM']
    exact RD_c hD (zu_row (by omega)) (fun y => ⟨eT _ _ (by omega), eT _ _ (by omega)⟩) fun _ _ _ _ _ => ⟨rfl, rfl⟩
  · rw [hM']; exact KR_d hK fun c _ _ => zu_row (by omega)
  · rw [hM']; exact hL
  · rw [hM']
    exact RP_T hP fun y u hu => eT y u hu
  · intro y y0 yn
    rw [eT y 0 (by omega), eT y 1 (by omega), eT y 2 (by omega), eT y 3 (by omega), eT y 4 (by omega), eT y 6 (by omega), eT y 7 (by omega), eT y 8 (by omega), eT y 9 (by omega), eT y 10 (by omega)]
    exact hIT y y0 yn
  · rw [hM', ek 46 (by omega)]; exact hIM
theorem RZ_T {s s' : Nat → Int} {n tm : Int} (h : RZ L n tm (rT s)) (e : ∀ y u : Int, u = 2 ∨ u = 10 → rT s' y u = rT s y u) : RZ L n tm (rT s') := fun y y0 yn hne => by
  rw [e y 10 (by omega), e y 2 (by omega)]
  exact h y y0 yn hne
/-- what is known between the parts of a turn -/
def TT (b g : Nat) (N : Int) (d ds : zD) (K L : Int → Int → List Int) (D : Int → List Int) : Prop := RC K L D d b (ds 401) N ∧ RZ L (ds 401 0) (ds 401 3) (rT (ds 401))
theorem k_often {x w : Int} (h : RC K L D d b s N) (hx : 0 ≤ x ∧ x < s 0) (hw : 0 ≤ w ∧ w < 4) : f_X8_countOften b w x d = some (0, zu d (b + 24) (w * 8 + x).toNat (zw (rT s x (11 + w) + 1))) := by
  obtain ⟨⟨i1, i2⟩, -⟩ := RC_i h
  obtain ⟨-, -, hQ, -⟩ := h
  have q := (hQ x hx.1 hx.2).2.2.2.2.2.2.2 w hw.1 hw.2
  unfold f_X8_countOften
  rw [zl_n, zl_n, zw_id (x := w * 8) (by omega) (by omega), zw_id (by omega) (by omega), if_neg (show ¬ w * 8 + x < 0 by omega), if_neg (show ¬ (32 : Int) ≤ w * 8 + x by omega), zg_t (by omega), zl_n, q, zl_n, zg_t (by omega), zl_n]
theorem R_beginP {ds : zD} {k x : Int} (h : RC K L D d b (ds 401) N) (hz : RZ L (ds 401 0) (ds 401 3) (rT (ds 401))) (hx : 0 ≤ x ∧ x < ds 401 0) (hk : 0 ≤ k ∧ k ≤ 2) : ∃ d1 s1, f_X8_countOften b k x d = some (0, d1) ∧ f_X12_grows x (11 + k) ds = some (0, s1) ∧ RC K L D d1 b (s1 401) N ∧ RZ L (s1 401 0) (s1 401 3) (rT (s1 401)) ∧ Fr0 b d d1 ∧ Fs ds s1 ∧ (∀ j, j < 50 → s1 401 j = ds 401 j) ∧ (∀ y u : Int, u < 11 → rT (s1 401) y u = rT (ds 401) y u) ∧ rT (s1 401) x (11 + k) = zw (rT (ds 401) x (11 + k) + 1) ∧ rM (s1 401) = rM (ds 401) := by
  obtain ⟨⟨i1, i2⟩, -, i4, i5, -⟩ := RC_i h
  have hx8 : 0 ≤ x ∧ x < 8 := by omega
  have h1 := RC_often (v := zw (rT (ds 401) x (11 + k) + 1)) h hx (w := k) (by omega)
  have hs1 : tD ds x (11 + k) (zw (rT (ds 401) x (11 + k) + 1)) 401 = uT (ds 401) x (11 + k) (zw (rT (ds 401) x (11 + k) + 1)) := tD_s
  rw [← hs1] at h1
  have ek1 : ∀ j, j < 50 → tD ds x (11 + k) (zw (rT (ds 401) x (11 + k) + 1)) 401 j = ds 401 j := fun j hj => by rw [hs1, uT_k hx8 (by omega) (by omega)]
  have eT1 : ∀ y u : Int, u < 11 → rT (tD ds x (11 + k) (zw (rT (ds 401) x (11 + k) + 1)) 401) y u = rT (ds 401) y u := fun y u hu => by rw [hs1, rT_u hx8 (by omega), up2_ne (by omega)]
  refine ⟨_, _, k_often h hx (w := k) (by omega), e_grows hx8 (by omega), h1, ?_, Fr0.u (by omega), Fs.u, ek1, eT1, by rw [hs1, rT_u hx8 (by omega), up2_eq], by rw [hs1]; exact rM_uT hx8 (by omega)⟩
  rw [ek1 0 (by omega), ek1 3 (by omega)]
  exact RZ_T hz fun y u hu => eT1 y u (by omega)
theorem RI_28 {s : Nat → Int} {v : Int} (q : RI N s) (hv : -1 ≤ v ∧ v < s 0) : RI N (us s 28 v) := by
  unfold RI
  rw [us_ne (i := 28) (j := 0) (by omega), us_ne (i := 28) (j := 1) (by omega), us_ne (i := 28) (j := 2) (by omega), us_ne (i := 28) (j := 3) (by omega), us_ne (i := 28) (j := 4) (by omega), us_ne (i := 28) (j := 5) (by omega), us_ne (i := 28) (j := 6) (by omega), us_ne (i := 28) (j := 7) (by omega), us_ne (i := 28) (j := 8) (by omega), us_ne (i := 28) (j := 9) (by omega), us_ne (i := 28) (j := 10) (by omega), us_ne (i := 28) (j := 11) (by omega), us_ne (i := 28) (j := 26) (by omega), us_ne (i := 28) (j := 27) (by omega), us_eq, us_ne (i := 28) (j := 29) (by omega), us_ne (i := 28) (j := 46) (by omega)]
  obtain ⟨a0, a1, a2, a3, a4, a5, a6, a7, a8, a9, a10, a11, a12, a13, a14, a15, a16, a17⟩ := q
  exact ⟨a0, a1, a2, a3, a4, a5, a6, a7, a8, a9, a10, a11, a12, a13, hv, a15, a16, a17⟩
theorem RI_27 {s : Nat → Int} {v : Int} (q : RI N s) (hv : -1 ≤ v ∧ v < s 0) : RI N (us s 27 v) := by
  unfold RI
  rw [us_ne (i := 27) (j := 0) (by omega), us_ne (i := 27) (j := 1) (by omega), us_ne (i := 27) (j := 2) (by omega), us_ne (i := 27) (j := 3) (by omega), us_ne (i := 27) (j := 4) (by omega), us_ne (i := 27) (j := 5) (by omega), us_ne (i := 27) (j := 6) (by omega), us_ne (i := 27) (j := 7) (by omega), us_ne (i := 27) (j := 8) (by omega), us_ne (i := 27) (j := 9) (by omega), us_ne (i := 27) (j := 10) (by omega), us_ne (i := 27) (j := 11) (by omega), us_ne (i := 27) (j := 26) (by omega), us_ne (i := 27) (j := 28) (by omega), us_eq, us_ne (i := 27) (j := 29) (by omega), us_ne (i := 27) (j := 46) (by omega)]
  obtain ⟨a0, a1, a2, a3, a4, a5, a6, a7, a8, a9, a10, a11, a12, a13, a14, a15, a16, a17⟩ := q
  exact ⟨a0, a1, a2, a3, a4, a5, a6, a7, a8, a9, a10, a11, a12, hv, a14, a15, a16, a17⟩
theorem RI_26 {s : Nat → Int} {v : Int} (q : RI N s) (hv : -1 ≤ v ∧ v < 16) : RI N (us s 26 v) := by
  unfold RI
  rw [us_ne (i := 26) (j := 0) (by omega), us_ne (i := 26) (j := 1) (by omega), us_ne (i := 26) (j := 2) (by omega), us_ne (i := 26) (j := 3) (by omega), us_ne (i := 26) (j := 4) (by omega), us_ne (i := 26) (j := 5) (by omega), us_ne (i := 26) (j := 6) (by omega), us_ne (i := 26) (j := 7) (by omega), us_ne (i := 26) (j := 8) (by omega), us_ne (i := 26) (j := 9) (by omega), us_ne (i := 26) (j := 10) (by omega), us_ne (i := 26) (j := 11) (by omega), us_ne (i := 26) (j := 27) (by omega), us_ne (i := 26) (j := 28) (by omega), us_eq, us_ne (i := 26) (j := 29) (by omega), us_ne (i := 26) (j := 46) (by omega)]
  obtain ⟨a0, a1, a2, a3, a4, a5, a6, a7, a8, a9, a10, a11, a12, a13, a14, a15, a16, a17⟩ := q
  exact ⟨a0, a1, a2, a3, a4, a5, a6, a7, a8, a9, a10, a11, hv, a13, a14, a15, a16, a17⟩
theorem RI_25 {s : Nat → Int} {v : Int} (q : RI N s) : RI N (us s 25 v) := by
  unfold RI
  rw [us_ne (i := 25) (j := 0) (by omega), us_ne (i := 25) (j := 1) (by omega), us_ne (i := 25) (j := 2) (by omega), us_ne (i := 25) (j := 3) (by omega), us_ne (i := 25) (j := 4) (by omega), us_ne (i := 25) (j := 5) (by omega), us_ne (i := 25) (j := 6) (by omega), us_ne (i := 25) (j := 7) (by omega), us_ne (i := 25) (j := 8) (by omega), us_ne (i := 25) (j := 9) (by omega), us_ne (i := 25) (j := 10) (by omega), us_ne (i := 25) (j := 11) (by omega), us_ne (i := 25) (j := 26) (by omega), us_ne (i := 25) (j := 27) (by omega), us_ne (i := 25) (j := 28) (by omega), us_ne (i := 25) (j := 29) (by omega), us_ne (i := 25) (j := 46) (by omega)]
  exact q
theorem R_begin2 {ds : zD} {g : Nat} {k x p : Int} (h2 : k = 2) (h : RC K L D d b (ds 401) N) (hz : RZ L (ds 401 0) (ds 401 3) (rT (ds 401))) (hg : 6 ≤ g ∧ g < b) (hx : 0 ≤ x ∧ x < ds 401 0) (hk : 0 ≤ k ∧ k ≤ 2) (hgk : d g 1 = k) (hgx : d g 2 = x) (hgp : k = 0 → d g 3 = p ∧ ds 400 9 = p ∧ 0 ≤ p ∧ p < 16) : ∃ d' ds', f_X1_noteBeginning g b d = some (0, d') ∧ f_X12_remembers k x ds = some (0, ds') ∧ RC K L D d' b (ds' 401) N ∧ RZ L (ds' 401 0) (ds' 401 3) (rT (ds' 401)) ∧ Fr0 b d d' ∧ Fs ds ds' ∧ (∀ j, j < 25 → j ≠ 23 → ds' 401 j = ds 401 j) ∧ (∀ y u : Int, u < 11 → rT (ds' 401) y u = rT (ds 401) y u) ∧ rT (ds' 401) x (11 + k) = zw (rT (ds 401) x (11 + k) + 1) ∧ ds' 401 23 = (if k = 2 then zw (ds 401 23 + 1) else ds 401 23) ∧ rM (ds' 401) = rM (ds 401) := by
  obtain ⟨d1, s1, ec, em, h1, z1, fr1, fs1, ek1, eT1, eO1, eM1⟩ := R_beginP h hz hx hk
  obtain ⟨⟨i1, i2⟩, -, i4, i5, -⟩ := RC_i h
  have hx8 : 0 ≤ x ∧ x < 8 := by omega
  have hgk1 : d1 g 1 = k := by rw [fr1 g (by omega)]; exact hgk
  have hgx1 : d1 g 2 = x := by rw [fr1 g (by omega)]; exact hgx
  have hh := h1
  obtain ⟨⟨-, -, -, -, -, -, -, s15, -⟩, ⟨-, aA, -⟩, -⟩ := hh
  have hx1 : 0 ≤ x ∧ x < s1 401 0 := by rw [ek1 0 (by omega)]; exact hx
  have a11 : d1 (b + 28) (11 : Int).toNat = s1 401 23 := aA 11 (by omega) (by omega)
  have hz23 : zw (11 + k) = 11 + k := zw_id (by omega) (by omega)
  have hrem : f_X12_remembers k x ds = if k = 2 then (zc (f_X12_counts 11 s1) fun _ d => zg 800 28 <| zl (zu d 401 (28 : Int).toNat x) fun d => some (0, d)) else if k = 1 then (zg 800 25 <| zl (s1 401 (25 : Int).toNat) fun v48 => zl (zw (v48 + 1)) fun v50 => zg 800 25 <| zl (zu s1 401 (25 : Int).toNat v50) fun d => zg 800 27 <| zl (zu d 401 (27 : Int).toNat x) fun d => some (0, d)) else (zg 800 25 <| zl (zu s1 401 (25 : Int).toNat 0) fun d => zl (d 400 9) fun v78 => zg 800 26 <| zl (zu d 401 (26 : Int).toNat v78) fun d => some (0, d)) := by
    unfold f_X12_remembers
    rw [zl_n, hz23, em, zc_n]
  rw [hrem]
  unfold f_X1_noteBeginning
  rw [zl_n, zl_n, hgk, hgx, ec, zc_n, zl_n, hgk1]
  rw [if_neg (show ¬ k = 0 by omega), zl_n, if_neg (show ¬ k = 1 by omega), if_pos h2, zl_n, hgx1, zl_n, zg_t (by omega), zl_n, zl_n, zg_t (by omega), zl_n, e_counts (by omega), zc_n, zg_t (by omega), zl_n]
  have h3 := R_acc h1 (k := 11) (by omega)
  have h4 := RC_pair (i := 12) (j := 28) (v := x) (N' := N) h3 RS_p12 (by omega) (fun q => RI_28 q ⟨by omega, by rw [aD_k (by omega) (by omega)]; exact hx1.2⟩) (by rw [us_ne (by omega)]; exact Int.le_refl _)
  have hs4 : zu (aD s1 11) 401 28 x 401 = us (aD s1 11 401) 28 x := zu_r
  rw [← hs4] at h4
  refine ⟨_, zu (aD s1 11) 401 28 x, rfl, rfl, ?_, ?_, ?_, ?_, fun j hj hj2 => ?_, fun y u hu => ?_, ?_, ?_, ?_⟩
  · rw [zu_o (by omega), zu_comm (Or.inl (by omega))]
    exact h4
  · rw [hs4, us_ne (by omega), us_ne (by omega), rT_f (by omega)]
    exact RZ_acc z1 (by omega)
  · exact Fr0.tr fr1 (Fr0.tr (Fr0.u (by omega)) (Fr0.u (by omega)))
  · exact Fs.tr fs1 (Fs.tr Fs.a Fs.u)
  · rw [hs4, us_ne (by omega)]
    unfold aD
    rw [zu_r, us_ne (by omega), ek1 j (by omega)]
  · rw [hs4, rT_f (by omega), aD_T (by omega), eT1 y u hu]
  · rw [hs4, rT_f (by omega), aD_T (by omega), eO1]
  · rw [if_pos h2, hs4, us_ne (by omega)]
    unfold aD
    rw [zu_r, show (12 + 11 : Int).toNat = 23 from rfl, us_eq, ek1 23 (by omega)]
  · rw [hs4, rM_f (by omega), aD_M (by omega), eM1]
theorem R_begin1 {ds : zD} {g : Nat} {k x p : Int} (h3 : k = 1) (h : RC K L D d b (ds 401) N) (hz : RZ L (ds 401 0) (ds 401 3) (rT (ds 401))) (hg : 6 ≤ g ∧ g < b) (hx : 0 ≤ x ∧ x < ds 401 0) (hk : 0 ≤ k ∧ k ≤ 2) (hgk : d g 1 = k) (hgx : d g 2 = x) (hgp : k = 0 → d g 3 = p ∧ ds 400 9 = p ∧ 0 ≤ p ∧ p < 16) : ∃ d' ds', f_X1_noteBeginning g b d = some (0, d') ∧ f_X12_remembers k x ds = some (0, ds') ∧ RC K L D d' b (ds' 401) N ∧ RZ L (ds' 401 0) (ds' 401 3) (rT (ds' 401)) ∧ Fr0 b d d' ∧ Fs ds ds' ∧ (∀ j, j < 25 → j ≠ 23 → ds' 401 j = ds 401 j) ∧ (∀ y u : Int, u < 11 → rT (ds' 401) y u = rT (ds 401) y u) ∧ rT (ds' 401) x (11 + k) = zw (rT (ds 401) x (11 + k) + 1) ∧ ds' 401 23 = (if k = 2 then zw (ds 401 23 + 1) else ds 401 23) ∧ rM (ds' 401) = rM (ds 401) := by
  obtain ⟨d1, s1, ec, em, h1, z1, fr1, fs1, ek1, eT1, eO1, eM1⟩ := R_beginP h hz hx hk
  obtain ⟨⟨i1, i2⟩, -, i4, i5, -⟩ := RC_i h
  have hx8 : 0 ≤ x ∧ x < 8 := by omega
  have hgk1 : d1 g 1 = k := by rw [fr1 g (by omega)]; exact hgk
  have hgx1 : d1 g 2 = x := by rw [fr1 g (by omega)]; exact hgx
  have hh := h1
  obtain ⟨⟨-, -, -, -, -, -, -, s15, -⟩, ⟨-, aA, -⟩, -⟩ := hh
  have hx1 : 0 ≤ x ∧ x < s1 401 0 := by rw [ek1 0 (by omega)]; exact hx
  have a11 : d1 (b + 28) (11 : Int).toNat = s1 401 23 := aA 11 (by omega) (by omega)
  have hz23 : zw (11 + k) = 11 + k := zw_id (by omega) (by omega)
  have hrem : f_X12_remembers k x ds = if k = 2 then (zc (f_X12_counts 11 s1) fun _ d => zg 800 28 <| zl (zu d 401 (28 : Int).toNat x) fun d => some (0, d)) else if k = 1 then (zg 800 25 <| zl (s1 401 (25 : Int).toNat) fun v48 => zl (zw (v48 + 1)) fun v50 => zg 800 25 <| zl (zu s1 401 (25 : Int).toNat v50) fun d => zg 800 27 <| zl (zu d 401 (27 : Int).toNat x) fun d => some (0, d)) else (zg 800 25 <| zl (zu s1 401 (25 : Int).toNat 0) fun d => zl (d 400 9) fun v78 => zg 800 26 <| zl (zu d 401 (26 : Int).toNat v78) fun d => some (0, d)) := by
    unfold f_X12_remembers
    rw [zl_n, hz23, em, zc_n]
  rw [hrem]
  unfold f_X1_noteBeginning
  rw [zl_n, zl_n, hgk, hgx, ec, zc_n, zl_n, hgk1]
  have h2 : ¬ k = 2 := by omega
  rw [if_neg (show ¬ k = 0 by omega), zl_n, if_pos h3, if_neg h2, if_pos h3, zl_n, hgx1, zl_n, zl_n, zu_ne (by omega), s15, zl_n, zg_t (by omega), zl_n, zl_n, zl_n, zg_t (by omega), zl_n, zg_t (by omega), zl_n]
  have h4 := RC_pair (i := 15) (j := 25) (v := zw (s1 401 25 + 1)) (N' := N) h1 RS_p15 (by omega) (fun q => RI_25 q) (by rw [us_ne (by omega)]; exact Int.le_refl _)
  have h5 := RC_pair (i := 13) (j := 27) (v := x) (N' := N) h4 RS_p13 (by omega) (fun q => RI_27 q ⟨by omega, by rw [us_ne (by omega)]; exact hx1.2⟩) (by rw [us_ne (by omega)]; exact Int.le_refl _)
  have hs4 : zu (zu s1 401 25 (zw (s1 401 25 + 1))) 401 27 x 401 = us (us (s1 401) 25 (zw (s1 401 25 + 1))) 27 x := by rw [zu_r, zu_r]
  rw [← hs4] at h5
  refine ⟨_, zu (zu s1 401 25 (zw (s1 401 25 + 1))) 401 27 x, rfl, rfl, ?_, ?_, ?_, ?_, fun j hj hj2 => ?_, fun y u hu => ?_, ?_, ?_, ?_⟩
  · rw [zu_comm (Or.inr (by omega))]
    exact h5
  · rw [hs4, us_ne (by omega), us_ne (by omega), us_ne (by omega), us_ne (by omega), rT_f (by omega), rT_f (by omega)]
    exact z1
  · exact Fr0.tr fr1 (Fr0.tr (Fr0.u (by omega)) (Fr0.u (by omega)))
  · exact Fs.tr fs1 (Fs.tr Fs.u Fs.u)
  · rw [hs4, us_ne (by omega), us_ne (by omega), ek1 j (by omega)]
  · rw [hs4, rT_f (by omega), rT_f (by omega), eT1 y u hu]
  · rw [hs4, rT_f (by omega), rT_f (by omega), eO1]
  · rw [if_neg h2, hs4, us_ne (by omega), us_ne (by omega), ek1 23 (by omega)]
  · rw [hs4, rM_f (by omega), rM_f (by omega), eM1]
theorem R_begin0 {ds : zD} {g : Nat} {k x p : Int} (hk0 : k = 0) (h : RC K L D d b (ds 401) N) (hz : RZ L (ds 401 0) (ds 401 3) (rT (ds 401))) (hg : 6 ≤ g ∧ g < b) (hx : 0 ≤ x ∧ x < ds 401 0) (hk : 0 ≤ k ∧ k ≤ 2) (hgk : d g 1 = k) (hgx : d g 2 = x) (hgp : k = 0 → d g 3 = p ∧ ds 400 9 = p ∧ 0 ≤ p ∧ p < 16) : ∃ d' ds', f_X1_noteBeginning g b d = some (0, d') ∧ f_X12_remembers k x ds = some (0, ds') ∧ RC K L D d' b (ds' 401) N ∧ RZ L (ds' 401 0) (ds' 401 3) (rT (ds' 401)) ∧ Fr0 b d d' ∧ Fs ds ds' ∧ (∀ j, j < 25 → j ≠ 23 → ds' 401 j = ds 401 j) ∧ (∀ y u : Int, u < 11 → rT (ds' 401) y u = rT (ds 401) y u) ∧ rT (ds' 401) x (11 + k) = zw (rT (ds 401) x (11 + k) + 1) ∧ ds' 401 23 = (if k = 2 then zw (ds 401 23 + 1) else ds 401 23) ∧ rM (ds' 401) = rM (ds 401) := by
  obtain ⟨d1, s1, ec, em, h1, z1, fr1, fs1, ek1, eT1, eO1, eM1⟩ := R_beginP h hz hx hk
  obtain ⟨⟨i1, i2⟩, -, i4, i5, -⟩ := RC_i h
  have hx8 : 0 ≤ x ∧ x < 8 := by omega
  have hgk1 : d1 g 1 = k := by rw [fr1 g (by omega)]; exact hgk
  have hgx1 : d1 g 2 = x := by rw [fr1 g (by omega)]; exact hgx
  have hh := h1
  obtain ⟨⟨-, -, -, -, -, -, -, s15, -⟩, ⟨-, aA, -⟩, -⟩ := hh
  have hx1 : 0 ≤ x ∧ x < s1 401 0 := by rw [ek1 0 (by omega)]; exact hx
  have a11 : d1 (b + 28) (11 : Int).toNat = s1 401 23 := aA 11 (by omega) (by omega)
  have hz23 : zw (11 + k) = 11 + k := zw_id (by omega) (by omega)
  have hrem : f_X12_remembers k x ds = if k = 2 then (zc (f_X12_counts 11 s1) fun _ d => zg 800 28 <| zl (zu d 401 (28 : Int).toNat x) fun d => some (0, d)) else if k = 1 then (zg 800 25 <| zl (s1 401 (25 : Int).toNat) fun v48 => zl (zw (v48 + 1)) fun v50 => zg 800 25 <| zl (zu s1 401 (25 : Int).toNat v50) fun d => zg 800 27 <| zl (zu d 401 (27 : Int).toNat x) fun d => some (0, d)) else (zg 800 25 <| zl (zu s1 401 (25 : Int).toNat 0) fun d => zl (d 400 9) fun v78 => zg 800 26 <| zl (zu d 401 (26 : Int).toNat v78) fun d => some (0, d)) := by
    unfold f_X12_remembers
    rw [zl_n, hz23, em, zc_n]
  rw [hrem]
  unfold f_X1_noteBeginning
  rw [zl_n, zl_n, hgk, hgx, ec, zc_n, zl_n, hgk1]
  have h2 : ¬ k = 2 := by omega
  have h3 : ¬ k = 1 := by omega
  obtain ⟨p1, p2, p3, p4⟩ := hgp hk0
  have hgp1 : d1 g 3 = p := by rw [fr1 g (by omega)]; exact p1
  have hp9 : (zu s1 401 25 0) 400 9 = p := by rw [zu_o (by omega), fs1 400 (by omega)]; exact p2
  rw [if_pos hk0, if_neg h2, if_neg h3, zl_n, hgp1, zl_n, zl_n, zg_t (by omega), zl_n, zl_n, zg_t (by omega), zl_n]
  have h4 := RC_pair (i := 15) (j := 25) (v := 0) (N' := N) h1 RS_p15 (by omega) (fun q => RI_25 q) (by rw [us_ne (by omega)]; exact Int.le_refl _)
  have h5 := RC_pair (i := 14) (j := 26) (v := p) (N' := N) h4 RS_p14 (by omega) (fun q => RI_26 q ⟨by omega, by omega⟩) (by rw [us_ne (by omega)]; exact Int.le_refl _)
  have hs4 : zu (zu s1 401 25 0) 401 26 p 401 = us (us (s1 401) 25 0) 26 p := by rw [zu_r, zu_r]
  rw [← hs4] at h5
  refine ⟨_, zu (zu s1 401 25 0) 401 26 p, rfl, ?_, ?_, ?_, ?_, ?_, fun j hj hj2 => ?_, fun y u hu => ?_, ?_, ?_, ?_⟩
  · show some (0, zu (zu s1 401 25 0) 401 26 ((zu s1 401 25 0) 400 9)) = _
    rw [hp9]
  · rw [zu_comm (Or.inr (by omega))]
    exact h5
  · rw [hs4, us_ne (by omega), us_ne (by omega), us_ne (by omega), us_ne (by omega), rT_f (by omega), rT_f (by omega)]
    exact z1
  · exact Fr0.tr fr1 (Fr0.tr (Fr0.u (by omega)) (Fr0.u (by omega)))
  · exact Fs.tr fs1 (Fs.tr Fs.u Fs.u)
  · rw [hs4, us_ne (by omega), us_ne (by omega), ek1 j (by omega)]
  · rw [hs4, rT_f (by omega), rT_f (by omega), eT1 y u hu]
  · rw [hs4, rT_f (by omega), rT_f (by omega), eO1]
  · rw [if_neg h2, hs4, us_ne (by omega), us_ne (by omega), ek1 23 (by omega)]
  · rw [hs4, rM_f (by omega), rM_f (by omega), eM1]
theorem R_begin {ds : zD} {g : Nat} {k x p : Int} (h : RC K L D d b (ds 401) N) (hz : RZ L (ds 401 0) (ds 401 3) (rT (ds 401))) (hg : 6 ≤ g ∧ g < b) (hx : 0 ≤ x ∧ x < ds 401 0) (hk : 0 ≤ k ∧ k ≤ 2) (hgk : d g 1 = k) (hgx : d g 2 = x) (hgp : k = 0 → d g 3 = p ∧ ds 400 9 = p ∧ 0 ≤ p ∧ p < 16) : ∃ d' ds', f_X1_noteBeginning g b d = some (0, d') ∧ f_X12_remembers k x ds = some (0, ds') ∧ RC K L D d' b (ds' 401) N ∧ RZ L (ds' 401 0) (ds' 401 3) (rT (ds' 401)) ∧ Fr0 b d d' ∧ Fs ds ds' ∧ (∀ j, j < 25 → j ≠ 23 → ds' 401 j = ds 401 j) ∧ (∀ y u : Int, u < 11 → rT (ds' 401) y u = rT (ds 401) y u) ∧ rT (ds' 401) x (11 + k) = zw (rT (ds 401) x (11 + k) + 1) ∧ ds' 401 23 = (if k = 2 then zw (ds 401 23 + 1) else ds 401 23) ∧ rM (ds' 401) = rM (ds 401) := by
  by_cases h2 : k = 2
  · exact R_begin2 h2 h hz hg hx hk hgk hgx hgp
  · by_cases h3 : k = 1
    · exact R_begin1 h3 h hz hg hx hk hgk hgx hgp
    · exact R_begin0 (by omega) h hz hg hx hk hgk hgx hgp
/-- how a turn's tries ended: the terminal's misses, whether it is on -/
theorem R_end {ds : zD} {g : Nat} {k x v : Int} (h : RC K L D d b (ds 401) N) (hz : RZ L (ds 401 0) (ds 401 3) (rT (ds 401))) (hg : 6 ≤ g ∧ g < b) (hx : 0 ≤ x ∧ x < ds 401 0) (hgk : d g 1 = k) (hgx : d g 2 = x) (hon : k ≠ 2 → rT (ds 401) x 4 = 1) : ∃ d' ds', f_X1_noteEnd g b v d = some (0, d') ∧ (∀ {r : Option (Int × zD)} , j_X12_turns_93 k x v ds' = r → (if v = 0 then (if k = 2 then j_X12_turns_93 k x v ds else zc (f_X12_isMissed x ds) fun _ d => j_X12_turns_93 k x v d) else zc (f_X12_puts x 5 0 ds) fun _ d => zc (f_X12_puts x 4 1 d) fun _ d => j_X12_turns_93 k x v d) = r) ∧ RC K L D d' b (ds' 401) N ∧ RZ L (ds' 401 0) (ds' 401 3) (rT (ds' 401)) ∧ (∀ c, c < b ∨ b + 30 ≤ c → d' c = d c) ∧ Fs ds ds' ∧ (∀ j, j < 50 → j < 12 ∨ 25 ≤ j ∨ j = 19 ∨ j = 23 ∨ j = 24 → ds' 401 j = ds 401 j) ∧ (∀ y u : Int, u ≤ 3 ∨ (11 ≤ u ∧ u ≤ 13) → rT (ds' 401) y u = rT (ds 401) y u) ∧ (v ≠ 0 → rT (ds' 401) x 5 = 0 ∧ rT (ds' 401) x 4 = 1) ∧ rM (ds' 401) = rM (ds 401) := by
  obtain ⟨⟨i1, i2⟩, -, i4, i5, -⟩ := RC_i h
  have hx8 : 0 ≤ x ∧ x < 8 := by omega
  unfold f_X1_noteEnd
  by_cases hv : v = 0
  · rw [if_pos hv, zl_n, hgk]
    by_cases hk : k = 2
    · rw [if_pos hk]
      refine ⟨d, ds, rfl, fun {r} hr => ?_, h, hz, fun _ _ => rfl, Fs.rf, fun _ _ _ => rfl, fun _ _ _ => rfl, fun q => absurd hv q, rfl⟩
      rw [if_pos hv, if_pos hk]
      exact hr
    · have hon1 := hon hk
      have h1 := R_acc h (k := 8) (by omega)
      generalize hd1 : zu d (b + 28) (8 : Int).toNat (zw (d (b + 28) (8 : Int).toNat + 1)) = d1 at h1
      have fr1 : ∀ c, c ≠ b + 28 → d1 c = d c := fun c hc => by rw [← hd1, zu_row hc]
      have hx1 : 0 ≤ x ∧ x < aD ds 8 401 0 := by rw [aD_k (by omega) (by omega)]; exact hx
      have ec := k_often h1 hx1 (w := 3) (by omega)
      have h2 := RC_often (v := zw (rT (aD ds 8 401) x (11 + 3) + 1)) h1 hx1 (w := 3) (by omega)
      have hs2 : tD (aD ds 8) x (11 + 3) (zw (rT (aD ds 8 401) x (11 + 3) + 1)) 401 = uT (aD ds 8 401) x (11 + 3) (zw (rT (aD ds 8 401) x (11 + 3) + 1)) := tD_s
      rw [← hs2] at h2
      have em2 : f_X12_grows x 14 (aD ds 8) = some (0, tD (aD ds 8) x (11 + 3) (zw (rT (aD ds 8 401) x (11 + 3) + 1))) := e_grows hx8 (by omega)
      generalize hds2 : tD (aD ds 8) x (11 + 3) (zw (rT (aD ds 8 401) x (11 + 3) + 1)) = s2 at h2 hs2 em2
      generalize hd2 : zu d1 (b + 24) ((3 : Int) * 8 + x).toNat (zw (rT (aD ds 8 401) x (11 + 3) + 1)) = d2 at h2 ec
      have fr2 : ∀ c, c ≠ b + 24 → d2 c = d1 c := fun c hc => by rw [← hd2, zu_row hc]
      have ek2 : ∀ j, j < 12 ∨ (25 ≤ j ∧ j < 50) → s2 401 j = ds 401 j := fun j hj => by rw [hs2, uT_k hx8 (by omega) (by omega), aD_k (by omega) (by omega)]
      have ek2' : ∀ j, j < 50 → j ≠ 20 → s2 401 j = ds 401 j := fun j hj hj2 => by
        rw [hs2, uT_k hx8 (by omega) (by omega)]
        unfold aD
        rw [zu_r, show (12 + 8 : Int).toNat = 20 from rfl, us_ne hj2]
      have eM2 : rM (s2 401) = rM (ds 401) := by rw [hs2, rM_uT hx8 (by omega), aD_M (by omega)]
      have eT2' : ∀ y u : Int, u ≤ 13 → rT (s2 401) y u = rT (ds 401) y u := fun y u hu => by rw [hs2, rT_u hx8 (by omega), up2_ne (by omega), aD_T (by omega)]
      have eT2 : ∀ y u : Int, u < 11 → rT (s2 401) y u = rT (ds 401) y u := fun y u hu => by rw [hs2, rT_u hx8 (by omega), up2_ne (by omega), aD_T (by omega)]
      have hx2 : 0 ≤ x ∧ x < s2 401 0 := by rw [ek2 0 (by omega)]; exact hx
      have hgx2 : d2 g 2 = x := by rw [fr2 g (by omega), fr1 g (by omega)]; exact hgx
      have hgx1 : d1 g 2 = x := by rw [fr1 g (by omega)]; exact hgx
      have hh := h2
      obtain ⟨-, ⟨aS, aA, -⟩, hQ, -⟩ := hh
      have q5 := (hQ x hx2.1 hx2.2).2.2.1
      have hjx : rT (s2 401) x 5 < s2 401 8 ∧ 0 ≤ rT (s2 401) x 5 := by
        have hh2 := h2
        obtain ⟨-, -, -, -, -, -, -, -, hP2, -⟩ := hh2
        obtain ⟨-, -, -, -, g5, g6⟩ := hP2.2.2 x hx2.1 hx2.2
        exact ⟨g5 (by rw [eT2 _ _ (by omega)]; exact hon1), g6⟩
      have hl8 : 1 ≤ s2 401 8 ∧ s2 401 8 ≤ 5 := by
        have hh2 := h2
        obtain ⟨-, -, -, -, -, -, -, -, -, -, ⟨-, -, -, -, -, -, -, -, l8, -⟩, -⟩ := hh2
        exact l8
      have hw6 : zw (rT (s2 401) x 5 + 1) = rT (s2 401) x 5 + 1 := zw_id (by omega) (by omega)
      have hs3 : tD s2 x 5 (zw (rT (s2 401) x 5 + 1)) 401 = uT (s2 401) x 5 (zw (rT (s2 401) x 5 + 1)) := tD_s
      have em3 : f_X12_grows x 5 s2 = some (0, tD s2 x 5 (zw (rT (s2 401) x 5 + 1))) := e_grows hx8 (by omega)
      have r5 : rT (tD s2 x 5 (zw (rT (s2 401) x 5 + 1)) 401) x 5 = zw (rT (s2 401) x 5 + 1) := by rw [hs3, rT_u hx8 (by omega), up2_eq]
      have r4 : rT (tD s2 x 5 (zw (rT (s2 401) x 5 + 1)) 401) x 4 = 1 := by rw [hs3, rT_u hx8 (by omega), up2_ne (by omega), eT2 _ _ (by omega)]; exact hon1
      have r8 : tD s2 x 5 (zw (rT (s2 401) x 5 + 1)) 401 (8 : Int).toNat = s2 401 8 := by rw [hs3]; exact uT_k hx8 (by omega) (by show (8 : Nat) < 50 ∨ _; omega)
      have a2 : d2 (b + 27) (2 : Int).toNat = s2 401 8 := aS 2 (by omega) (by omega)
      have a9 : d2 (b + 28) (9 : Int).toNat = s2 401 21 := aA 9 (by omega) (by omega)
      generalize hw5 : zw (rT (s2 401) x 5 + 1) = w5 at hs3 em3 r5 r4 r8 hw6
      have ek3 : ∀ j, j < 50 → tD s2 x 5 w5 401 j = s2 401 j := fun j hj => by rw [hs3, uT_k hx8 (by omega) (by omega)]
      have z3 : RZ L (tD s2 x 5 w5 401 0) (tD s2 x 5 w5 401 3) (rT (tD s2 x 5 w5 401)) := by
        rw [ek3 0 (by omega), ek3 3 (by omega), ek2 0 (by omega), ek2 3 (by omega)]
        exact RZ_T hz fun y u hu => by rw [hs3, rT_u hx8 (by omega), up2_ne (by omega), eT2 _ _ (by omega)]
      have fs3 : Fs ds (tD s2 x 5 w5) := Fs.tr (Fs.tr Fs.a (by rw [← hds2]; exact Fs.u)) Fs.u
      have emiss : f_X12_isMissed x ds = if w5 < s2 401 8 then some (0, tD s2 x 5 w5) else some (0, aD (tD (tD s2 x 5 w5) x 4 0) 9) := by
        unfold f_X12_isMissed
        rw [e_counts (by omega), zc_n, em2, zc_n, em3, zc_n, e_of hx8 (by omega), zc_n, r5, zg_t (by omega), zl_n, r8]
        by_cases hc : w5 < s2 401 8
        · rw [if_pos hc, if_pos hc]
        · rw [if_neg hc, if_neg hc, e_of hx8 (by omega), zc_n, r4, if_neg (show ¬ (1 : Int) = 0 by decide), e_puts hx8 (by omega), zc_n, e_counts (by omega), zc_n]
      rw [if_neg hk, zg_t (by omega), zl_n, zl_n, zg_t (by omega), zl_n, hd1, zl_n, hgx1, ec, zc_n, zl_n, hgx2, zg_t (by omega), zl_n, q5, zl_n, hw5, zg_t (by omega), zl_n, zl_n, zu_o (by omega), hgx2, zg_t (by omega), zl_n, zu_q, zg_t (by omega), zl_n, zu_o (by omega), a2]
      by_cases hc : w5 < s2 401 8
      · rw [if_pos hc] at emiss ⊢
        have h3 := RC_st (c := 18) (w := 5) (v := w5) h2 hx2 (by omega) ⟨fun q => absurd q (by decide), fun _ => ⟨by omega, fun _ => hc⟩⟩
        rw [← hs3] at h3
        refine ⟨_, tD s2 x 5 w5, rfl, fun {r} hr => ?_, h3, z3, fun c hc => ?_, fs3, fun j j1 j2 => ?_, fun y u hu => ?_, fun q => absurd hv q, by rw [hs3, rM_uT hx8 (by omega), eM2]⟩
        · rw [if_pos hv, if_neg hk, emiss, zc_n]; exact hr
        · rw [zu_row (by omega), fr2 c (by omega), fr1 c (by omega)]
        · rw [ek3 j j1, ek2' j j1 (by omega)]
        · rw [hs3, rT_u hx8 (by omega), up2_ne (by omega), eT2' _ _ (by omega)]
      · rw [if_neg hc] at emiss ⊢
        have h3b := RC_st (c := 18) (w := 5) (v := w5) (RC_st (c := 17) (w := 4) (v := 0) h2 hx2 (by omega) ⟨fun _ q => absurd q (by decide), fun q => absurd q (by decide)⟩) (by rw [uT_k hx8 (by decide) (by decide)]; exact hx2) (by omega) ⟨fun q => absurd q (by decide), fun _ => ⟨by omega, fun q => by
          rw [rT_u hx8 (by decide), up2_eq] at q
          exact absurd q (by decide)⟩⟩
        have h4 : RC K L D (zu (zu d2 (b + 18) x.toNat w5) (b + 17) x.toNat 0) b (uT (tD s2 x 5 w5 401) x 4 0) N := by
          rw [hs3, uT_comm (by omega), zu_comm (Or.inl (by omega))]
          exact h3b
        have hs4 : tD (tD s2 x 5 w5) x 4 0 401 = uT (tD s2 x 5 w5 401) x 4 0 := tD_s
        rw [← hs4] at h4
        have ek4 : ∀ j, j < 50 → tD (tD s2 x 5 w5) x 4 0 401 j = s2 401 j := fun j hj => by rw [hs4, uT_k hx8 (by omega) (by omega), ek3 j hj]
        have h5 := R_acc h4 (k := 9) (by omega)
        rw [zl_n, zg_t (by omega), zl_n, zg_t (by omega), zl_n, zl_n, zg_t (by omega), zl_n]
        refine ⟨_, aD (tD (tD s2 x 5 w5) x 4 0) 9, rfl, fun {r} hr => ?_, h5, ?_, fun c hc => ?_, ?_, fun j j1 j2 => ?_, fun y u hu => ?_, fun q => absurd hv q, by rw [aD_M (by omega), hs4, rM_uT hx8 (by omega), hs3, rM_uT hx8 (by omega), eM2]⟩
        · rw [if_pos hv, if_neg hk, emiss, zc_n]; exact hr
        · refine RZ_acc ?_ (by omega)
          rw [ek4 0 (by omega), ek4 3 (by omega)]
          rw [ek3 0 (by omega), ek3 3 (by omega)] at z3
          exact RZ_T z3 fun y u hu => by rw [hs4, rT_u hx8 (by omega), up2_ne (by omega)]
        · rw [zu_row (by omega), zu_row (by omega), zu_row (by omega), fr2 c (by omega), fr1 c (by omega)]
        · exact Fs.tr (Fs.tr fs3 Fs.u) Fs.a
        · have e9 : aD (tD (tD s2 x 5 w5) x 4 0) 9 401 j = tD (tD s2 x 5 w5) x 4 0 401 j := by
            unfold aD
            rw [zu_r, show (12 + 9 : Int).toNat = 21 from rfl, us_ne (by omega)]
          rw [e9, ek4 j j1, ek2' j j1 (by omega)]
        · rw [aD_T (by omega), hs4, rT_u hx8 (by omega), up2_ne (by omega), hs3, rT_u hx8 (by omega), up2_ne (by omega), eT2' _ _ (by omega)]
  · rw [if_neg hv, zl_n, hgx, zg_t (by omega), zl_n, zl_n, zu_o (by omega), hgx, zg_t (by omega), zl_n]
    have hl8 : 1 ≤ ds 401 8 ∧ ds 401 8 ≤ 5 := by
      have hh2 := h
      obtain ⟨-, -, -, -, -, -, -, -, -, -, ⟨-, -, -, -, -, -, -, -, l8, -⟩, -⟩ := hh2
      exact l8
    have h1 := RC_st (c := 18) (w := 5) (v := 0) h hx (by omega) ⟨fun q => absurd q (by decide), fun _ => ⟨Int.le_refl _, fun _ => by omega⟩⟩
    have hs1 : tD ds x 5 0 401 = uT (ds 401) x 5 0 := tD_s
    rw [← hs1] at h1
    have ek1 : ∀ j, j < 50 → tD ds x 5 0 401 j = ds 401 j := fun j hj => by rw [hs1, uT_k hx8 (by omega) (by omega)]
    have h2 := RC_st (c := 17) (w := 4) (v := 1) h1 (by rw [ek1 0 (by omega)]; exact hx) (by omega) ⟨fun _ _ => by rw [hs1, rT_u hx8 (by omega), up2_eq, uT_k hx8 (by omega) (by omega)]; omega, fun q => absurd q (by decide)⟩
    have hs2 : tD (tD ds x 5 0) x 4 1 401 = uT (tD ds x 5 0 401) x 4 1 := tD_s
    rw [← hs2] at h2
    have ek2 : ∀ j, j < 50 → tD (tD ds x 5 0) x 4 1 401 j = ds 401 j := fun j hj => by rw [hs2, uT_k hx8 (by omega) (by omega), ek1 j hj]
    refine ⟨_, tD (tD ds x 5 0) x 4 1, rfl, fun {r} hr => ?_, h2, ?_, fun c hc => ?_, Fs.tr Fs.u Fs.u, fun j j1 j2 => ek2 j j1, fun y u hu => ?_, fun _ => ⟨?_, ?_⟩, by rw [hs2, rM_uT hx8 (by omega), hs1, rM_uT hx8 (by omega)]⟩
    · rw [if_neg hv, e_puts hx8 (by omega), zc_n, e_puts hx8 (by omega), zc_n]; exact hr
    · rw [ek2 0 (by omega), ek2 3 (by omega)]
      exact RZ_T hz fun y u hu => by rw [hs2, rT_u hx8 (by omega), up2_ne (by omega), hs1, rT_u hx8 (by omega), up2_ne (by omega)]
    · rw [zu_row (by omega), zu_row (by omega)]
    · rw [hs2, rT_u hx8 (by omega), up2_ne (by omega), hs1, rT_u hx8 (by omega), up2_ne (by omega)]
    · rw [hs2, rT_u hx8 (by omega), up2_ne (by omega), hs1, rT_u hx8 (by omega), up2_eq]
    · rw [hs2, rT_u hx8 (by omega), up2_eq]
end TURN
