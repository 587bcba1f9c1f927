/-! Sending. -/
theorem zrem_of (x y : Int) (x0 : 0 ≤ x) (x1 : x ≤ 2147483647) (y0 : 0 < y) (y1 : y ≤ 2147483647) : zrem x y = x % y := by
  unfold zrem
  have hx := zI_toInt (x := x) ⟨by omega, by omega⟩
  have hy := zI_toInt (x := y) ⟨by omega, by omega⟩
  have hd1 : 0 ≤ x / y := Int.ediv_nonneg x0 (by omega)
  have hd2 : x / y ≤ x := Int.ediv_le_self y x0
  have hd3 := Int.mul_ediv_add_emod x y
  have hd4 := Int.emod_nonneg x (show y ≠ 0 by omega)
  have hd5 := Int.emod_lt_of_pos x y0
  have hq : (zI x / zI y).toInt = x / y := by
    rw [Int32.toInt_div, hx, hy, Int.tdiv_eq_ediv_of_nonneg x0]
    exact Int.bmod_eq_of_le (by omega) (by omega)
  have hzq : zI x / zI y = zI (x / y) := by rw [← zI_of (zI x / zI y), hq]
  rw [hzq, zI_mul, zI_sub]
  have hm : x / y * y = x - x % y := by rw [Int.mul_comm]; omega
  rw [zw_id (x := x / y * y) (by omega) (by omega), hm, zI_toInt (zw_R _), zw_id (by omega) (by omega)]
  omega
theorem zu_comm {d : zD} {a c i j : Nat} {v w : Int} (h : a ≠ c ∨ i ≠ j) : zu (zu d a i v) c j w = zu (zu d c j w) a i v := by
  funext p q
  unfold zu
  by_cases h1 : p = c ∧ q = j
  · have h2 : ¬ (p = a ∧ q = i) := fun g => by
      rcases h with h | h
      · exact h (g.1.symm.trans h1.1)
      · exact h (g.2.symm.trans h1.2)
    rw [if_pos h1, if_neg h2, if_pos h1]
  · rw [if_neg h1, if_neg h1]
theorem RS_acc {d : zD} {b : Nat} {s : Nat → Int} {k : Nat} {v : Int} (hk : k < 13) (h : RS d b s) : RS (zu d (b + 28) k v) b (us s (12 + k) v) := by
  obtain ⟨h1, h2, h3, h4, h5, h6, h7, h8, h9⟩ := h
  have e : ∀ i, i < 6 ∨ 25 ≤ i → us s (12 + k) v i = s i := fun i hi => us_ne (by omega)
  refine ⟨?_, ?_, ?_, ?_, ?_, ?_, ?_, ?_, ?_⟩ <;> rw [zu_o (by omega), e _ (by omega)] <;> assumption
theorem RG_d {d d' : zD} {b : Nat} {s : Nat → Int} (h : RG d b s) (e1 : d' (b + 25) = d (b + 25)) (e2 : d' (b + 26) = d (b + 26)) : RG d' b s := by
  unfold RG
  rw [e1, e2]
  exact h
theorem RQ_d {d d' : zD} {b : Nat} {n : Int} {T : zM} (h : RQ d b n T) (e : ∀ c, b + 16 ≤ c → c ≤ b + 24 → d' c = d c) : RQ d' b n T := by
  intro y y0 yn
  rw [e (b + 16) (by omega) (by omega), e (b + 17) (by omega) (by omega), e (b + 18) (by omega) (by omega), e (b + 19) (by omega) (by omega), e (b + 20) (by omega) (by omega), e (b + 21) (by omega) (by omega), e (b + 22) (by omega) (by omega), e (b + 24) (by omega) (by omega)]
  exact h y y0 yn
theorem RM_d {D : Int → List Int} {d d' : zD} {b : Nat} {n : Int} {M : zM} (h : RM D d b n M) (e : ∀ c, b + 2 ≤ c → c ≤ b + 9 → d' c = d c) : RM D d' b n M := by
  intro y y0 yn
  rw [e (b + 2) (by omega) (by omega), e (b + 3) (by omega) (by omega), e (b + 4) (by omega) (by omega), e (b + 5) (by omega) (by omega), e (b + 6) (by omega) (by omega), e (b + 7) (by omega) (by omega), e (b + 8) (by omega) (by omega), e (b + 9) (by omega) (by omega)]
  exact h y y0 yn
theorem RD_d {D : Int → List Int} {d d' : zD} {b : Nat} {n tm : Int} {T M : zM} (h : RD D d b n tm T M) (e : d' (b + 23) = d (b + 23)) : RD D d' b n tm T M := by
  intro y y0 yn
  rw [e]
  exact h y y0 yn
theorem RU_d {d d' : zD} {n : Int} {T : zM} (h : RU d n T) (e : ∀ c, 1 ≤ c → c ≤ 5 → d' c = d c) : RU d' n T := by
  unfold RU
  rw [e 1 (by omega) (by omega), e 2 (by omega) (by omega), e 3 (by omega) (by omega), e 4 (by omega) (by omega), e 5 (by omega) (by omega)]
  exact h
theorem RD_t {D : Int → List Int} {d : zD} {b : Nat} {n tm tm' : Int} {T M : zM} (h : RD D d b n tm T M) (ht : tm ≤ tm') : RD D d b n tm' T M := fun y y0 yn => due_congr ht (h y y0 yn) fun _ _ => ⟨rfl, rfl⟩
theorem RIT_t {n tm tm' : Int} {T : zM} (h : RIT n tm T) (ht : tm ≤ tm') : RIT n tm' T := fun y y0 yn => by
  obtain ⟨g0, g1, g2, g3, g4, g6, g7, g8, g9, g10⟩ := h y y0 yn
  exact ⟨g0, g1, g2, g3, g4, g6, g7, g8, g9, by omega⟩
theorem RI_N {N N' : Int} {s : Nat → Int} (h : RI N s) (hN : N ≤ N') (h9 : N' ≤ 1000000000) : RI N' s := by
  obtain ⟨a0, a1, a2, a3, a4, a5, a6, a7, a8, a9, a10, a11, a12, a13, a14, a15, a16, a17⟩ := h
  exact ⟨a0, a1, a2, ⟨a3.1, by omega⟩, a4, a5, a6, a7, a8, a9, a10, a11, a12, a13, a14, a15, ⟨a16.1, by omega⟩, h9, a17.2.1, a17.2.2.1, by have := a17.2.2.2; omega⟩
section REL
variable {K L : Int → Int → List Int} {D : Int → List Int} {d : zD} {b : Nat} {s : Nat → Int} {N : Int}
theorem RI_acc {k : Nat} {v : Int} (q : RI N s) (hk : k < 13) (h : 0 ≤ us s (12 + k) v 13 ∧ us s (12 + k) v 13 ≤ us s (12 + k) v 12 ∧ us s (12 + k) v 12 ≤ N) : RI N (us s (12 + k) v) := by
  unfold RI
  rw [us_ne (j := 0) (by omega), us_ne (j := 1) (by omega), us_ne (j := 2) (by omega), us_ne (j := 3) (by omega), us_ne (j := 4) (by omega), us_ne (j := 5) (by omega), us_ne (j := 6) (by omega), us_ne (j := 7) (by omega), us_ne (j := 8) (by omega), us_ne (j := 9) (by omega), us_ne (j := 10) (by omega), us_ne (j := 11) (by omega), us_ne (j := 26) (by omega), us_ne (j := 27) (by omega), us_ne (j := 28) (by omega), us_ne (j := 29) (by omega), us_ne (j := 46) (by omega)]
  obtain ⟨a0, a1, a2, a3, a4, a5, a6, a7, a8, a9, a10, a11, a12, a13, a14, a15, a16, a17⟩ := q
  exact ⟨a0, a1, a2, a3, a4, a5, a6, a7, a8, a9, a10, a11, a12, a13, a14, a15, a16, a17.1, h⟩
theorem RI_acc2 {k : Nat} {v : Int} (q : RI N s) (hk : 2 ≤ k ∧ k < 13) : RI N (us s (12 + k) v) := by
  refine RI_acc q hk.2 ?_
  rw [us_ne (by omega), us_ne (by omega)]
  obtain ⟨a0, a1, a2, a3, a4, a5, a6, a7, a8, a9, a10, a11, a12, a13, a14, a15, a16, a17⟩ := q
  exact a17.2
theorem RC_ai (h : RC K L D d b s N) : 0 ≤ s 13 ∧ s 13 ≤ s 12 ∧ s 12 ≤ N := by
  obtain ⟨-, -, -, -, -, -, -, -, -, -, ⟨a0, a1, a2, a3, a4, a5, a6, a7, a8, a9, a10, a11, a12, a13, a14, a15, a16, a17⟩, -⟩ := h
  exact a17.2
theorem RC_up {N' : Int} (h : RC K L D d b s N) (hN : N ≤ N') (h9 : N' ≤ 1000000000) : RC K L D d b s N' := by
  obtain ⟨p1, p2, p3, p4, p5, p6, p7, p8, p9, p10, p11, p12⟩ := h
  exact ⟨p1, p2, p3, p4, p5, p6, p7, p8, p9, p10, RI_N p11 hN h9, p12⟩
theorem RC_acc {k : Nat} {v : Int} (h : RC K L D d b s N) (hk : k < 13) (hI' : RI N s → RI N (us s (12 + k) v)) : RC K L D (zu d (b + 28) k v) b (us s (12 + k) v) N := by
  obtain ⟨hS, hA, hQ, hM, hD, hK, hL, hKL, hP, hG, hI, hIL, hIT, hIM, hU, hb⟩ := h
  have e : ∀ i, i ≠ 12 + k → us s (12 + k) v i = s i := fun i hi => us_ne hi
  have hd : ∀ c, c ≠ b + 28 → zu d (b + 28) k v c = d c := fun c hc => zu_row hc
  have hTe : rT (us s (12 + k) v) = rT s := rT_f (by omega)
  have hMe : rM (us s (12 + k) v) = rM s := rM_f (by omega)
  unfold RC
  rw [hTe, hMe, e 0 (by omega), e 2 (by omega), e 3 (by omega), e 8 (by omega), e 46 (by omega)]
  refine ⟨RS_acc hk hS, ⟨fun i i0 i6 => ?_, fun i i0 i13 => ?_, fun i i0 i1 => ?_⟩, RQ_d hQ fun c _ _ => hd c (by omega), RM_d hM fun c _ _ => hd c (by omega), RD_d hD (hd _ (by omega)), KR_d hK fun c _ _ => hd c (by omega), hL, hKL, hP, ?_, ?_, ?_, hIT, hIM, RU_d hU fun c _ _ => hd c (by omega), hb⟩
  · rw [hd _ (by omega), e _ (by omega)]; exact hA.1 i i0 i6
  · by_cases hi : i.toNat = k
    · rw [hi, zu_eq, show (12 + i).toNat = 12 + k by omega, us_eq]
    · rw [zu_ne (Or.inr hi), e _ (by omega)]; exact hA.2.1 i i0 i13
  · rw [e _ (by omega)] at i1
    obtain ⟨-, ⟨-, i16⟩, -⟩ := hI
    rw [hd _ (by omega), e _ (by omega)]; exact hA.2.2 i i0 i1
  · obtain ⟨h1, h2, h3⟩ := hG
    refine ⟨by rw [hd _ (by omega), e _ (by omega)]; exact h1, by rw [hd _ (by omega)]; exact h2, fun i w i0 i1 w0 w1 => ?_⟩
    rw [e 29 (by omega)] at i1 ⊢
    rw [hd _ (by omega), hd _ (by omega), e _ (by omega)]
    exact h3 i w i0 i1 w0 w1
  · exact hI' hI
  · intro i i0 i1
    rw [e 1 (by omega)] at i1
    rw [e _ (by omega), e 0 (by omega)]
    exact hIL i i0 i1
theorem RC_pair {i j : Nat} {v N' : Int} (h : RC K L D d b s N) (hS' : RS d b s → RS (zu d b i v) b (us s j v)) (hj : (3 ≤ j ∧ j ≤ 5) ∨ (25 ≤ j ∧ j ≤ 28)) (hI' : RI N s → RI N' (us s j v)) (h3 : s 3 ≤ us s j v 3) : RC K L D (zu d b i v) b (us s j v) N' := by
  obtain ⟨hS, hA, hQ, hM, hD, hK, hL, hKL, hP, hG, hI, hIL, hIT, hIM, hU, hb⟩ := h
  have e : ∀ i, i ≠ j → us s j v i = s i := fun i hi => us_ne hi
  have hd : ∀ c, c ≠ b → zu d b i v c = d c := fun c hc => zu_row hc
  have hTe : rT (us s j v) = rT s := rT_f (by omega)
  have hMe : rM (us s j v) = rM s := rM_f (by omega)
  unfold RC
  rw [hTe, hMe, e 0 (by omega), e 2 (by omega), e 8 (by omega), e 46 (by omega)]
  refine ⟨hS' hS, ⟨fun i i0 i6 => ?_, fun i i0 i13 => ?_, fun i i0 i1 => ?_⟩, RQ_d hQ fun c _ _ => hd c (by omega), RM_d hM fun c _ _ => hd c (by omega), RD_t (RD_d hD (hd _ (by omega))) h3, KR_d hK fun c _ _ => hd c (by omega), hL, hKL, RP_t hP h3, ?_, hI' hI, ?_, RIT_t hIT h3, hIM, RU_d hU fun c _ _ => hd c (by omega), hb⟩
  · rw [hd _ (by omega), e _ (by omega)]; exact hA.1 i i0 i6
  · rw [hd _ (by omega), e _ (by omega)]; exact hA.2.1 i i0 i13
  · rw [e _ (by omega)] at i1
    obtain ⟨-, ⟨-, i16⟩, -⟩ := hI
    rw [hd _ (by omega), e _ (by omega)]; exact hA.2.2 i i0 i1
  · obtain ⟨h1, h2, h3⟩ := hG
    refine ⟨by rw [hd _ (by omega), e _ (by omega)]; exact h1, by rw [hd _ (by omega)]; exact h2, fun i w i0 i1 w0 w1 => ?_⟩
    rw [e 29 (by omega)] at i1 ⊢
    rw [hd _ (by omega), hd _ (by omega), e _ (by omega)]
    exact h3 i w i0 i1 w0 w1
  · intro i i0 i1
    rw [e 1 (by omega)] at i1
    obtain ⟨-, ⟨-, i16⟩, -⟩ := hI
    rw [e _ (by omega), e 0 (by omega)]
    exact hIL i i0 i1
theorem RS_p9 {v : Int} (h : RS d b s) : RS (zu d b 9 v) b (us s 3 v) := by
  obtain ⟨h1, h2, h3, h4, h5, h6, h7, h8, h9⟩ := h
  refine ⟨?_, ?_, ?_, ?_, ?_, ?_, ?_, ?_, ?_⟩ <;> simp [zu, us, *]
theorem RS_p10 {v : Int} (h : RS d b s) : RS (zu d b 10 v) b (us s 4 v) := by
  obtain ⟨h1, h2, h3, h4, h5, h6, h7, h8, h9⟩ := h
  refine ⟨?_, ?_, ?_, ?_, ?_, ?_, ?_, ?_, ?_⟩ <;> simp [zu, us, *]
theorem RS_p11 {v : Int} (h : RS d b s) : RS (zu d b 11 v) b (us s 5 v) := by
  obtain ⟨h1, h2, h3, h4, h5, h6, h7, h8, h9⟩ := h
  refine ⟨?_, ?_, ?_, ?_, ?_, ?_, ?_, ?_, ?_⟩ <;> simp [zu, us, *]
theorem RS_p12 {v : Int} (h : RS d b s) : RS (zu d b 12 v) b (us s 28 v) := by
  obtain ⟨h1, h2, h3, h4, h5, h6, h7, h8, h9⟩ := h
  refine ⟨?_, ?_, ?_, ?_, ?_, ?_, ?_, ?_, ?_⟩ <;> simp [zu, us, *]
theorem RS_p13 {v : Int} (h : RS d b s) : RS (zu d b 13 v) b (us s 27 v) := by
  obtain ⟨h1, h2, h3, h4, h5, h6, h7, h8, h9⟩ := h
  refine ⟨?_, ?_, ?_, ?_, ?_, ?_, ?_, ?_, ?_⟩ <;> simp [zu, us, *]
theorem RS_p14 {v : Int} (h : RS d b s) : RS (zu d b 14 v) b (us s 26 v) := by
  obtain ⟨h1, h2, h3, h4, h5, h6, h7, h8, h9⟩ := h
  refine ⟨?_, ?_, ?_, ?_, ?_, ?_, ?_, ?_, ?_⟩ <;> simp [zu, us, *]
theorem RS_p15 {v : Int} (h : RS d b s) : RS (zu d b 15 v) b (us s 25 v) := by
  obtain ⟨h1, h2, h3, h4, h5, h6, h7, h8, h9⟩ := h
  refine ⟨?_, ?_, ?_, ?_, ?_, ?_, ?_, ?_, ?_⟩ <;> simp [zu, us, *]
end REL
/-- what stays of the reference's row when time goes on -/
def Fk (s s' : Nat → Int) : Prop := (∀ k, k < 50 → k ≠ 3 → k ≠ 5 → (k < 12 ∨ 14 ≤ k) → s' k = s k) ∧ P3 s s'
def FL (L L' : Int → Int → List Int) : Prop := ∀ r y, r ≠ 2 → L' r y = L r y
def Fr (b : Nat) (d d' : zD) : Prop := ∀ c, c < b ∨ b + 30 ≤ c ∨ (b + 16 ≤ c ∧ c ≤ b + 18) ∨ c = b + 24 → d' c = d c
def Fs (d d' : zD) : Prop := ∀ c, c ≠ 401 → d' c = d c
theorem Fk.tr {s s' s2 : Nat → Int} (h : Fk s s') (g : Fk s' s2) : Fk s s2 := ⟨fun k a b c e => (g.1 k a b c e).trans (h.1 k a b c e), h.2.tr g.2⟩
theorem FL.tr {L L' L2 : Int → Int → List Int} (h : FL L L') (g : FL L' L2) : FL L L2 := fun r y a => (g r y a).trans (h r y a)
theorem Fr.tr {b : Nat} {d d' d2 : zD} (h : Fr b d d') (g : Fr b d' d2) : Fr b d d2 := fun c a => (g c a).trans (h c a)
theorem Fs.tr {d d' d2 : zD} (h : Fs d d') (g : Fs d' d2) : Fs d d2 := fun c a => (g c a).trans (h c a)
theorem Fr.u {b a i : Nat} {d : zD} {v : Int} (h : (b ≤ a ∧ a < b + 30) ∧ (a < b + 16 ∨ b + 18 < a) ∧ a ≠ b + 24) : Fr b d (zu d a i v) := fun c hc => zu_row (by omega)
theorem Fs.u {i : Nat} {d : zD} {v : Int} : Fs d (zu d 401 i v) := fun c hc => zu_row hc
theorem Fk.u {i : Nat} {s : Nat → Int} {v : Int} (h : i = 3 ∨ i = 5 ∨ (12 ≤ i ∧ i < 14)) : Fk s (us s i v) := ⟨fun k h1 h2 h3 h4 => us_ne (by omega), P3.e (rM_f (by omega))⟩
theorem Fk.rf {s : Nat → Int} : Fk s s := ⟨fun _ _ _ _ _ => rfl, P3.rf⟩
theorem FL.rf {L : Int → Int → List Int} : FL L L := fun _ _ _ => rfl
theorem Fr.rf {b : Nat} {d : zD} : Fr b d d := fun _ _ => rfl
theorem Fs.rf {d : zD} : Fs d d := fun _ _ => rfl
section SEND
variable {K L : Int → Int → List Int} {D : Int → List Int} {d : zD} {b : Nat} {N : Int}
theorem RC_i {s : Nat → Int} (h : RC K L D d b s N) : (1 ≤ s 0 ∧ s 0 ≤ 8) ∧ (0 ≤ s 1 ∧ s 1 ≤ 16) ∧ (0 ≤ s 2 ∧ s 2 ≤ 40) ∧ (0 ≤ s 3 ∧ s 3 ≤ N) ∧ N ≤ 1000000000 := by
  obtain ⟨-, -, -, -, -, -, -, -, -, -, ⟨i1, i2, i3, i4, -, -, -, -, -, -, -, -, -, -, -, -, -, i5⟩, -⟩ := h
  exact ⟨i1, i2, i3, i4, i5.1⟩
theorem R_settles {ds : zD} {x : Int} (h : RC K L D d b (ds 401) N) (hx : 0 ≤ x ∧ x < ds 401 0) : ∃ ds' L' D', f_X12_settles x ds = some (0, ds') ∧ RC K L' D' d b (ds' 401) N ∧ (∀ k, k < 50 → ds' 401 k = ds 401 k) ∧ (∀ y u, y ≠ x ∨ u ≠ 10 → rT (ds' 401) y u = rT (ds 401) y u) ∧ (∀ r y, r ≠ 2 ∨ y ≠ x → L' r y = L r y) ∧ (L' 2 x ≠ [] → ds 401 3 < rT (ds' 401) x 10 + rT (ds' 401) x 2) ∧ Fs ds ds' ∧ (∀ m w, w ≠ 3 → w ≠ 7 → w ≠ 10 → rM (ds' 401) m w = rM (ds 401) m w) ∧ P3 (ds 401) (ds' 401) := by
  obtain ⟨⟨i1, i2⟩, i3, i4, ⟨i5, i6⟩, hN⟩ := RC_i h
  have h' := h
  obtain ⟨-, -, -, -, -, hK, hL, hKL, -⟩ := h'
  have hr := hL 2 x (by omega) (by omega) (by omega) (by omega)
  have hlen := KR_len hK (r := 2) (x := x) ⟨⟨by omega, by omega⟩, by omega, by omega⟩ i4.2 i4.1
  rw [(hKL x).2.2, List.length_append] at hlen
  have := zF_big
  unfold f_X12_settles
  rw [e_rowAt i4, zc_t, rwl_hd hr i4.1]
  exact R_settles_loop zF _ h hx rfl (by omega)
theorem R_passes_loop : ∀ (k q : Nat) {L : Int → Int → List Int} {D : Int → List Int} {ds : zD} {x : Int}, RC K L D d b (ds 401) N → 0 ≤ x → x + k = ds 401 0 → k < q → (∀ y, 0 ≤ y → y < x → L 2 y ≠ [] → ds 401 3 < rT (ds 401) y 10 + rT (ds 401) y 2) → ∃ ds' L' D', l_X12_passes_16 q x ds = some (0, ds') ∧ RC K L' D' d b (ds' 401) N ∧ RZ L' (ds' 401 0) (ds' 401 3) (rT (ds' 401)) ∧ (∀ k, k < 50 → ds' 401 k = ds 401 k) ∧ FL L L' ∧ Fs ds ds' ∧ P3 (ds 401) (ds' 401) := by
  intro k
  induction k with
  | zero =>
    intro q L D ds x h hx hk hq hz
    obtain ⟨q, rfl⟩ : ∃ q', q = q' + 1 := ⟨q - 1, by omega⟩
    refine ⟨ds, L, D, ?_, h, fun y y0 yn => hz y y0 (by omega), fun _ _ => rfl, FL.rf, Fs.rf, P3.rf⟩
    show l_X12_passes_16F _ x ds = _
    simp only [l_X12_passes_16F, e_many, zc_t]
    rw [if_pos (by omega)]
  | succ k ih =>
    intro q L D ds x h hx hk hq hz
    obtain ⟨q, rfl⟩ : ∃ q', q = q' + 1 := ⟨q - 1, by omega⟩
    obtain ⟨⟨i1, i2⟩, -⟩ := RC_i h
    obtain ⟨d1, L1, D1, r1, r2, r3, r4, r5, r6, r7, r8, r9⟩ := R_settles h (x := x) (by omega)
    obtain ⟨d2, L2, D2, g1, g2, g3, g4, g5, g6, g7⟩ := ih q r2 (x := x + 1) (by omega) (by rw [r3 0 (by omega)]; omega) (by omega) (fun y y0 y1 hne => by
      rw [r3 3 (by omega)]
      by_cases hyx : y = x
      · subst hyx; exact r6 hne
      · rw [r4 y 10 (Or.inl hyx), r4 y 2 (Or.inl hyx)]
        rw [r5 2 y (Or.inr hyx)] at hne
        exact hz y y0 (by omega) hne)
    refine ⟨d2, L2, D2, ?_, g2, g3, fun j hj => (g4 j hj).trans (r3 j hj), FL.tr (fun r y hr => r5 r y (Or.inl hr)) g5, Fs.tr r7 g6, P3.tr r9 g7⟩
    show l_X12_passes_16F _ x ds = _
    simp (disch := omega) only [l_X12_passes_16F, e_many, zc_t, zl, zw_id]
    rw [if_neg (by omega), r1, zc_t, g1]
theorem R_passes {ds : zD} {k : Int} (h : RC K L D d b (us (ds 401) 3 (ds 401 3 + k)) N) (hk : 0 ≤ ds 401 3 ∧ ds 401 3 ≤ 1000000000 ∧ 0 ≤ k ∧ k ≤ 20) : ∃ ds' L' D', f_X12_passes k ds = some (0, ds') ∧ RC K L' D' d b (ds' 401) N ∧ RZ L' (ds' 401 0) (ds' 401 3) (rT (ds' 401)) ∧ (∀ j, j < 50 → j ≠ 3 → ds' 401 j = ds 401 j) ∧ ds' 401 3 = ds 401 3 + k ∧ FL L L' ∧ Fs ds ds' ∧ P3 (ds 401) (ds' 401) := by
  have hs : (zu ds 401 3 (ds 401 3 + k)) 401 = us (ds 401) 3 (ds 401 3 + k) := zu_r
  rw [← hs] at h
  obtain ⟨⟨i1, i2⟩, -⟩ := RC_i h
  obtain ⟨d1, L1, D1, g1, g2, g3, g4, g5, g6, g7⟩ := R_passes_loop (ds 401 0).toNat zF h (x := 0) (by omega) (by rw [hs, us_ne (by omega)] at i1 i2 ⊢; omega) (by have := zF_big; rw [hs, us_ne (by omega)] at i2; omega) (fun y y0 y1 => by omega)
  refine ⟨d1, L1, D1, ?_, g2, g3, fun j hj h3 => ?_, ?_, g5, Fs.tr Fs.u g6, P3.tr (P3.e (by rw [hs]; exact rM_f (by omega))) g7⟩
  · simp (disch := omega) only [f_X12_passes, zg_t, zl, zw_id, Int.reduceToNat]
    exact g1
  · rw [g4 j hj, hs, us_ne h3]
  · rw [g4 3 (by omega), hs, us_eq]
theorem zn_65537 {β : Type} {x : Option β} : zn 65537 x = x := zn_t (by decide)
theorem zn_100 {β : Type} {x : Option β} : zn 100 x = x := zn_t (by decide)
theorem zn_20 {β : Type} {x : Option β} : zn 20 x = x := zn_t (by decide)
theorem zn_8 {β : Type} {x : Option β} : zn 8 x = x := zn_t (by decide)
theorem e_sends {ds d1 : zD} {k : Int} (r1 : f_X12_passes k (zu ds 401 12 (zw (ds 401 12 + 1))) = some (0, d1)) (q5 : d1 401 5 = ds 401 5) (q11 : d1 401 11 = ds 401 11) (q13 : d1 401 13 = ds 401 13) (hsd : 75 * ds 401 5 + 74 = zw (zw (75 * ds 401 5) + 74)) {v : Int} {dd : zD} (hv : if ds 401 11 ≤ zrem (zrem (75 * ds 401 5 + 74) 65537) 100 then v = 1 ∧ dd = zu d1 401 5 (zrem (75 * ds 401 5 + 74) 65537) else v = 0 ∧ dd = zu (zu d1 401 5 (zrem (75 * ds 401 5 + 74) 65537)) 401 13 (zw (ds 401 13 + 1))) : f_X12_sends k ds = some (1 - v, dd) := by
  simp (disch := omega) only [f_X12_sends, e_counts, aD, zc_n, Int.reduceToNat, Int.reduceAdd]
  rw [r1]
  simp (disch := omega) only [zc_n, zg_t, zl_n, Int.reduceToNat, zn_65537, zn_100, q5, q11, ← hsd, zu_q, j_X12_sends_55, zz_t, e_counts, aD, Int.reduceAdd]
  rw [zu_ne (j := 11) (Or.inr (by omega)), q11]
  by_cases hc : ds 401 11 ≤ zrem (zrem (75 * ds 401 5 + 74) 65537) 100
  · rw [if_pos hc] at hv ⊢
    rw [hv.1, hv.2]
    rfl
  · rw [if_neg hc] at hv ⊢
    rw [hv.1, hv.2, zu_ne (Or.inr (by omega)), q13]
    rfl
theorem e_send {ds d : zD} {b : Nat} {k : Int} (s9 : d b 9 = ds 401 3) (s11 : d b 11 = ds 401 5) (a0 : d (b + 28) 0 = ds 401 12) (a1 : d (b + 28) 1 = ds 401 13) (a5 : d (b + 27) 5 = ds 401 11) (i4 : 0 ≤ ds 401 3 ∧ ds 401 3 ≤ 1000000000) (hk : 0 ≤ k ∧ k ≤ 20) (hsd : 75 * ds 401 5 + 74 = zw (zw (75 * ds 401 5) + 74)) {v : Int} {dd : zD} (hv : if ds 401 11 ≤ zrem (zrem (75 * ds 401 5 + 74) 65537) 100 then v = 1 ∧ dd = zu (zu (zu d b 9 (ds 401 3 + k)) (b + 28) 0 (zw (ds 401 12 + 1))) b 11 (zrem (75 * ds 401 5 + 74) 65537) else v = 0 ∧ dd = zu (zu (zu (zu d b 9 (ds 401 3 + k)) (b + 28) 0 (zw (ds 401 12 + 1))) b 11 (zrem (75 * ds 401 5 + 74) 65537)) (b + 28) 1 (zw (ds 401 13 + 1))) : f_X2_send b k d = some (v, dd) := by
  simp (disch := omega) only [f_X2_send, zl_n, zg_t, Int.reduceToNat, s9, zw_id, zu_o, a0, zu_ne, s11, a5, a1, ← hsd, zn_65537, zn_100, zu_q]
  by_cases hc : ds 401 11 ≤ zrem (zrem (75 * ds 401 5 + 74) 65537) 100
  · rw [if_pos hc] at hv ⊢
    rw [hv.1, hv.2]
  · rw [if_neg hc] at hv ⊢
    rw [hv.1, hv.2]
/-- something is sent -/
theorem R_send {ds : zD} {k : Int} (h : RC K L D d b (ds 401) N) (hk : 0 ≤ k ∧ k ≤ 20) (hN : N ≤ 999999900) : ∃ v d' ds' L' D', f_X2_send b k d = some (v, d') ∧ f_X12_sends k ds = some (1 - v, ds') ∧ (v = 0 ∨ v = 1) ∧ RC K L' D' d' b (ds' 401) (N + 20) ∧ RZ L' (ds' 401 0) (ds' 401 3) (rT (ds' 401)) ∧ Fr b d d' ∧ Fs ds ds' ∧ Fk (ds 401) (ds' 401) ∧ FL L L' ∧ ds' 401 3 = ds 401 3 + k := by
  obtain ⟨i1, i2, i3, i4, -⟩ := RC_i h
  have hh := h
  obtain ⟨⟨-, s9, -, s11, -⟩, ⟨aS, aA, -⟩, -, -, -, -, -, -, -, -, ⟨-, -, -, -, -, ⟨j1, j2⟩, -⟩, -⟩ := hh
  have a0 := aA 0 (by omega) (by omega)
  have a1 := aA 1 (by omega) (by omega)
  have a5 := aS 5 (by omega) (by omega)
  simp only [Int.reduceToNat, Int.reduceAdd] at a0 a1 a5
  -- the account, time, what is due
  have hai := RC_ai h
  have h20 := RC_up h (show N ≤ N + 20 by omega) (by omega)
  have h1 := RC_acc (k := 0) (v := zw (ds 401 12 + 1)) h20 (by omega) (fun q => RI_acc q (by omega) (by
    rw [us_ne (by omega), us_eq, zw_id (by omega) (by omega)]; omega))
  have h2 := RC_pair (i := 9) (j := 3) (v := ds 401 3 + k) (N' := N + 20) h1 RS_p9 (by omega) (fun q => by
    obtain ⟨a0, a1, a2, a3, a4, a5, a6, a7, a8, a9, a10, a11, a12, a13, a14, a15, a16, a17⟩ := q
    exact ⟨a0, a1, a2, ⟨by rw [us_eq]; omega, by rw [us_eq]; omega⟩, a4, a5, a6, a7, a8, a9, a10, a11, a12, a13, a14, a15, a16, a17⟩) (by rw [us_eq, us_ne (by omega)]; omega)
  have hs1 : (zu ds 401 12 (zw (ds 401 12 + 1))) 401 = us (ds 401) (12 + 0) (zw (ds 401 12 + 1)) := zu_r
  have e3 : (zu ds 401 12 (zw (ds 401 12 + 1))) 401 3 = ds 401 3 := by rw [hs1, us_ne (by omega)]
  rw [← hs1, ← e3] at h2
  obtain ⟨d1, L1, D1, r1, r2, r3, r4, r5, r6, r7, r8⟩ := R_passes h2 (by rw [e3]; omega)
  have q5 : d1 401 5 = ds 401 5 := by rw [r4 5 (by omega) (by omega), hs1, us_ne (by omega)]
  have q11 : d1 401 11 = ds 401 11 := by rw [r4 11 (by omega) (by omega), hs1, us_ne (by omega)]
  have q13 : d1 401 13 = ds 401 13 := by rw [r4 13 (by omega) (by omega), hs1, us_ne (by omega)]
  have hsd : 75 * ds 401 5 + 74 = zw (zw (75 * ds 401 5) + 74) := by rw [zw_id (x := 75 * ds 401 5) (by omega) (by omega), zw_id (by omega) (by omega)]
  have hr1 := zrem_of (75 * ds 401 5 + 74) 65537 (by omega) (by omega) (by omega) (by omega)
  have hm0 := Int.emod_nonneg (75 * ds 401 5 + 74) (show (65537 : Int) ≠ 0 by omega)
  have hm1 := Int.emod_lt_of_pos (75 * ds 401 5 + 74) (show (0 : Int) < 65537 by omega)
  have h3 := RC_pair (i := 11) (j := 5) (v := zrem (75 * ds 401 5 + 74) 65537) (N' := N + 20) r2 RS_p11 (by omega) (fun q => by
    obtain ⟨a0, a1, a2, a3, a4, a5, a6, a7, a8, a9, a10, a11, a12, a13, a14, a15, a16, a17⟩ := q
    exact ⟨a0, a1, a2, a3, a4, ⟨by rw [us_eq, hr1]; omega, by rw [us_eq, hr1]; omega⟩, a6, a7, a8, a9, a10, a11, a12, a13, a14, a15, a16, a17⟩) (by rw [us_ne (by omega)]; omega)
  have hs2 : (zu d1 401 5 (zrem (75 * ds 401 5 + 74) 65537)) 401 = us (d1 401) 5 (zrem (75 * ds 401 5 + 74) 65537) := zu_r
  rw [← hs2] at h3
  have z3 : RZ L1 (zu d1 401 5 (zrem (75 * ds 401 5 + 74) 65537) 401 0) (zu d1 401 5 (zrem (75 * ds 401 5 + 74) 65537) 401 3) (rT (zu d1 401 5 (zrem (75 * ds 401 5 + 74) 65537) 401)) := by
    rw [hs2, rT_f (by omega), us_ne (by omega), us_ne (by omega)]; exact r3
  have f3 : Fk (ds 401) (zu d1 401 5 (zrem (75 * ds 401 5 + 74) 65537) 401) := ⟨fun j j1 j2 j3 j4 => by
    rw [hs2, us_ne (by omega), r4 j j1 j2, hs1, us_ne (by omega)], P3.tr (P3.tr (P3.e (by rw [hs1]; exact rM_f (by omega))) r8) (P3.e (by rw [hs2]; exact rM_f (by omega)))⟩
  have t3 : (zu d1 401 5 (zrem (75 * ds 401 5 + 74) 65537)) 401 3 = ds 401 3 + k := by rw [hs2, us_ne (by omega), r5, e3]
  by_cases hc : ds 401 11 ≤ zrem (zrem (75 * ds 401 5 + 74) 65537) 100
  · refine ⟨1, _, _, L1, D1, e_send s9 s11 a0 a1 a5 (by omega) hk hsd (by rw [if_pos hc]; exact ⟨rfl, rfl⟩), e_sends r1 q5 q11 q13 hsd (by rw [if_pos hc]; exact ⟨rfl, rfl⟩), Or.inr rfl, ?_, z3, ?_, ?_, f3, r6, t3⟩
    · rw [zu_comm (a := b) (c := b + 28) (Or.inl (by omega)), ← e3]
      exact h3
    · exact Fr.tr (Fr.tr (Fr.u (by omega)) (Fr.u (by omega))) (Fr.u (by omega))
    · exact Fs.tr (Fs.tr Fs.u r7) Fs.u
  · have q12 : d1 401 12 = ds 401 12 + 1 := by rw [r4 12 (by omega) (by omega), hs1, us_eq, zw_id (by omega) (by omega)]
    have h4 := RC_acc (k := 1) (v := zw (ds 401 13 + 1)) h3 (by omega) (fun q => RI_acc q (by omega) (by
      rw [us_eq, us_ne (by omega), hs2, us_ne (by omega), q12, zw_id (by omega) (by omega)]; omega))
    have hs3 : (zu (zu d1 401 5 (zrem (75 * ds 401 5 + 74) 65537)) 401 13 (zw (ds 401 13 + 1))) 401 = us (zu d1 401 5 (zrem (75 * ds 401 5 + 74) 65537) 401) (12 + 1) (zw (ds 401 13 + 1)) := zu_r
    rw [← hs3] at h4
    refine ⟨0, _, _, L1, D1, e_send s9 s11 a0 a1 a5 (by omega) hk hsd (by rw [if_neg hc]; exact ⟨rfl, rfl⟩), e_sends r1 q5 q11 q13 hsd (by rw [if_neg hc]; exact ⟨rfl, rfl⟩), Or.inl rfl, ?_, ?_, ?_, ?_, ?_, r6, ?_⟩
    · rw [zu_comm (a := b) (c := b + 28) (i := 9) (j := 0) (Or.inl (by omega)), ← e3]
      exact h4
    · rw [hs3, rT_f (by omega), us_ne (by omega), us_ne (by omega)]
      exact z3
    · exact Fr.tr (Fr.tr (Fr.tr (Fr.u (by omega)) (Fr.u (by omega))) (Fr.u (by omega))) (Fr.u (by omega))
    · exact Fs.tr (Fs.tr (Fs.tr Fs.u r7) Fs.u) Fs.u
    · rw [hs3]
      exact Fk.tr f3 (Fk.u (by omega))
    · rw [hs3, us_ne (by omega)]
      exact t3
end SEND
