/-! A line is copied. -/
theorem zcp_row {d : zD} {f : Nat → Int} {sp a dp n c : Nat} (h : c ≠ a) : zcp d f sp a dp n c = d c := by
  funext j
  unfold zcp
  rw [if_neg (fun q => h q.1)]
theorem zcp_at {d : zD} {f : Nat → Int} {sp a dp n j : Nat} (h : dp ≤ j ∧ j < dp + n) : zcp d f sp a dp n a j = f (sp + (j - dp)) := if_pos ⟨rfl, h⟩
theorem zcp_0 {d : zD} {f : Nat → Int} {a n j : Nat} (h : j < n) : zcp d f 0 a 0 n a j = f j := by
  rw [zcp_at ⟨Nat.zero_le _, by omega⟩]
  simp
section COPY
variable {d : zD} {b b1 : Nat}
theorem k_copy3 (hb : b + 30 ≤ b1 ∨ b1 + 30 ≤ b) (hs : 0 ≤ d (b1 + 1) 0 ∧ d (b1 + 1) 0 ≤ 40) : ∃ d', f_X3_copyFrom b b1 d = some (0, d') ∧ (∀ c, c < b + 1 ∨ b + 9 < c → d' c = d c) ∧ d' (b + 1) 0 = d (b1 + 1) 0 ∧ (∀ j : Nat, (j : Int) < d (b1 + 1) 0 → d' (b + 2) j = d (b1 + 2) j) ∧ (∀ j : Nat, (j : Int) < d (b1 + 1) 0 → d' (b + 3) j = d (b1 + 3) j) ∧ (∀ j : Nat, (j : Int) < d (b1 + 1) 0 → d' (b + 4) j = d (b1 + 4) j) ∧ (∀ j : Nat, (j : Int) < d (b1 + 1) 0 → d' (b + 5) j = d (b1 + 5) j) ∧ (∀ j : Nat, (j : Int) < d (b1 + 1) 0 → d' (b + 6) j = d (b1 + 6) j) ∧ (∀ j : Nat, (j : Int) < d (b1 + 1) 0 → d' (b + 7) j = d (b1 + 7) j) ∧ (∀ j : Nat, (j : Int) < d (b1 + 1) 0 → d' (b + 8) j = d (b1 + 8) j) ∧ (∀ j : Nat, (j : Int) < d (b1 + 1) 0 → d' (b + 9) j = d (b1 + 9) j) := by
  unfold f_X3_copyFrom
  simp (disch := omega) only [zl_n, zcg_t, zcp_row, zu_row, zu_q, zu_ne, Int.reduceToNat]
  exact ⟨_, rfl, fun c hc => by simp (disch := omega) only [zcp_row, zu_row], by simp (disch := omega) only [zcp_row, zu_row, zu_q, zu_ne], fun j hj => by simp (disch := omega) only [zcp_row, zu_row, zcp_0], fun j hj => by simp (disch := omega) only [zcp_row, zu_row, zcp_0], fun j hj => by simp (disch := omega) only [zcp_row, zu_row, zcp_0], fun j hj => by simp (disch := omega) only [zcp_row, zu_row, zcp_0], fun j hj => by simp (disch := omega) only [zcp_row, zu_row, zcp_0], fun j hj => by simp (disch := omega) only [zcp_row, zu_row, zcp_0], fun j hj => by simp (disch := omega) only [zcp_row, zu_row, zcp_0], fun j hj => by simp (disch := omega) only [zcp_row, zu_row, zcp_0]⟩
theorem k_copy4 (hb : b + 30 ≤ b1 ∨ b1 + 30 ≤ b) : ∃ d', f_X4_copyFrom b b1 d = some (0, d') ∧ (∀ c, c < b + 11 ∨ b + 14 < c → d' c = d c) ∧ (∀ j : Nat, j < 24 → d' (b + 11) j = d (b1 + 11) j) ∧ (∀ j : Nat, j < 24 → d' (b + 12) j = d (b1 + 12) j) ∧ (∀ j : Nat, j < 24 → d' (b + 13) j = d (b1 + 13) j) ∧ (∀ j : Nat, j < 120 → d' (b + 14) j = d (b1 + 14) j) := by
  unfold f_X4_copyFrom
  simp (disch := omega) only [zl_n, zcg_t, zcp_row, zu_row, zu_q, zu_ne, Int.reduceToNat]
  exact ⟨_, rfl, fun c hc => by simp (disch := omega) only [zcp_row, zu_row], fun j hj => by simp (disch := omega) only [zcp_row, zu_row, zcp_0], fun j hj => by simp (disch := omega) only [zcp_row, zu_row, zcp_0], fun j hj => by simp (disch := omega) only [zcp_row, zu_row, zcp_0], fun j hj => by simp (disch := omega) only [zcp_row, zu_row, zcp_0]⟩
theorem k_copy8 (hb : b + 30 ≤ b1 ∨ b1 + 30 ≤ b) : ∃ d', f_X8_copyFrom b b1 d = some (0, d') ∧ (∀ c, c < b + 16 ∨ b + 24 < c → d' c = d c) ∧ (∀ j : Nat, j < 8 → d' (b + 16) j = d (b1 + 16) j) ∧ (∀ j : Nat, j < 8 → d' (b + 17) j = d (b1 + 17) j) ∧ (∀ j : Nat, j < 8 → d' (b + 18) j = d (b1 + 18) j) ∧ (∀ j : Nat, j < 8 → d' (b + 19) j = d (b1 + 19) j) ∧ (∀ j : Nat, j < 8 → d' (b + 20) j = d (b1 + 20) j) ∧ (∀ j : Nat, j < 8 → d' (b + 21) j = d (b1 + 21) j) ∧ (∀ j : Nat, j < 8 → d' (b + 22) j = d (b1 + 22) j) ∧ (∀ j : Nat, j < 8 → d' (b + 23) j = d (b1 + 23) j) ∧ (∀ j : Nat, j < 32 → d' (b + 24) j = d (b1 + 24) j) := by
  unfold f_X8_copyFrom
  simp (disch := omega) only [zl_n, zcg_t, zcp_row, zu_row, zu_q, zu_ne, Int.reduceToNat]
  exact ⟨_, rfl, fun c hc => by simp (disch := omega) only [zcp_row, zu_row], fun j hj => by simp (disch := omega) only [zcp_row, zu_row, zcp_0], fun j hj => by simp (disch := omega) only [zcp_row, zu_row, zcp_0], fun j hj => by simp (disch := omega) only [zcp_row, zu_row, zcp_0], fun j hj => by simp (disch := omega) only [zcp_row, zu_row, zcp_0], fun j hj => by simp (disch := omega) only [zcp_row, zu_row, zcp_0], fun j hj => by simp (disch := omega) only [zcp_row, zu_row, zcp_0], fun j hj => by simp (disch := omega) only [zcp_row, zu_row, zcp_0], fun j hj => by simp (disch := omega) only [zcp_row, zu_row, zcp_0], fun j hj => by simp (disch := omega) only [zcp_row, zu_row, zcp_0]⟩
theorem k_copy10 (hb : b + 30 ≤ b1 ∨ b1 + 30 ≤ b) : ∃ d', f_X10_copyFrom b b1 d = some (0, d') ∧ (∀ c, c < b + 25 ∨ b + 26 < c → d' c = d c) ∧ d' (b + 25) 0 = d (b1 + 25) 0 ∧ d' (b + 25) 1 = d (b1 + 25) 1 ∧ (∀ j : Nat, j < 100 → d' (b + 26) j = d (b1 + 26) j) := by
  unfold f_X10_copyFrom
  simp (disch := omega) only [zl_n, zcg_t, zcp_row, zu_row, zu_q, zu_ne, Int.reduceToNat]
  exact ⟨_, rfl, fun c hc => by simp (disch := omega) only [zcp_row, zu_row], by simp (disch := omega) only [zcp_row, zu_row, zu_q, zu_ne], by simp (disch := omega) only [zcp_row, zu_row, zu_q, zu_ne], fun j hj => by simp (disch := omega) only [zcp_row, zu_row, zcp_0]⟩
def CP (d d' : zD) (b b1 : Nat) : Prop := (∀ j : Nat, 8 ≤ j → j < 16 → d' b j = d b1 j) ∧ d' (b + 1) 0 = d (b1 + 1) 0 ∧ (∀ j : Nat, (j : Int) < d (b1 + 1) 0 → d' (b + 2) j = d (b1 + 2) j) ∧ (∀ j : Nat, (j : Int) < d (b1 + 1) 0 → d' (b + 3) j = d (b1 + 3) j) ∧ (∀ j : Nat, (j : Int) < d (b1 + 1) 0 → d' (b + 4) j = d (b1 + 4) j) ∧ (∀ j : Nat, (j : Int) < d (b1 + 1) 0 → d' (b + 5) j = d (b1 + 5) j) ∧ (∀ j : Nat, (j : Int) < d (b1 + 1) 0 → d' (b + 6) j = d (b1 + 6) j) ∧ (∀ j : Nat, (j : Int) < d (b1 + 1) 0 → d' (b + 7) j = d (b1 + 7) j) ∧ (∀ j : Nat, (j : Int) < d (b1 + 1) 0 → d' (b + 8) j = d (b1 + 8) j) ∧ (∀ j : Nat, (j : Int) < d (b1 + 1) 0 → d' (b + 9) j = d (b1 + 9) j) ∧ (∀ j : Nat, j < 24 → d' (b + 11) j = d (b1 + 11) j) ∧ (∀ j : Nat, j < 24 → d' (b + 12) j = d (b1 + 12) j) ∧ (∀ j : Nat, j < 24 → d' (b + 13) j = d (b1 + 13) j) ∧ (∀ j : Nat, j < 120 → d' (b + 14) j = d (b1 + 14) j) ∧ (∀ j : Nat, j < 8 → d' (b + 16) j = d (b1 + 16) j) ∧ (∀ j : Nat, j < 8 → d' (b + 17) j = d (b1 + 17) j) ∧ (∀ j : Nat, j < 8 → d' (b + 18) j = d (b1 + 18) j) ∧ (∀ j : Nat, j < 8 → d' (b + 19) j = d (b1 + 19) j) ∧ (∀ j : Nat, j < 8 → d' (b + 20) j = d (b1 + 20) j) ∧ (∀ j : Nat, j < 8 → d' (b + 21) j = d (b1 + 21) j) ∧ (∀ j : Nat, j < 8 → d' (b + 22) j = d (b1 + 22) j) ∧ (∀ j : Nat, j < 8 → d' (b + 23) j = d (b1 + 23) j) ∧ (∀ j : Nat, j < 32 → d' (b + 24) j = d (b1 + 24) j) ∧ d' (b + 25) 0 = d (b1 + 25) 0 ∧ d' (b + 25) 1 = d (b1 + 25) 1 ∧ (∀ j : Nat, j < 100 → d' (b + 26) j = d (b1 + 26) j) ∧ (∀ j : Nat, j < 6 → d' (b + 27) j = d (b1 + 27) j) ∧ (∀ j : Nat, j < 13 → d' (b + 28) j = d (b1 + 28) j) ∧ (∀ j : Nat, j < 16 → d' (b + 29) j = d (b1 + 29) j)
theorem k_copyFrom (hb : b + 30 ≤ b1 ∨ b1 + 30 ≤ b) (hs : 0 ≤ d (b1 + 1) 0 ∧ d (b1 + 1) 0 ≤ 40) : ∃ d', f_X2_copyFrom b b1 d = some (0, d') ∧ (∀ c, c < b ∨ b + 30 ≤ c → d' c = d c) ∧ CP d d' b b1 := by
  obtain ⟨d1, r1, f1, a1, a2, a3, a4, a5, a6, a7, a8, a9⟩ := k_copy3 hb hs
  obtain ⟨d2, r2, f2, a11, a12, a13, a14⟩ := k_copy4 (d := d1) hb
  obtain ⟨d3, r3, f3, a16, a17, a18, a19, a20, a21, a22, a23, a24⟩ := k_copy8 (d := d2) hb
  obtain ⟨d4, r4, f4, a25, a251, a26⟩ := k_copy10 (d := d3) hb
  unfold f_X2_copyFrom
  rw [r1, zc_n, r2, zc_n, r3, zc_n, r4, zc_n]
  simp (disch := omega) only [zl_n, zcg_t, zcp_row, zu_row, zu_ne, Int.reduceToNat]
  have g : ∀ c, c < b ∨ b + 30 ≤ c → d4 c = d c := fun c hc => by rw [f4 c (by omega), f3 c (by omega), f2 c (by omega), f1 c (by omega)]
  have gb : ∀ j, d4 b1 j = d b1 j := fun j => by rw [g b1 (by omega)]
  refine ⟨_, rfl, fun c hc => ?_, fun j j0 j1 => ?_, ?_, fun j hj => ?_, fun j hj => ?_, fun j hj => ?_, fun j hj => ?_, fun j hj => ?_, fun j hj => ?_, fun j hj => ?_, fun j hj => ?_, fun j hj => ?_, fun j hj => ?_, fun j hj => ?_, fun j hj => ?_, fun j hj => ?_, fun j hj => ?_, fun j hj => ?_, fun j hj => ?_, fun j hj => ?_, fun j hj => ?_, fun j hj => ?_, fun j hj => ?_, fun j hj => ?_, ?_, ?_, fun j hj => ?_, fun j hj => ?_, fun j hj => ?_, fun j hj => ?_⟩
  · simp (disch := omega) only [zcp_row, zu_row]
    exact g c hc
  · have h8 : j = 8 ∨ j = 9 ∨ j = 10 ∨ j = 11 ∨ j = 12 ∨ j = 13 ∨ j = 14 ∨ j = 15 := by omega
    rcases h8 with rfl | rfl | rfl | rfl | rfl | rfl | rfl | rfl <;> simp (disch := omega) only [zu_ne, zu_q, gb]
  · simp (disch := omega) only [zcp_row, zu_row]
    rw [f4 _ (by omega), f3 _ (by omega), f2 _ (by omega), a1]
  · simp (disch := omega) only [zcp_row, zu_row]
    rw [f4 _ (by omega), f3 _ (by omega), f2 _ (by omega), a2 j hj]
  · simp (disch := omega) only [zcp_row, zu_row]
    rw [f4 _ (by omega), f3 _ (by omega), f2 _ (by omega), a3 j hj]
  · simp (disch := omega) only [zcp_row, zu_row]
    rw [f4 _ (by omega), f3 _ (by omega), f2 _ (by omega), a4 j hj]
  · simp (disch := omega) only [zcp_row, zu_row]
    rw [f4 _ (by omega), f3 _ (by omega), f2 _ (by omega), a5 j hj]
  · simp (disch := omega) only [zcp_row, zu_row]
    rw [f4 _ (by omega), f3 _ (by omega), f2 _ (by omega), a6 j hj]
  · simp (disch := omega) only [zcp_row, zu_row]
    rw [f4 _ (by omega), f3 _ (by omega), f2 _ (by omega), a7 j hj]
  · simp (disch := omega) only [zcp_row, zu_row]
    rw [f4 _ (by omega), f3 _ (by omega), f2 _ (by omega), a8 j hj]
  · simp (disch := omega) only [zcp_row, zu_row]
    rw [f4 _ (by omega), f3 _ (by omega), f2 _ (by omega), a9 j hj]
  · simp (disch := omega) only [zcp_row, zu_row]
    rw [f4 _ (by omega), f3 _ (by omega), a11 j hj, f1 _ (by omega)]
  · simp (disch := omega) only [zcp_row, zu_row]
    rw [f4 _ (by omega), f3 _ (by omega), a12 j hj, f1 _ (by omega)]
  · simp (disch := omega) only [zcp_row, zu_row]
    rw [f4 _ (by omega), f3 _ (by omega), a13 j hj, f1 _ (by omega)]
  · simp (disch := omega) only [zcp_row, zu_row]
    rw [f4 _ (by omega), f3 _ (by omega), a14 j hj, f1 _ (by omega)]
  · simp (disch := omega) only [zcp_row, zu_row]
    rw [f4 _ (by omega), a16 j hj, f2 _ (by omega), f1 _ (by omega)]
  · simp (disch := omega) only [zcp_row, zu_row]
    rw [f4 _ (by omega), a17 j hj, f2 _ (by omega), f1 _ (by omega)]
  · simp (disch := omega) only [zcp_row, zu_row]
    rw [f4 _ (by omega), a18 j hj, f2 _ (by omega), f1 _ (by omega)]
  · simp (disch := omega) only [zcp_row, zu_row]
    rw [f4 _ (by omega), a19 j hj, f2 _ (by omega), f1 _ (by omega)]
  · simp (disch := omega) only [zcp_row, zu_row]
    rw [f4 _ (by omega), a20 j hj, f2 _ (by omega), f1 _ (by omega)]
  · simp (disch := omega) only [zcp_row, zu_row]
    rw [f4 _ (by omega), a21 j hj, f2 _ (by omega), f1 _ (by omega)]
  · simp (disch := omega) only [zcp_row, zu_row]
    rw [f4 _ (by omega), a22 j hj, f2 _ (by omega), f1 _ (by omega)]
  · simp (disch := omega) only [zcp_row, zu_row]
    rw [f4 _ (by omega), a23 j hj, f2 _ (by omega), f1 _ (by omega)]
  · simp (disch := omega) only [zcp_row, zu_row]
    rw [f4 _ (by omega), a24 j hj, f2 _ (by omega), f1 _ (by omega)]
  · simp (disch := omega) only [zcp_row, zu_row]
    rw [a25, f3 _ (by omega), f2 _ (by omega), f1 _ (by omega)]
  · simp (disch := omega) only [zcp_row, zu_row]
    rw [a251, f3 _ (by omega), f2 _ (by omega), f1 _ (by omega)]
  · simp (disch := omega) only [zcp_row, zu_row]
    rw [a26 j hj, f3 _ (by omega), f2 _ (by omega), f1 _ (by omega)]
  · simp (disch := omega) only [zcp_row, zu_row, zcp_0]
    rw [f4 _ (by omega), f3 _ (by omega), f2 _ (by omega), f1 _ (by omega)]
  · simp (disch := omega) only [zcp_row, zu_row, zcp_0]
    rw [f4 _ (by omega), f3 _ (by omega), f2 _ (by omega), f1 _ (by omega)]
  · simp (disch := omega) only [zcp_row, zu_row, zcp_0]
    rw [f4 _ (by omega), f3 _ (by omega), f2 _ (by omega), f1 _ (by omega)]
theorem LR_copy {d' : zD} {s : Nat → Int} (h : LR d b1 s) (hb6 : 6 ≤ b) (hU5 : ∀ c, 1 ≤ c → c ≤ 5 → d' c = d c) (hc : CP d d' b b1) : LR d' b s := by
  obtain ⟨c8, c1, c2_, c3_, c4_, c5_, c6_, c7_, c8_, c9_, c11_, c12_, c13_, c14_, c16_, c17_, c18_, c19_, c20_, c21_, c22_, c23_, c24_, c250, c251, c26_, c27_, c28_, c29_⟩ := hc
  obtain ⟨K, L, h, hz⟩ := h
  obtain ⟨⟨i1, i2⟩, i3, i4, i5, -⟩ := RC_i h
  obtain ⟨hS, hA, hQ, hM, hD, hK, hL, hKL, hP, hG, hI, hIL, hIT, hIM, hU, hb⟩ := h
  have s2 := hS.2.2.2.2.2.2.2.2
  refine ⟨K, L, ⟨?_, ⟨fun k k0 k1 => ?_, fun k k0 k1 => ?_, fun k k0 k1 => ?_⟩, fun y y0 yn => ?_, fun m m0 mn => ?_, fun y y0 yn => ?_, fun r x r0 r3 x0 x8 => ?_, hL, hKL, hP, ?_, hI, hIL, hIT, hIM, RU_d hU hU5, hb6⟩, hz⟩
  · unfold RS
    rw [c8 8 (by omega) (by omega), c8 9 (by omega) (by omega), c8 10 (by omega) (by omega), c8 11 (by omega) (by omega), c8 12 (by omega) (by omega), c8 13 (by omega) (by omega), c8 14 (by omega) (by omega), c8 15 (by omega) (by omega), c1]
    exact hS
  · rw [c27_ _ (by omega)]; exact hA.1 k k0 k1
  · rw [c28_ _ (by omega)]; exact hA.2.1 k k0 k1
  · rw [c29_ _ (by omega)]; exact hA.2.2 k k0 k1
  · rw [c16_ _ (by omega), c17_ _ (by omega), c18_ _ (by omega), c19_ _ (by omega), c20_ _ (by omega), c21_ _ (by omega), c22_ _ (by omega)]
    obtain ⟨h1, h2, h3, h4, h5, h6, h7, h8⟩ := hQ y y0 yn
    exact ⟨h1, h2, h3, h4, h5, h6, h7, fun w w0 w4 => by rw [c24_ _ (by omega)]; exact h8 w w0 w4⟩
  · rw [c2_ _ (by omega), c3_ _ (by omega), c4_ _ (by omega), c5_ _ (by omega), c6_ _ (by omega), c7_ _ (by omega), c8_ _ (by omega), c9_ _ (by omega)]
    exact hM m m0 mn
  · rw [c23_ _ (by omega)]
    exact hD y y0 yn
  · obtain ⟨⟨h1, h2, h3⟩, hn, hm⟩ := hK r x r0 r3 x0 x8
    refine ⟨⟨?_, fun hne => ⟨?_, ?_⟩, ?_⟩, hn, hm⟩
    · rw [c13_ _ (by omega)]; exact h1
    · rw [c11_ _ (by omega)]; exact (h2 hne).1
    · rw [c12_ _ (by omega)]; exact (h2 hne).2
    · have key : ∀ {l : List Int}, (∀ m, m ∈ l → 0 ≤ m ∧ m < s 2) → kch d b1 r l → kch d' b r l := by
        intro l
        induction l with
        | nil => intro _ _; trivial
        | cons a l ih =>
          intro hm hk
          cases l with
          | nil => trivial
          | cons c l =>
            have ha := hm a List.mem_cons_self
            exact ⟨by rw [c14_ _ (by omega)]; exact hk.1, ih (fun m hm' => hm m (List.mem_cons_of_mem _ hm')) hk.2⟩
      exact key (fun m hm' => (hm m hm').1) h3
  · obtain ⟨g1, g2, g3⟩ := hG
    refine ⟨by rw [c250]; exact g1, by rw [c251]; exact g2, fun i w i0 i1 w0 w1 => ?_⟩
    rw [c251, c26_ _ (by omega)]
    exact g3 i w i0 i1 w0 w1
theorem LR_s2 {s : Nat → Int} (h : LR d b s) : d (b + 1) 0 = s 2 := by
  obtain ⟨K, L, ⟨hS, -⟩, -⟩ := h
  exact hS.2.2.2.2.2.2.2.2
theorem R_copy {s : Nat → Int} (h : LR d b1 s) (hb : b + 30 ≤ b1 ∨ b1 + 30 ≤ b) (hb6 : 6 ≤ b) : ∃ d', f_X2_copyFrom b b1 d = some (0, d') ∧ (∀ c, c < b ∨ b + 30 ≤ c → d' c = d c) ∧ LR d' b s := by
  obtain ⟨-, -, i4, -⟩ := LR_2 h
  obtain ⟨d', r1, r2, r3⟩ := k_copyFrom (d := d) hb (by rw [LR_s2 h]; exact i4)
  exact ⟨d', r1, r2, LR_copy h hb6 (fun c _ _ => r2 c (by omega)) r3⟩
end COPY
