/-! Bits: a byte of an int, the letters of a name. -/
theorem z_bv (x : Int) : (zI x).toBitVec = BitVec.ofInt 32 x := rfl
theorem z_bn (x : Int) : ((BitVec.ofInt 32 x).toNat : Int) = x % 4294967296 := by
  rw [BitVec.toNat_ofInt]
  have : (0 : Int) ≤ x % 4294967296 := by omega
  show (((x % 4294967296).toNat : Nat) : Int) = _
  omega
theorem z_and {x y : Int} {k : Nat} (hk : k ≤ 16) (hy : (BitVec.ofInt 32 y).toNat = 2 ^ k - 1) : zand x y = (((BitVec.ofInt 32 x).toNat % 2 ^ k : Nat) : Int) := by
  show ((zI x &&& zI y).toBitVec).toInt = _
  have e : ((zI x &&& zI y).toBitVec).toNat = (BitVec.ofInt 32 x).toNat % 2 ^ k := by
    show (BitVec.ofInt 32 x).toNat &&& (BitVec.ofInt 32 y).toNat = _
    rw [hy, Nat.and_two_pow_sub_one_eq_mod]
  have hp : (BitVec.ofInt 32 x).toNat % 2 ^ k < 2 ^ k := Nat.mod_lt _ (Nat.two_pow_pos k)
  have hq : 2 ^ k ≤ 2 ^ 16 := Nat.pow_le_pow_right (by omega) hk
  rw [BitVec.toInt_eq_toNat_of_lt (by rw [e]; omega), e]
theorem zand_255 (x : Int) : zand x 255 = x % 256 := by
  rw [z_and (k := 8) (by omega) (by decide)]
  have := z_bn x
  omega
theorem zand_31 (x : Int) : zand x 31 = x % 32 := by
  rw [z_and (k := 5) (by omega) (by decide)]
  have := z_bn x
  omega
theorem zb8_b {x : Int} (h : zR x) : zb8 x = Int.bmod x 256 := by
  show ((zI x).toInt8.toInt32).toInt = _
  rw [Int8.toInt_toInt32, Int32.toInt_toInt8, zI_toInt h]
theorem bm_r (x : Int) : (-128 ≤ Int.bmod x 256 ∧ Int.bmod x 256 ≤ 127) ∧ Int.bmod x 256 % 256 = x % 256 := by
  unfold Int.bmod
  dsimp only
  split <;> omega
theorem zb8_R {x : Int} (h : zR x) : zR (zb8 x) := by
  rw [zb8_b h]
  have := (bm_r x).1
  constructor <;> omega
theorem zb8_255 {x : Int} (h : zR x) : zand (zb8 (zb8 x)) 255 = zand x 255 := by
  rw [zand_255, zand_255, zb8_b (zb8_R h), zb8_b h, (bm_r _).2, (bm_r _).2]
theorem zb8_s {x : Int} (h : 0 ≤ x ∧ x ≤ 127) : zb8 x = x := by
  rw [zb8_b ⟨by omega, by omega⟩]
  have := bm_r x
  omega
theorem z_shr {x k : Int} {n : Nat} (hx : zR x) (hk : ((zI k &&& 31).toBitVec.smod 32).toNat = n) : zshr x k = x / 2 ^ n := by
  show ((zI x).toBitVec.sshiftRight ((zI k &&& 31).toBitVec.smod 32).toNat).toInt = _
  rw [hk, BitVec.toInt_sshiftRight, Int.shiftRight_eq_div_pow]
  have e : (zI x).toBitVec.toInt = x := zI_toInt hx
  rw [e]
  rfl
theorem zs_0 {x : Int} (h : zR x) : zshr x 0 = x := by rw [z_shr (n := 0) h (by decide)]; omega
theorem zs_5 {x : Int} (h : zR x) : zshr x 5 = x / 32 := by rw [z_shr (n := 5) h (by decide)]; rfl
theorem zs_10 {x : Int} (h : zR x) : zshr x 10 = x / 1024 := by rw [z_shr (n := 10) h (by decide)]; rfl
theorem zs_15 {x : Int} (h : zR x) : zshr x 15 = x / 32768 := by rw [z_shr (n := 15) h (by decide)]; rfl
theorem zs_20 {x : Int} (h : zR x) : zshr x 20 = x / 1048576 := by rw [z_shr (n := 20) h (by decide)]; rfl
theorem zs_25 {x : Int} (h : zR x) : zshr x 25 = x / 33554432 := by rw [z_shr (n := 25) h (by decide)]; rfl
/-- the letter of a place, lowest place nought -/
def zlt (x i : Int) : Int := zand (zshr x (5 * i)) 31
theorem zlt_i {x i : Int} (h : zR x) (hi : 0 ≤ i ∧ i < 6) : zlt x i = (if i = 0 then x else if i = 1 then x / 32 else if i = 2 then x / 1024 else if i = 3 then x / 32768 else if i = 4 then x / 1048576 else x / 33554432) % 32 := by
  unfold zlt
  have : i = 0 ∨ i = 1 ∨ i = 2 ∨ i = 3 ∨ i = 4 ∨ i = 5 := by omega
  rw [zand_31]
  rcases this with e | e | e | e | e | e <;> subst e
  · rw [show (5 : Int) * 0 = 0 from rfl, zs_0 h]; rfl
  · rw [show (5 : Int) * 1 = 5 from rfl, zs_5 h]; rfl
  · rw [show (5 : Int) * 2 = 10 from rfl, zs_10 h]; rfl
  · rw [show (5 : Int) * 3 = 15 from rfl, zs_15 h]; rfl
  · rw [show (5 : Int) * 4 = 20 from rfl, zs_20 h]; rfl
  · rw [show (5 : Int) * 5 = 25 from rfl, zs_25 h]; rfl
theorem lo_0 {q : Nat} {n x : Int} {d : zD} (h : x ≤ 0) : l_X12_lettersOf_4 (q + 1) n x d = some (n, d) := by
  show l_X12_lettersOf_4F _ n x d = _
  unfold l_X12_lettersOf_4F
  rw [if_pos h]
theorem lo_s {q : Nat} {n x : Int} {d : zD} (h : 0 < x ∧ x ≤ 2147483647) (hn : 0 ≤ n ∧ n ≤ 10) : l_X12_lettersOf_4 (q + 1) n x d = l_X12_lettersOf_4 q (n + 1) (x / 32) d := by
  show l_X12_lettersOf_4F _ n x d = _
  unfold l_X12_lettersOf_4F
  rw [if_neg (by omega), zl_n, zw_id (by omega) (by omega), zl_n, zs_5 ⟨by omega, by omega⟩]
/-- what both hold of a name -/
def NF (a c n : Int) (f : Int → Int) : Prop := (1 ≤ n ∧ n ≤ 6) ∧ (∀ i, 0 ≤ i → i < n → 1 ≤ f i ∧ f i ≤ 26) ∧ (∀ i, 0 ≤ i → i < 6 → zlt a i = if i < n then f i else 0) ∧ (∀ d, f_X12_lettersOf c d = some (n, d)) ∧ ∀ i, 0 ≤ i → i < n → zlt c (n - 1 - i) = f i
theorem i6 {i : Int} (h : 0 ≤ i ∧ i < 6) : i = 0 ∨ i = 1 ∨ i = 2 ∨ i = 3 ∨ i = 4 ∨ i = 5 := by omega
theorem NF_1 {a x0 c : Int} (h0 : 1 ≤ x0 ∧ x0 ≤ 26) (ha : a = x0) (hc : c = x0) : NF a c 1 (fun i => x0) := by
  obtain ⟨q, hq⟩ : ∃ q, zF = q + 2 := ⟨zF - 2, by have := zF_big; omega⟩
  refine ⟨by omega, fun i i0 i1 => ?_, fun i i0 i1 => ?_, fun d => ?_, fun i i0 i1 => ?_⟩
  · rcases i6 ⟨i0, (by omega : i < 6)⟩ with e | e | e | e | e | e <;> subst e <;> simp <;> omega
  · rw [zlt_i ⟨by omega, by omega⟩ ⟨i0, i1⟩]
    rcases i6 ⟨i0, i1⟩ with e | e | e | e | e | e <;> subst e <;> simp <;> omega
  · show l_X12_lettersOf_4 zF 0 c d = _
    rw [hq, lo_s (by omega) (by omega), lo_0 (by omega)]
    rfl
  · rw [zlt_i ⟨by omega, by omega⟩ (by omega)]
    rcases i6 ⟨i0, (by omega : i < 6)⟩ with e | e | e | e | e | e <;> subst e <;> simp <;> omega
theorem NF_2 {a x0 x1 c : Int} (h0 : 1 ≤ x0 ∧ x0 ≤ 26) (h1 : 1 ≤ x1 ∧ x1 ≤ 26) (ha : a = x0 + 32 * (x1)) (hc : c = 32 * (x0) + x1) : NF a c 2 (fun i => if i = 0 then x0 else x1) := by
  obtain ⟨q, hq⟩ : ∃ q, zF = q + 3 := ⟨zF - 3, by have := zF_big; omega⟩
  refine ⟨by omega, fun i i0 i1 => ?_, fun i i0 i1 => ?_, fun d => ?_, fun i i0 i1 => ?_⟩
  · rcases i6 ⟨i0, (by omega : i < 6)⟩ with e | e | e | e | e | e <;> subst e <;> simp <;> omega
  · rw [zlt_i ⟨by omega, by omega⟩ ⟨i0, i1⟩]
    rcases i6 ⟨i0, i1⟩ with e | e | e | e | e | e <;> subst e <;> simp <;> omega
  · show l_X12_lettersOf_4 zF 0 c d = _
    rw [hq, lo_s (by omega) (by omega), lo_s (by omega) (by omega), lo_0 (by omega)]
    rfl
  · rw [zlt_i ⟨by omega, by omega⟩ (by omega)]
    have e1 : c / 32 = x0 := by omega
    clear hq
    rcases i6 ⟨i0, (by omega : i < 6)⟩ with e | e | e | e | e | e <;> subst e <;> simp <;> omega
theorem NF_3 {a x0 x1 x2 c : Int} (h0 : 1 ≤ x0 ∧ x0 ≤ 26) (h1 : 1 ≤ x1 ∧ x1 ≤ 26) (h2 : 1 ≤ x2 ∧ x2 ≤ 26) (ha : a = x0 + 32 * (x1 + 32 * (x2))) (hc : c = 32 * (32 * (x0) + x1) + x2) : NF a c 3 (fun i => if i = 0 then x0 else if i = 1 then x1 else x2) := by
  obtain ⟨q, hq⟩ : ∃ q, zF = q + 4 := ⟨zF - 4, by have := zF_big; omega⟩
  refine ⟨by omega, fun i i0 i1 => ?_, fun i i0 i1 => ?_, fun d => ?_, fun i i0 i1 => ?_⟩
  · rcases i6 ⟨i0, (by omega : i < 6)⟩ with e | e | e | e | e | e <;> subst e <;> simp <;> omega
  · rw [zlt_i ⟨by omega, by omega⟩ ⟨i0, i1⟩]
    rcases i6 ⟨i0, i1⟩ with e | e | e | e | e | e <;> subst e <;> simp <;> omega
  · show l_X12_lettersOf_4 zF 0 c d = _
    rw [hq, lo_s (by omega) (by omega), lo_s (by omega) (by omega), lo_s (by omega) (by omega), lo_0 (by omega)]
    rfl
  · rw [zlt_i ⟨by omega, by omega⟩ (by omega)]
    have e1 : c / 32 = 32 * (x0) + x1 := by omega
    have e2 : c / 1024 = x0 := by omega
    clear hq
    rcases i6 ⟨i0, (by omega : i < 6)⟩ with e | e | e | e | e | e <;> subst e <;> simp <;> omega
theorem NF_4 {a x0 x1 x2 x3 c : Int} (h0 : 1 ≤ x0 ∧ x0 ≤ 26) (h1 : 1 ≤ x1 ∧ x1 ≤ 26) (h2 : 1 ≤ x2 ∧ x2 ≤ 26) (h3 : 1 ≤ x3 ∧ x3 ≤ 26) (ha : a = x0 + 32 * (x1 + 32 * (x2 + 32 * (x3)))) (hc : c = 32 * (32 * (32 * (x0) + x1) + x2) + x3) : NF a c 4 (fun i => if i = 0 then x0 else if i = 1 then x1 else if i = 2 then x2 else x3) := by
  obtain ⟨q, hq⟩ : ∃ q, zF = q + 5 := ⟨zF - 5, by have := zF_big; omega⟩
  refine ⟨by omega, fun i i0 i1 => ?_, fun i i0 i1 => ?_, fun d => ?_, fun i i0 i1 => ?_⟩
  · rcases i6 ⟨i0, (by omega : i < 6)⟩ with e | e | e | e | e | e <;> subst e <;> simp <;> omega
  · rw [zlt_i ⟨by omega, by omega⟩ ⟨i0, i1⟩]
    rcases i6 ⟨i0, i1⟩ with e | e | e | e | e | e <;> subst e <;> simp <;> omega
  · show l_X12_lettersOf_4 zF 0 c d = _
    rw [hq, lo_s (by omega) (by omega), lo_s (by omega) (by omega), lo_s (by omega) (by omega), lo_s (by omega) (by omega), lo_0 (by omega)]
    rfl
  · rw [zlt_i ⟨by omega, by omega⟩ (by omega)]
    have e1 : c / 32 = 32 * (32 * (x0) + x1) + x2 := by omega
    have e2 : c / 1024 = 32 * (x0) + x1 := by omega
    have e3 : c / 32768 = x0 := by omega
    clear hq
    rcases i6 ⟨i0, (by omega : i < 6)⟩ with e | e | e | e | e | e <;> subst e <;> simp <;> omega
theorem NF_5 {a x0 x1 x2 x3 x4 c : Int} (h0 : 1 ≤ x0 ∧ x0 ≤ 26) (h1 : 1 ≤ x1 ∧ x1 ≤ 26) (h2 : 1 ≤ x2 ∧ x2 ≤ 26) (h3 : 1 ≤ x3 ∧ x3 ≤ 26) (h4 : 1 ≤ x4 ∧ x4 ≤ 26) (ha : a = x0 + 32 * (x1 + 32 * (x2 + 32 * (x3 + 32 * (x4))))) (hc : c = 32 * (32 * (32 * (32 * (x0) + x1) + x2) + x3) + x4) : NF a c 5 (fun i => if i = 0 then x0 else if i = 1 then x1 else if i = 2 then x2 else if i = 3 then x3 else x4) := by
  obtain ⟨q, hq⟩ : ∃ q, zF = q + 6 := ⟨zF - 6, by have := zF_big; omega⟩
  refine ⟨by omega, fun i i0 i1 => ?_, fun i i0 i1 => ?_, fun d => ?_, fun i i0 i1 => ?_⟩
  · rcases i6 ⟨i0, (by omega : i < 6)⟩ with e | e | e | e | e | e <;> subst e <;> simp <;> omega
  · rw [zlt_i ⟨by omega, by omega⟩ ⟨i0, i1⟩]
    rcases i6 ⟨i0, i1⟩ with e | e | e | e | e | e <;> subst e <;> simp <;> omega
  · show l_X12_lettersOf_4 zF 0 c d = _
    rw [hq, lo_s (by omega) (by omega), lo_s (by omega) (by omega), lo_s (by omega) (by omega), lo_s (by omega) (by omega), lo_s (by omega) (by omega), lo_0 (by omega)]
    rfl
  · rw [zlt_i ⟨by omega, by omega⟩ (by omega)]
    have e1 : c / 32 = 32 * (32 * (32 * (x0) + x1) + x2) + x3 := by omega
    have e2 : c / 1024 = 32 * (32 * (x0) + x1) + x2 := by omega
    have e3 : c / 32768 = 32 * (x0) + x1 := by omega
    have e4 : c / 1048576 = x0 := by omega
    clear hq
    rcases i6 ⟨i0, (by omega : i < 6)⟩ with e | e | e | e | e | e <;> subst e <;> simp <;> omega
theorem NF_6 {a x0 x1 x2 x3 x4 x5 c : Int} (h0 : 1 ≤ x0 ∧ x0 ≤ 26) (h1 : 1 ≤ x1 ∧ x1 ≤ 26) (h2 : 1 ≤ x2 ∧ x2 ≤ 26) (h3 : 1 ≤ x3 ∧ x3 ≤ 26) (h4 : 1 ≤ x4 ∧ x4 ≤ 26) (h5 : 1 ≤ x5 ∧ x5 ≤ 26) (ha : a = x0 + 32 * (x1 + 32 * (x2 + 32 * (x3 + 32 * (x4 + 32 * (x5)))))) (hc : c = 32 * (32 * (32 * (32 * (32 * (x0) + x1) + x2) + x3) + x4) + x5) : NF a c 6 (fun i => if i = 0 then x0 else if i = 1 then x1 else if i = 2 then x2 else if i = 3 then x3 else if i = 4 then x4 else x5) := by
  obtain ⟨q, hq⟩ : ∃ q, zF = q + 7 := ⟨zF - 7, by have := zF_big; omega⟩
  refine ⟨by omega, fun i i0 i1 => ?_, fun i i0 i1 => ?_, fun d => ?_, fun i i0 i1 => ?_⟩
  · rcases i6 ⟨i0, (by omega : i < 6)⟩ with e | e | e | e | e | e <;> subst e <;> simp <;> omega
  · rw [zlt_i ⟨by omega, by omega⟩ ⟨i0, i1⟩]
    rcases i6 ⟨i0, i1⟩ with e | e | e | e | e | e <;> subst e <;> simp <;> omega
  · show l_X12_lettersOf_4 zF 0 c d = _
    rw [hq, lo_s (by omega) (by omega), lo_s (by omega) (by omega), lo_s (by omega) (by omega), lo_s (by omega) (by omega), lo_s (by omega) (by omega), lo_s (by omega) (by omega), lo_0 (by omega)]
    rfl
  · rw [zlt_i ⟨by omega, by omega⟩ (by omega)]
    have e1 : c / 32 = 32 * (32 * (32 * (32 * (x0) + x1) + x2) + x3) + x4 := by omega
    have e2 : c / 1024 = 32 * (32 * (32 * (x0) + x1) + x2) + x3 := by omega
    have e3 : c / 32768 = 32 * (32 * (x0) + x1) + x2 := by omega
    have e4 : c / 1048576 = 32 * (x0) + x1 := by omega
    have e5 : c / 33554432 = x0 := by omega
    clear hq
    rcases i6 ⟨i0, (by omega : i < 6)⟩ with e | e | e | e | e | e <;> subst e <;> simp <;> omega
theorem NF_of {a c : Int} (h : nmr a c) : ∃ n f, NF a c n f := by
  obtain ⟨l, ⟨h1, h6⟩, hx, ha, hc⟩ := h
  rcases l with _ | ⟨x0, _ | ⟨x1, _ | ⟨x2, _ | ⟨x3, _ | ⟨x4, _ | ⟨x5, _ | ⟨x6, l⟩⟩⟩⟩⟩⟩⟩
  · simp at h1
  · exact ⟨_, _, NF_1 (hx x0 (by simp)) (by rw [ha]; simp only [ncl]; omega) (by rw [hc]; simp only [nrf]; omega)⟩
  · exact ⟨_, _, NF_2 (hx x0 (by simp)) (hx x1 (by simp)) (by rw [ha]; simp only [ncl]; omega) (by rw [hc]; simp only [nrf]; omega)⟩
  · exact ⟨_, _, NF_3 (hx x0 (by simp)) (hx x1 (by simp)) (hx x2 (by simp)) (by rw [ha]; simp only [ncl]; omega) (by rw [hc]; simp only [nrf]; omega)⟩
  · exact ⟨_, _, NF_4 (hx x0 (by simp)) (hx x1 (by simp)) (hx x2 (by simp)) (hx x3 (by simp)) (by rw [ha]; simp only [ncl]; omega) (by rw [hc]; simp only [nrf]; omega)⟩
  · exact ⟨_, _, NF_5 (hx x0 (by simp)) (hx x1 (by simp)) (hx x2 (by simp)) (hx x3 (by simp)) (hx x4 (by simp)) (by rw [ha]; simp only [ncl]; omega) (by rw [hc]; simp only [nrf]; omega)⟩
  · exact ⟨_, _, NF_6 (hx x0 (by simp)) (hx x1 (by simp)) (hx x2 (by simp)) (hx x3 (by simp)) (hx x4 (by simp)) (hx x5 (by simp)) (by rw [ha]; simp only [ncl]; omega) (by rw [hc]; simp only [nrf]; omega)⟩
  · simp at h6
