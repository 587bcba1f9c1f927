/-! Four letters in a word. -/
theorem zI_nat {a : Nat} (ha : a < 2147483648) : (zI (a : Int)).toBitVec = BitVec.ofNat 32 a := by
  show BitVec.ofInt 32 (a : Int) = _
  rw [BitVec.ofInt_natCast]
theorem toInt_nat {b : BitVec 32} (h : b.toNat < 2147483648) : (Int32.ofBitVec b).toInt = (b.toNat : Int) := by
  show b.toInt = _
  rw [BitVec.toInt_eq_toNat_of_lt (by omega)]
theorem zor_nat {a b : Nat} (ha : a < 2147483648) (hb : b < 2147483648) : zor (a : Int) (b : Int) = ((a ||| b : Nat) : Int) := by
  have hlt : a ||| b < 2147483648 := Nat.or_lt_two_pow (n := 31) ha hb
  have e : (zI (a : Int) ||| zI (b : Int)) = Int32.ofBitVec (BitVec.ofNat 32 a ||| BitVec.ofNat 32 b) := by
    show Int32.ofBitVec ((zI (a : Int)).toBitVec ||| (zI (b : Int)).toBitVec) = _
    rw [zI_nat ha, zI_nat hb]
  have hn : (BitVec.ofNat 32 a ||| BitVec.ofNat 32 b).toNat = a ||| b := by
    rw [BitVec.toNat_or, BitVec.toNat_ofNat, BitVec.toNat_ofNat, Nat.mod_eq_of_lt (by omega), Nat.mod_eq_of_lt (by omega)]
  show (zI (a : Int) ||| zI (b : Int)).toInt = _
  rw [e, toInt_nat (by rw [hn]; exact hlt), hn]
theorem shl_all : ∀ c : Fin 128, zshl (c.val : Int) 24 = ((c.val * 16777216 : Nat) : Int) ∧ zshl (c.val : Int) 16 = ((c.val * 65536 : Nat) : Int) ∧ zshl (c.val : Int) 8 = ((c.val * 256 : Nat) : Int) ∧ zshl (c.val : Int) 0 = ((c.val : Nat) : Int) := by decide +kernel
theorem or_add {a b : Nat} (i : Nat) (hb : b < 2 ^ i) : (2 ^ i * a) ||| b = 2 ^ i * a + b := (Nat.two_pow_add_eq_or_of_lt hb a).symm
/-- a word out of four letters -/
theorem z_pack {c0 c1 c2 c3 : Nat} (h0 : c0 < 128) (h1 : c1 < 128) (h2 : c2 < 128) (h3 : c3 < 128) : zor (zor (zor (zor 0 (zshl c0 24)) (zshl c1 16)) (zshl c2 8)) (zshl c3 0) = ((c0 * 16777216 + c1 * 65536 + c2 * 256 + c3 : Nat) : Int) := by
  obtain ⟨a0, -, -, -⟩ := shl_all ⟨c0, h0⟩
  obtain ⟨-, a1, -, -⟩ := shl_all ⟨c1, h1⟩
  obtain ⟨-, -, a2, -⟩ := shl_all ⟨c2, h2⟩
  obtain ⟨-, -, -, a3⟩ := shl_all ⟨c3, h3⟩
  dsimp only at a0 a1 a2 a3
  have e0 : zor 0 ((c0 * 16777216 : Nat) : Int) = ((c0 * 16777216 : Nat) : Int) := by
    have := zor_nat (a := 0) (b := c0 * 16777216) (by omega) (by omega)
    rw [Nat.zero_or] at this
    exact this
  have e1 : zor ((c0 * 16777216 : Nat) : Int) ((c1 * 65536 : Nat) : Int) = ((c0 * 16777216 + c1 * 65536 : Nat) : Int) := by
    rw [zor_nat (by omega) (by omega)]
    have := or_add (a := c0) (b := c1 * 65536) 24 (by omega)
    rw [show 2 ^ 24 * c0 = c0 * 16777216 by omega] at this
    rw [this]
  have e2 : zor ((c0 * 16777216 + c1 * 65536 : Nat) : Int) ((c2 * 256 : Nat) : Int) = ((c0 * 16777216 + c1 * 65536 + c2 * 256 : Nat) : Int) := by
    rw [zor_nat (by omega) (by omega)]
    have := or_add (a := c0 * 256 + c1) (b := c2 * 256) 16 (by omega)
    rw [show 2 ^ 16 * (c0 * 256 + c1) = c0 * 16777216 + c1 * 65536 by omega] at this
    rw [this]
  have e3 : zor ((c0 * 16777216 + c1 * 65536 + c2 * 256 : Nat) : Int) ((c3 : Nat) : Int) = ((c0 * 16777216 + c1 * 65536 + c2 * 256 + c3 : Nat) : Int) := by
    rw [zor_nat (by omega) (by omega)]
    have := or_add (a := c0 * 65536 + c1 * 256 + c2) (b := c3) 8 (by omega)
    rw [show 2 ^ 8 * (c0 * 65536 + c1 * 256 + c2) = c0 * 16777216 + c1 * 65536 + c2 * 256 by omega] at this
    rw [this]
  rw [a0, a1, a2, a3, e0, e1, e2, e3]
theorem F_byte {d : zD} {n c : Int} (h : d 10 1 = n) (hn : 0 ≤ n ∧ n < 600) : f_X9_addByte c d = some (0, zu (zu d 11 n.toNat c) 10 1 (n + 1)) := by
  unfold f_X9_addByte
  rw [zl_n, h, if_neg (by omega), zl_n, zg_t (by omega), zl_n, zl_n, zu_row (by omega), h, zl_n, zw_id (by omega) (by omega), zl_n]
def wd4 (c0 c1 c2 c3 : Nat) : Int := ((c0 * 16777216 + c1 * 65536 + c2 * 256 + c3 : Nat) : Int)
theorem wd4_R {c0 c1 c2 c3 : Nat} (h0 : c0 < 128) (h1 : c1 < 128) (h2 : c2 < 128) (h3 : c3 < 128) : zR (wd4 c0 c1 c2 c3) := by
  unfold wd4
  exact ⟨by omega, by omega⟩
theorem wd4_b {c0 c1 c2 c3 : Nat} (h0 : c0 < 128) (h1 : c1 < 128) (h2 : c2 < 128) (h3 : c3 < 128) : zand (zshr (wd4 c0 c1 c2 c3) 24) 255 = (c0 : Int) ∧ zand (zshr (wd4 c0 c1 c2 c3) 16) 255 = (c1 : Int) ∧ zand (zshr (wd4 c0 c1 c2 c3) 8) 255 = (c2 : Int) ∧ zand (zshr (wd4 c0 c1 c2 c3) 0) 255 = (c3 : Int) := by
  have hR := wd4_R h0 h1 h2 h3
  rw [zand_255, zand_255, zand_255, zand_255, z_shr (n := 24) hR (by decide), z_shr (n := 16) hR (by decide), z_shr (n := 8) hR (by decide), zs_0 hR]
  unfold wd4
  exact ⟨by omega, by omega, by omega, by omega⟩
theorem F_step {d : zD} {x x2 n : Int} (h : d 10 1 = n) (hn : 0 ≤ n ∧ n < 600) (h2 : 0 ≤ x2 ∧ x2 ≤ 24) (q : Nat) : l_X9_addFourBytes_3 (q + 1) x x2 d = l_X9_addFourBytes_3 q x (x2 - 8) (zu (zu d 11 n.toNat (zand (zshr x x2) 255)) 10 1 (n + 1)) := by
  show l_X9_addFourBytes_3F _ x x2 d = _
  unfold l_X9_addFourBytes_3F
  rw [if_neg (by omega), zl_n, zl_n, F_byte h hn, zc_n, zl_n, zw_id (by omega) (by omega), show x2 + -8 = x2 - 8 by omega]
/-- four letters come into the input -/
theorem F_four {d : zD} {n : Int} {c0 c1 c2 c3 : Nat} (h : d 10 1 = n) (hn : 0 ≤ n ∧ n ≤ 596) (h0 : c0 < 128) (h1 : c1 < 128) (h2 : c2 < 128) (h3 : c3 < 128) : ∃ d', f_X9_addFourBytes (wd4 c0 c1 c2 c3) d = some (0, d') ∧ Fi d d' ∧ d' 10 1 = n + 4 ∧ (∀ j : Int, 0 ≤ j → j < n → d' 11 j.toNat = d 11 j.toNat) ∧ d' 11 n.toNat = c0 ∧ d' 11 (n + 1).toNat = c1 ∧ d' 11 (n + 2).toNat = c2 ∧ d' 11 (n + 3).toNat = c3 := by
  obtain ⟨q, hq⟩ : ∃ q, zF = q + 5 := ⟨zF - 5, by have := zF_big; omega⟩
  obtain ⟨b0, b1, b2, b3⟩ := wd4_b h0 h1 h2 h3
  generalize hA : zu (zu d 11 n.toNat (c0 : Int)) 10 1 (n + 1) = dA
  have a1 : dA 10 1 = n + 1 := by rw [← hA, zu_eq]
  generalize hB : zu (zu dA 11 (n + 1).toNat (c1 : Int)) 10 1 (n + 1 + 1) = dB
  have a2 : dB 10 1 = n + 1 + 1 := by rw [← hB, zu_eq]
  generalize hC : zu (zu dB 11 (n + 1 + 1).toNat (c2 : Int)) 10 1 (n + 1 + 1 + 1) = dC
  have a3 : dC 10 1 = n + 1 + 1 + 1 := by rw [← hC, zu_eq]
  generalize hD : zu (zu dC 11 (n + 1 + 1 + 1).toNat (c3 : Int)) 10 1 (n + 1 + 1 + 1 + 1) = dD
  have fi : ∀ {d d' : zD} {i : Nat} {v w : Int}, zu (zu d 11 i v) 10 1 w = d' → Fi d d' := fun {d d' i v w} e => by
    rw [← e]
    exact ⟨fun c c1 c2 => by rw [zu_row c1, zu_row c2], fun j hj => by rw [zu_ne (Or.inr hj), zu_row (by omega)]⟩
  have rd : ∀ {d d' : zD} {i : Nat} {v w : Int}, zu (zu d 11 i v) 10 1 w = d' → ∀ k, d' 11 k = if k = i then v else d 11 k := fun {d d' i v w} e k => by
    rw [← e, zu_row (by omega)]
    by_cases hk : k = i
    · rw [if_pos hk, hk, zu_eq]
    · rw [if_neg hk, zu_ne (Or.inr hk)]
  refine ⟨dD, ?_, (fi hA).tr ((fi hB).tr ((fi hC).tr (fi hD))), by rw [← hD, zu_eq]; omega, fun j j0 j1 => ?_, ?_, ?_, ?_, ?_⟩
  · unfold f_X9_addFourBytes
    rw [hq, F_step h (by omega) (by omega), b0, hA, show (24 : Int) - 8 = 16 from rfl, F_step a1 (by omega) (by omega), b1, hB, show (16 : Int) - 8 = 8 from rfl, F_step a2 (by omega) (by omega), b2, hC, show (8 : Int) - 8 = 0 from rfl, F_step a3 (by omega) (by omega), b3, hD]
    show l_X9_addFourBytes_3F _ _ _ dD = _
    unfold l_X9_addFourBytes_3F
    rw [if_pos (by decide)]
  · rw [rd hD, if_neg (by omega), rd hC, if_neg (by omega), rd hB, if_neg (by omega), rd hA, if_neg (by omega)]
  · rw [rd hD, if_neg (by omega), rd hC, if_neg (by omega), rd hB, if_neg (by omega), rd hA, if_pos rfl]
  · rw [rd hD, if_neg (by omega), rd hC, if_neg (by omega), rd hB, if_pos rfl]
  · rw [rd hD, if_neg (by omega), rd hC, if_pos (by omega)]
  · rw [rd hD, if_pos (by omega)]
theorem zu_zu {d : zD} {a k : Nat} {v w : Int} : zu (zu d a k v) a k w = zu d a k w := by
  funext b j
  unfold zu
  split <;> rfl
theorem m20 : ∀ m : Fin 20, zdiv (m.val : Int) 4 = ((m.val / 4 : Nat) : Int) ∧ zrem (m.val : Int) 4 = ((m.val % 4 : Nat) : Int) := by decide +kernel
/-- a letter of the text, or a space behind it -/
def tcl (τ : zdW) (i : Int) : Int := if (τ.2.2.1 : Int) ≤ i then 32 else τ.2.2.2 i.toNat
def zdY4 (τ : zdW) : Prop := τ.2.2.1 ≤ 600 ∧ ∀ j, j < τ.2.2.1 → 0 ≤ τ.2.2.2 j ∧ τ.2.2.2 j < 128
theorem tcl_R {τ : zdW} (h : zdY4 τ) {i : Int} (hi : 0 ≤ i) : 0 ≤ tcl τ i ∧ tcl τ i < 128 := by
  unfold tcl
  by_cases h1 : (τ.2.2.1 : Int) ≤ i
  · rw [if_pos h1]; omega
  · rw [if_neg h1]; exact h.2 i.toNat (by omega)
theorem G_one {τ : zdW} {x2 : Int} {K : zD → Option (Int × zD)} {d : zD} (m : Nat) (hm : m < 20) (h2 : 0 ≤ x2 ∧ x2 ≤ 1000) (p : Nat) : l_L_feeds_17 τ x2 K (p + 1) (m : Int) d = l_L_feeds_17 τ x2 K p ((m + 1 : Nat) : Int) (zu d 430 (m / 4) (zor (d 430 (m / 4)) (zshl (tcl τ (x2 + m)) ((24 - 8 * (m % 4) : Nat) : Int)))) := by
  obtain ⟨e1, e2⟩ := m20 ⟨m, hm⟩
  dsimp only at e1 e2
  have hj : ∀ c : Int, j_L_feeds_55 ((m / 4 : Nat) : Int) (d 430 (m / 4)) (m : Int) c (l_L_feeds_17 τ x2 K p) d = l_L_feeds_17 τ x2 K p ((m + 1 : Nat) : Int) (zu d 430 (m / 4) (zor (d 430 (m / 4)) (zshl c ((24 - 8 * (m % 4) : Nat) : Int)))) := fun c => by
    unfold j_L_feeds_55
    rw [zn_t (by decide), zl_n, e2, zl_n, zw_id (x := 8 * ((m % 4 : Nat) : Int)) (by omega) (by omega), zl_n, zw_id (x := 24 - 8 * ((m % 4 : Nat) : Int)) (by omega) (by omega), zl_n, zl_n, zg_t (by omega), zl_n, zl_n, zw_id (by omega) (by omega), show (24 : Int) - 8 * ((m % 4 : Nat) : Int) = ((24 - 8 * (m % 4) : Nat) : Int) by omega, show (m : Int) + 1 = ((m + 1 : Nat) : Int) by omega, Int.toNat_natCast]
  show (if (20 : Int) ≤ (m : Int) then K d else _) = _
  rw [if_neg (by omega), zn_t (by decide), zl_n, e1, zg_t (by omega), zl_n, Int.toNat_natCast, zl_n, zw_id (by omega) (by omega), zl_n]
  unfold tcl
  by_cases h1 : (τ.2.2.1 : Int) ≤ x2 + (m : Int)
  · rw [if_pos h1, if_pos h1, hj]
  · rw [if_neg h1, if_neg h1, zl_n, zg_t (by omega), zl_n, hj]
/-- a word's four letters -/
theorem G_word {τ : zdW} (hτ : zdY4 τ) {x2 : Int} {K : zD → Option (Int × zD)} {d : zD} (q : Nat) (hq : q < 5) (h2 : 0 ≤ x2 ∧ x2 ≤ 1000) (h0 : d 430 q = 0) (p : Nat) : l_L_feeds_17 τ x2 K (p + 4) ((4 * q : Nat) : Int) d = l_L_feeds_17 τ x2 K p ((4 * (q + 1) : Nat) : Int) (zu d 430 q (wd4 (tcl τ (x2 + (4 * q : Nat))).toNat (tcl τ (x2 + (4 * q + 1 : Nat))).toNat (tcl τ (x2 + (4 * q + 2 : Nat))).toNat (tcl τ (x2 + (4 * q + 3 : Nat))).toNat)) := by
  obtain ⟨a0, b0⟩ := tcl_R hτ (i := x2 + (4 * q : Nat)) (by omega)
  obtain ⟨a1, b1⟩ := tcl_R hτ (i := x2 + (4 * q + 1 : Nat)) (by omega)
  obtain ⟨a2, b2⟩ := tcl_R hτ (i := x2 + (4 * q + 2 : Nat)) (by omega)
  obtain ⟨a3, b3⟩ := tcl_R hτ (i := x2 + (4 * q + 3 : Nat)) (by omega)
  have hp := z_pack (c0 := (tcl τ (x2 + (4 * q : Nat))).toNat) (c1 := (tcl τ (x2 + (4 * q + 1 : Nat))).toNat) (c2 := (tcl τ (x2 + (4 * q + 2 : Nat))).toNat) (c3 := (tcl τ (x2 + (4 * q + 3 : Nat))).toNat) (by omega) (by omega) (by omega) (by omega)
  rw [Int.toNat_of_nonneg a0, Int.toNat_of_nonneg a1, Int.toNat_of_nonneg a2, Int.toNat_of_nonneg a3] at hp
  rw [G_one (4 * q) (by omega) h2 (p + 3), show 4 * q / 4 = q by omega, show 4 * q % 4 = 0 by omega, h0]
  rw [G_one (4 * q + 1) (by omega) h2 (p + 2), show (4 * q + 1) / 4 = q by omega, show (4 * q + 1) % 4 = 1 by omega, zu_eq, zu_zu]
  rw [G_one (4 * q + 1 + 1) (by omega) h2 (p + 1), show (4 * q + 1 + 1) / 4 = q by omega, show (4 * q + 1 + 1) % 4 = 2 by omega, zu_eq, zu_zu]
  rw [G_one (4 * q + 1 + 1 + 1) (by omega) h2 p, show (4 * q + 1 + 1 + 1) / 4 = q by omega, show (4 * q + 1 + 1 + 1) % 4 = 3 by omega, zu_eq, zu_zu]
  unfold wd4
  rw [← hp]
  rfl
