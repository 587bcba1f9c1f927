/-! Four letters in a word. -/
theorem zI_nat {a : Nat} (ha : a < 2147483648) : (zI (a : Int)).toBitVec = BitVec.ofNat 32 a := by
  show BitVec.ofInt 32 (a : Int) = _
  rw [BitVec.ofInt_natCast]
theorem toInt_nat {b : BitVec 32} (h : b.toNat < 2147483648) : (Int32.ofBitVec b).toInt = (b.toNat : Int) := by
  show b.toInt = _
  rw [BitVec.toInt_eq_toNat_of_lt (by omega)]
theorem zor_nat {a b : Nat} (ha : a < 2147483648) (hb : b < 2147483648) : zor (a : Int) (b : Int) = ((a ||| b : Nat) : Int) := by
  have hlt : a ||| b < 2147483648 := Nat.or_lt_two_pow (n := 31) ha hb
  have e : (zI (a : Int) ||| zI (b : Int)) = Int32.ofBitVec (BitVec.ofNat 32 a ||| BitVec.ofNat 32 b) := by
    show Int32.ofBitVec ((zI (a : Int)).toBitVec ||| (zI (b : Int)).toBitVec) = _
    rw [zI_nat ha, zI_nat hb]
  have hn : (BitVec.ofNat 32 a ||| BitVec.ofNat 32 b).toNat = a ||| b := by
    rw [BitVec.toNat_or, BitVec.toNat_ofNat, BitVec.toNat_ofNat, Nat.mod_eq_of_lt (by omega), Nat.mod_eq_of_lt (by omega)]
  show (zI (a : Int) ||| zI (b : Int)).toInt = _
  rw [e, toInt_nat (by rw [hn]; exact hlt), hn]
theorem shl_all : ∀ c : Fin 128, zshl (c.val : Int) 24 = ((c.val * 16777216 : Nat) : Int) ∧ zshl (c.val : Int) 16 = ((c.val * 65536 : Nat) : Int) ∧ zshl (c.val : Int) 8 = ((c.val * 256 : Nat) : Int) ∧ zshl (c.val : Int) 0 = ((c.val : Nat) : Int) := by decide +kernel
theorem or_add {a b : Nat} (i : Nat) (hb : b < 2 ^ i) : (2 ^ i * a) ||| b = 2 ^ i * a + b := (Nat.two_pow_add_eq_or_of_lt hb a).symm
/-- a word out of four letters -/
theorem z_pack {c0 c1 c2 c3 : Nat} (h0 : c0 < 128) (h1 : c1 < 128) (h2 : c2 < 128) (h3 : c3 < 128) : zor (zor (zor (zor 0 (zshl c0 24)) (zshl c1 16)) (zshl c2 8)) (zshl c3 0) = ((c0 * 16777216 + c1 * 65536 + c2 * 256 + c3 : Nat) : Int) := by
  obtain ⟨a0, -, -, -⟩ := shl_all ⟨c0, h0⟩
  obtain ⟨-, a1, -, -⟩ := shl_all ⟨c1, h1⟩
  obtain ⟨-, -, a2, -⟩ := shl_all ⟨c2, h2⟩
  obtain ⟨-, -, -, a3⟩ := shl_all ⟨c3, h3⟩
  dsimp only at a0 a1 a2 a3
  have e0 : zor 0 ((c0 * 16777216 : Nat) : Int) = ((c0 * 16777216 : Nat) : Int) := by
    have := zor_nat (a := 0) (b := c0 * 16777216) (by omega) (by omega)
    rw [Nat.zero_or] at this
    exact this
  have e1 : zor ((c0 * 16777216 : Nat) : Int) ((c1 * 65536 : Nat) : Int) = ((c0 * 16777216 + c1 * 65536 : Nat) : Int) := by
    rw [zor_nat (by omega) (by omega)]
    have := or_add (a := c0) (b := c1 * 65536) 24 (by omega)
    rw [show 2 ^ 24 * c0 = c0 * 16777216 by omega] at this
    rw [this]
  have e2 : zor ((c0 * 16777216 + c1 * 65536 : Nat) : Int) ((c2 * 256 : Nat) : Int) = ((c0 * 16777216 + c1 * 65536 + c2 * 256 : Nat) : Int) := by
    rw [zor_nat (by omega) (by omega)]
    have := or_add (a := c0 * 256 + c1) (b := c2 * 256) 16 (by omega)
    rw [show 2 ^ 16 * (c0 * 256 + c1) = c0 * 16777216 + c1 * 65536 by omega] at this
    rw [this]
  have e3 : zor ((c0 * 16777216 + c1 * 65536 + c2 * 256 : Nat) : Int) ((c3 : Nat) : Int) = ((c0 * 16777216 + c1 * 65536 + c2 * 256 + c3 : Nat) : Int) := by
    rw [zor_nat (by omega) (by omega)]
    have := or_add (a := c0 * 65536 + c1 * 256 + c2) (b := c3) 8 (by omega)
    rw [show 2 ^ 8 * (c0 * 65536 + c1 * 256 + c2) = c0 * 16777216 + c1 * 65536 + c2 * 256 by omega] at this
    rw [this]
  rw [a0, a1, a2, a3, e0, e1, e2, e3]
