/-! Four letters in a word. -/
theorem zI_nat {a : Nat} (ha : a < 2147483648) : (zI (a : Int)).toBitVec = BitVec.ofNat 32 a := by
  show BitVec.ofInt 32 (a : Int) = _
  rw [BitVec.ofInt_natCast]
theorem toInt_nat {b : BitVec 32} (h : b.toNat < 2147483648) : (Int32.ofBitVec b).toInt = (b.toNat : Int) := by
  show b.toInt = _
  rw [BitVec.toInt_eq_toNat_of_lt (by omega)]
theorem zor_nat {a b : Nat} (ha : a < 2147483648) (hb : b < 2147483648) : zor (a : Int) (b : Int) = ((a ||| b : Nat) : Int) := by
  have hlt : a ||| b < 2147483648 := Nat.or_lt_two_pow (n := 31) ha hb
  have e : (zI (a : Int) ||| zI (b : Int)) = Int32.ofBitVec (BitVec.ofNat 32 a ||| BitVec.ofNat 32 b) := by
    show Int32.ofBitVec ((zI (a : Int)).toBitVec ||| (zI (b : Int)).toBitVec) = _
    rw [zI_nat ha, zI_nat hb]
  have hn : (BitVec.ofNat 32 a ||| BitVec.ofNat 32 b).toNat = a ||| b := by
    rw [BitVec.toNat_or, BitVec.toNat_ofNat, BitVec.toNat_ofNat, Nat.mod_eq_of_lt (by omega), Nat.mod_eq_of_lt (by omega)]
  show (zI (a : Int) ||| zI (b : Int)).toInt = _
  rw [e, toInt_nat (by rw [hn]; exact hlt), hn]
theorem shl_all : ∀ c : Fin 128, zshl (c.val : Int) 24 = ((c.val * 16777216 : Nat) : Int) ∧ zshl (c.val : Int) 16 = ((c.val * 65536 : Nat) : Int) ∧ zshl (c.val : Int) 8 = ((c.val * 256 : Nat) : Int) ∧ zshl (c.val : Int) 0 = ((c.val : Nat) : Int) := by decide +kernel
theorem or_add {a b : Nat} (i : Nat) (hb : b < 2 ^ i) : (2 ^ i * a) ||| b = 2 ^ i * a + b := (Nat.two_pow_add_eq_or_of_lt hb a).symm
/-- a word out of four letters -/
theorem z_pack {c0 c1 c2 c3 : Nat} (h0 : c0 < 128) (h1 : c1 < 128) (h2 : c2 < 128) (h3 : c3 < 128) : zor (zor (zor (zor 0 (zshl c0 24)) (zshl c1 16)) (zshl c2 8)) (zshl c3 0) = ((c0 * 16777216 + c1 * 65536 + c2 * 256 + c3 : Nat) : Int) := by
  obtain ⟨a0, -, -, -⟩ := shl_all ⟨c0, h0⟩
  obtain ⟨-, a1, -, -⟩ := shl_all ⟨c1, h1⟩
  obtain ⟨-, -, a2, -⟩ := shl_all ⟨c2, h2⟩
  obtain ⟨-, -, -, a3⟩ := shl_all ⟨c3, h3⟩
  dsimp only at a0 a1 a2 a3
  have e0 : zor 0 ((c0 * 16777216 : Nat) : Int) = ((c0 * 16777216 : Nat) : Int) := by
    have := zor_nat (a := 0) (b := c0 * 16777216) (by omega) (by omega)
    rw [Nat.zero_or] at this
    exact this
  have e1 : zor ((c0 * 16777216 : Nat) : Int) ((c1 * 65536 : Nat) : Int) = ((c0 * 16777216 + c1 * 65536 : Nat) : Int) := by
    rw [zor_nat (by omega) (by omega)]
    have := or_add (a := c0) (b := c1 * 65536) 24 (by omega)
    rw [show 2 ^ 24 * c0 = c0 * 16777216 by omega] at this
    rw [this]
  have e2 : zor ((c0 * 16777216 + c1 * 65536 : Nat) : Int) ((c2 * 256 : Nat) : Int) = ((c0 * 16777216 + c1 * 65536 + c2 * 256 : Nat) : Int) := by
    rw [zor_nat (by omega) (by omega)]
    have := or_add (a := c0 * 256 + c1) (b := c2 * 256) 16 (by omega)
    rw [show 2 ^ 16 * (c0 * 256 + c1) = c0 * 16777216 + c1 * 65536 by omega] at this
    rw [this]
  have e3 : zor ((c0 * 16777216 + c1 * 65536 + c2 * 256 : Nat) : Int) ((c3 : Nat) : Int) = ((c0 * 16777216 + c1 * 65536 + c2 * 256 + c3 : Nat) : Int) := by
    rw [zor_nat (by omega) (by omega)]
    have := or_add (a := c0 * 65536 + c1 * 256 + c2) (b := c3) 8 (by omega)
    rw [show 2 ^ 8 * (c0 * 65536 + c1 * 256 + c2) = c0 * 16777216 + c1 * 65536 + c2 * 256 by omega] at this
    rw [this]
  rw [a0, a1, a2, a3, e0, e1, e2, e3]
theorem F_byte {d : zD} {n c : Int} (h : d 10 1 = n) (hn : 0 ≤ n ∧ n < 600) : f_X9_addByte c d = some (0, zu (zu d 11 n.toNat c) 10 1 (n + 1)) := by
  unfold f_X9_addByte
  rw [zl_n, h, if_neg (by omega), zl_n, zg_t (by omega), zl_n, zl_n, zu_row (by omega), h, zl_n, zw_id (by omega) (by omega), zl_n]
def wd4 (c0 c1 c2 c3 : Nat) : Int := ((c0 * 16777216 + c1 * 65536 + c2 * 256 + c3 : Nat) : Int)
theorem wd4_R {c0 c1 c2 c3 : Nat} (h0 : c0 < 128) (h1 : c1 < 128) (h2 : c2 < 128) (h3 : c3 < 128) : zR (wd4 c0 c1 c2 c3) := by
  unfold wd4
  exact ⟨by omega, by omega⟩
theorem wd4_b {c0 c1 c2 c3 : Nat} (h0 : c0 < 128) (h1 : c1 < 128) (h2 : c2 < 128) (h3 : c3 < 128) : zand (zshr (wd4 c0 c1 c2 c3) 24) 255 = (c0 : Int) ∧ zand (zshr (wd4 c0 c1 c2 c3) 16) 255 = (c1 : Int) ∧ zand (zshr (wd4 c0 c1 c2 c3) 8) 255 = (c2 : Int) ∧ zand (zshr (wd4 c0 c1 c2 c3) 0) 255 = (c3 : Int) := by
  have hR := wd4_R h0 h1 h2 h3
  rw [zand_255, zand_255, zand_255, zand_255, z_shr (n := 24) hR (by decide), z_shr (n := 16) hR (by decide), z_shr (n := 8) hR (by decide), zs_0 hR]
  unfold wd4
  exact ⟨by omega, by omega, by omega, by omega⟩
theorem F_step {d : zD} {x x2 n : Int} (h : d 10 1 = n) (hn : 0 ≤ n ∧ n < 600) (h2 : 0 ≤ x2 ∧ x2 ≤ 24) (q : Nat) : l_X9_addFourBytes_3 (q + 1) x x2 d = l_X9_addFourBytes_3 q x (x2 - 8) (zu (zu d 11 n.toNat (zand (zshr x x2) 255)) 10 1 (n + 1)) := by
  show l_X9_addFourBytes_3F _ x x2 d = _
  unfold l_X9_addFourBytes_3F
  rw [if_neg (by omega), zl_n, zl_n, F_byte h hn, zc_n, zl_n, zw_id (by omega) (by omega), show x2 + -8 = x2 - 8 by omega]
/-- four letters come into the input -/
theorem F_four {d : zD} {n : Int} {c0 c1 c2 c3 : Nat} (h : d 10 1 = n) (hn : 0 ≤ n ∧ n ≤ 596) (h0 : c0 < 128) (h1 : c1 < 128) (h2 : c2 < 128) (h3 : c3 < 128) : ∃ d', f_X9_addFourBytes (wd4 c0 c1 c2 c3) d = some (0, d') ∧ Fi d d' ∧ d' 10 1 = n + 4 ∧ (∀ j : Int, 0 ≤ j → j < n → d' 11 j.toNat = d 11 j.toNat) ∧ d' 11 n.toNat = c0 ∧ d' 11 (n + 1).toNat = c1 ∧ d' 11 (n + 2).toNat = c2 ∧ d' 11 (n + 3).toNat = c3 := by
  obtain ⟨q, hq⟩ : ∃ q, zF = q + 5 := ⟨zF - 5, by have := zF_big; omega⟩
  obtain ⟨b0, b1, b2, b3⟩ := wd4_b h0 h1 h2 h3
  generalize hA : zu (zu d 11 n.toNat (c0 : Int)) 10 1 (n + 1) = dA
  have a1 : dA 10 1 = n + 1 := by rw [← hA, zu_eq]
  generalize hB : zu (zu dA 11 (n + 1).toNat (c1 : Int)) 10 1 (n + 1 + 1) = dB
  have a2 : dB 10 1 = n + 1 + 1 := by rw [← hB, zu_eq]
  generalize hC : zu (zu dB 11 (n + 1 + 1).toNat (c2 : Int)) 10 1 (n + 1 + 1 + 1) = dC
  have a3 : dC 10 1 = n + 1 + 1 + 1 := by rw [← hC, zu_eq]
  generalize hD : zu (zu dC 11 (n + 1 + 1 + 1).toNat (c3 : Int)) 10 1 (n + 1 + 1 + 1 + 1) = dD
  have fi : ∀ {d d' : zD} {i : Nat} {v w : Int}, zu (zu d 11 i v) 10 1 w = d' → Fi d d' := fun {d d' i v w} e => by
    rw [← e]
    exact ⟨fun c c1 c2 => by rw [zu_row c1, zu_row c2], fun j hj => by rw [zu_ne (Or.inr hj), zu_row (by omega)]⟩
  have rd : ∀ {d d' : zD} {i : Nat} {v w : Int}, zu (zu d 11 i v) 10 1 w = d' → ∀ k, d' 11 k = if k = i then v else d 11 k := fun {d d' i v w} e k => by
    rw [← e, zu_row (by omega)]
    by_cases hk : k = i
    · rw [if_pos hk, hk, zu_eq]
    · rw [if_neg hk, zu_ne (Or.inr hk)]
  refine ⟨dD, ?_, (fi hA).tr ((fi hB).tr ((fi hC).tr (fi hD))), by rw [← hD, zu_eq]; omega, fun j j0 j1 => ?_, ?_, ?_, ?_, ?_⟩
  · unfold f_X9_addFourBytes
    rw [hq, F_step h (by omega) (by omega), b0, hA, show (24 : Int) - 8 = 16 from rfl, F_step a1 (by omega) (by omega), b1, hB, show (16 : Int) - 8 = 8 from rfl, F_step a2 (by omega) (by omega), b2, hC, show (8 : Int) - 8 = 0 from rfl, F_step a3 (by omega) (by omega), b3, hD]
    show l_X9_addFourBytes_3F _ _ _ dD = _
    unfold l_X9_addFourBytes_3F
    rw [if_pos (by decide)]
  · rw [rd hD, if_neg (by omega), rd hC, if_neg (by omega), rd hB, if_neg (by omega), rd hA, if_neg (by omega)]
  · rw [rd hD, if_neg (by omega), rd hC, if_neg (by omega), rd hB, if_neg (by omega), rd hA, if_pos rfl]
  · rw [rd hD, if_neg (by omega), rd hC, if_neg (by omega), rd hB, if_pos rfl]
  · rw [rd hD, if_neg (by omega), rd hC, if_pos (by omega)]
  · rw [rd hD, if_pos (by omega)]
theorem zu_zu {d : zD} {a k : Nat} {v w : Int} : zu (zu d a k v) a k w = zu d a k w := by
  funext b j
  unfold zu
  split <;> rfl
theorem m20 : ∀ m : Fin 20, zdiv (m.val : Int) 4 = ((m.val / 4 : Nat) : Int) ∧ zrem (m.val : Int) 4 = ((m.val % 4 : Nat) : Int) := by decide +kernel
/-- a letter of the text, or a space behind it -/
def tcl (τ : zdW) (i : Int) : Int := if (τ.2.2.1 : Int) ≤ i then 32 else τ.2.2.2 i.toNat
def zdY4 (τ : zdW) : Prop := τ.2.2.1 ≤ 600 ∧ ∀ j, j < τ.2.2.1 → 0 ≤ τ.2.2.2 j ∧ τ.2.2.2 j < 128
theorem tcl_R {τ : zdW} (h : zdY4 τ) {i : Int} (hi : 0 ≤ i) : 0 ≤ tcl τ i ∧ tcl τ i < 128 := by
  unfold tcl
  by_cases h1 : (τ.2.2.1 : Int) ≤ i
  · rw [if_pos h1]; omega
  · rw [if_neg h1]; exact h.2 i.toNat (by omega)
theorem G_one {τ : zdW} {x2 : Int} {K : zD → Option (Int × zD)} {d : zD} (m : Nat) (hm : m < 20) (h2 : 0 ≤ x2 ∧ x2 ≤ 1000) (p : Nat) : l_L_feeds_17 τ x2 K (p + 1) (m : Int) d = l_L_feeds_17 τ x2 K p ((m + 1 : Nat) : Int) (zu d 430 (m / 4) (zor (d 430 (m / 4)) (zshl (tcl τ (x2 + m)) ((24 - 8 * (m % 4) : Nat) : Int)))) := by
  obtain ⟨e1, e2⟩ := m20 ⟨m, hm⟩
  dsimp only at e1 e2
  have hj : ∀ c : Int, j_L_feeds_55 ((m / 4 : Nat) : Int) (d 430 (m / 4)) (m : Int) c (l_L_feeds_17 τ x2 K p) d = l_L_feeds_17 τ x2 K p ((m + 1 : Nat) : Int) (zu d 430 (m / 4) (zor (d 430 (m / 4)) (zshl c ((24 - 8 * (m % 4) : Nat) : Int)))) := fun c => by
    unfold j_L_feeds_55
    rw [zn_t (by decide), zl_n, e2, zl_n, zw_id (x := 8 * ((m % 4 : Nat) : Int)) (by omega) (by omega), zl_n, zw_id (x := 24 - 8 * ((m % 4 : Nat) : Int)) (by omega) (by omega), zl_n, zl_n, zg_t (by omega), zl_n, zl_n, zw_id (by omega) (by omega), show (24 : Int) - 8 * ((m % 4 : Nat) : Int) = ((24 - 8 * (m % 4) : Nat) : Int) by omega, show (m : Int) + 1 = ((m + 1 : Nat) : Int) by omega, Int.toNat_natCast]
  show (if (20 : Int) ≤ (m : Int) then K d else _) = _
  rw [if_neg (by omega), zn_t (by decide), zl_n, e1, zg_t (by omega), zl_n, Int.toNat_natCast, zl_n, zw_id (by omega) (by omega), zl_n]
  unfold tcl
  by_cases h1 : (τ.2.2.1 : Int) ≤ x2 + (m : Int)
  · rw [if_pos h1, if_pos h1, hj]
  · rw [if_neg h1, if_neg h1, zl_n, zg_t (by omega), zl_n, hj]
/-- a word's four letters -/
theorem G_word {τ : zdW} (hτ : zdY4 τ) {x2 : Int} {K : zD → Option (Int × zD)} {d : zD} (q : Nat) (hq : q < 5) (h2 : 0 ≤ x2 ∧ x2 ≤ 1000) (h0 : d 430 q = 0) (p : Nat) : l_L_feeds_17 τ x2 K (p + 4) ((4 * q : Nat) : Int) d = l_L_feeds_17 τ x2 K p ((4 * (q + 1) : Nat) : Int) (zu d 430 q (wd4 (tcl τ (x2 + (4 * q : Nat))).toNat (tcl τ (x2 + (4 * q + 1 : Nat))).toNat (tcl τ (x2 + (4 * q + 2 : Nat))).toNat (tcl τ (x2 + (4 * q + 3 : Nat))).toNat)) := by
  obtain ⟨a0, b0⟩ := tcl_R hτ (i := x2 + (4 * q : Nat)) (by omega)
  obtain ⟨a1, b1⟩ := tcl_R hτ (i := x2 + (4 * q + 1 : Nat)) (by omega)
  obtain ⟨a2, b2⟩ := tcl_R hτ (i := x2 + (4 * q + 2 : Nat)) (by omega)
  obtain ⟨a3, b3⟩ := tcl_R hτ (i := x2 + (4 * q + 3 : Nat)) (by omega)
  have hp := z_pack (c0 := (tcl τ (x2 + (4 * q : Nat))).toNat) (c1 := (tcl τ (x2 + (4 * q + 1 : Nat))).toNat) (c2 := (tcl τ (x2 + (4 * q + 2 : Nat))).toNat) (c3 := (tcl τ (x2 + (4 * q + 3 : Nat))).toNat) (by omega) (by omega) (by omega) (by omega)
  rw [Int.toNat_of_nonneg a0, Int.toNat_of_nonneg a1, Int.toNat_of_nonneg a2, Int.toNat_of_nonneg a3] at hp
  rw [G_one (4 * q) (by omega) h2 (p + 3), show 4 * q / 4 = q by omega, show 4 * q % 4 = 0 by omega, h0]
  rw [G_one (4 * q + 1) (by omega) h2 (p + 2), show (4 * q + 1) / 4 = q by omega, show (4 * q + 1) % 4 = 1 by omega, zu_eq, zu_zu]
  rw [G_one (4 * q + 1 + 1) (by omega) h2 (p + 1), show (4 * q + 1 + 1) / 4 = q by omega, show (4 * q + 1 + 1) % 4 = 2 by omega, zu_eq, zu_zu]
  rw [G_one (4 * q + 1 + 1 + 1) (by omega) h2 p, show (4 * q + 1 + 1 + 1) / 4 = q by omega, show (4 * q + 1 + 1 + 1) % 4 = 3 by omega, zu_eq, zu_zu]
  unfold wd4
  rw [← hp]
  rfl
theorem F_fourg {d : zD} {n : Int} {g : Nat → Nat} (hg : ∀ i, g i < 128) (k : Nat) (h : d 10 1 = n) (hn : 0 ≤ n ∧ n ≤ 596) : ∃ d', f_X9_addFourBytes (wd4 (g k) (g (k + 1)) (g (k + 2)) (g (k + 3))) d = some (0, d') ∧ Fi d d' ∧ d' 10 1 = n + 4 ∧ (∀ j : Int, 0 ≤ j → j < n → d' 11 j.toNat = d 11 j.toNat) ∧ ∀ r : Nat, r < 4 → d' 11 (n + (r : Int)).toNat = ((g (k + r) : Nat) : Int) := by
  obtain ⟨d', a1, a2, a3, a4, a5, a6, a7, a8⟩ := F_four h hn (hg k) (hg (k + 1)) (hg (k + 2)) (hg (k + 3))
  refine ⟨d', a1, a2, a3, a4, fun r hr => ?_⟩
  rcases (show r = 0 ∨ r = 1 ∨ r = 2 ∨ r = 3 by omega) with rfl | rfl | rfl | rfl
  · rw [show n + ((0 : Nat) : Int) = n by omega]; exact a5
  · exact a6
  · exact a7
  · exact a8
theorem F_append {d : zD} {n : Int} {g : Nat → Nat} (hg : ∀ i, g i < 128) (h : d 10 1 = n) (hn : 0 ≤ n ∧ n ≤ 580) : ∃ v d', f_X11_appendInput (wd4 (g 0) (g 1) (g 2) (g 3)) (wd4 (g 4) (g 5) (g 6) (g 7)) (wd4 (g 8) (g 9) (g 10) (g 11)) (wd4 (g 12) (g 13) (g 14) (g 15)) (wd4 (g 16) (g 17) (g 18) (g 19)) d = some (v, d') ∧ Fi d d' ∧ d' 10 1 = n + 20 ∧ (∀ j : Int, 0 ≤ j → j < n → d' 11 j.toNat = d 11 j.toNat) ∧ ∀ i : Nat, i < 20 → d' 11 (n + (i : Int)).toNat = ((g i : Nat) : Int) := by
  obtain ⟨dA, a1, a2, a3, a4, a5⟩ := F_fourg hg 0 h (by omega)
  obtain ⟨dB, b1, b2, b3, b4, b5⟩ := F_fourg hg 4 a3 (by omega)
  obtain ⟨dC, c1, c2, c3, c4, c5⟩ := F_fourg hg 8 b3 (by omega)
  obtain ⟨dD, e1, e2, e3, e4, e5⟩ := F_fourg hg 12 c3 (by omega)
  obtain ⟨dE, f1, f2, f3, f4, f5⟩ := F_fourg hg 16 e3 (by omega)
  refine ⟨dE 10 1, dE, ?_, a2.tr (b2.tr (c2.tr (e2.tr f2))), by omega, fun j j0 j1 => ?_, fun i hi => ?_⟩
  · unfold f_X11_appendInput
    rw [zl_n, h, if_pos hn.2, a1, zc_n, b1, zc_n, c1, zc_n, e1, zc_n, f1, zc_n, zl_n]
  · rw [f4 j j0 (by omega), e4 j j0 (by omega), c4 j j0 (by omega), b4 j j0 (by omega), a4 j j0 j1]
  · by_cases i4 : i < 4
    · rw [f4 _ (by omega) (by omega), e4 _ (by omega) (by omega), c4 _ (by omega) (by omega), b4 _ (by omega) (by omega), a5 i i4, Nat.zero_add]
    · by_cases i8 : i < 8
      · rw [f4 _ (by omega) (by omega), e4 _ (by omega) (by omega), c4 _ (by omega) (by omega), show n + (i : Int) = n + 4 + ((i - 4 : Nat) : Int) by omega, b5 (i - 4) (by omega), show 4 + (i - 4) = i by omega]
      · by_cases i12 : i < 12
        · rw [f4 _ (by omega) (by omega), e4 _ (by omega) (by omega), show n + (i : Int) = n + 4 + 4 + ((i - 8 : Nat) : Int) by omega, c5 (i - 8) (by omega), show 8 + (i - 8) = i by omega]
        · by_cases i16 : i < 16
          · rw [f4 _ (by omega) (by omega), show n + (i : Int) = n + 4 + 4 + 4 + ((i - 12 : Nat) : Int) by omega, e5 (i - 12) (by omega), show 12 + (i - 12) = i by omega]
          · rw [show n + (i : Int) = n + 4 + 4 + 4 + 4 + ((i - 16 : Nat) : Int) by omega, f5 (i - 16) (by omega), show 16 + (i - 16) = i by omega]
/-- a chunk of the text: twenty letters -/
theorem F_chunk {τ : zdW} (hτ : zdY4 τ) {x2 : Int} {K : Int → zD → Option (Int × zD)} {d : zD} (h2 : 0 ≤ x2 ∧ x2 ≤ 580) (h : d 10 1 = x2) : ∃ d', l_L_feeds_17 τ x2 (j_L_feeds_74 x2 K) 100 0 (zclr d 430) = K (x2 + 20) d' ∧ (∀ c, c ≠ 430 → c ≠ 10 → c ≠ 11 → d' c = d c) ∧ (∀ j, j ≠ 1 → d' 10 j = d 10 j) ∧ d' 10 1 = x2 + 20 ∧ (∀ j : Int, 0 ≤ j → j < x2 → d' 11 j.toNat = d 11 j.toNat) ∧ ∀ i : Nat, i < 20 → d' 11 (x2 + (i : Int)).toNat = tcl τ (x2 + (i : Int)) := by
  have hb : 0 ≤ x2 ∧ x2 ≤ 1000 := by omega
  have z0 : ∀ i, zclr d 430 430 i = 0 := fun i => if_pos rfl
  obtain ⟨g, hg⟩ : ∃ g : Nat → Nat, g = fun i => (tcl τ (x2 + (i : Nat))).toNat := ⟨_, rfl⟩
  have hg1 : ∀ i, g i < 128 := fun i => by
    have := tcl_R hτ (i := x2 + (i : Nat)) (by omega)
    rw [hg]
    show (tcl τ (x2 + (i : Nat))).toNat < 128
    omega
  have w0 := G_word hτ (K := j_L_feeds_74 x2 K) (d := zclr d 430) 0 (by omega) hb (z0 0) 96
  generalize hA : zu (zclr d 430) 430 0 _ = dA at w0
  have w1 := G_word hτ (K := j_L_feeds_74 x2 K) (d := dA) 1 (by omega) hb (by rw [← hA, zu_ne (by omega)]; exact z0 1) 92
  generalize hB : zu dA 430 1 _ = dB at w1
  have w2 := G_word hτ (K := j_L_feeds_74 x2 K) (d := dB) 2 (by omega) hb (by rw [← hB, zu_ne (by omega), ← hA, zu_ne (by omega)]; exact z0 2) 88
  generalize hC : zu dB 430 2 _ = dC at w2
  have w3 := G_word hτ (K := j_L_feeds_74 x2 K) (d := dC) 3 (by omega) hb (by rw [← hC, zu_ne (by omega), ← hB, zu_ne (by omega), ← hA, zu_ne (by omega)]; exact z0 3) 84
  generalize hD : zu dC 430 3 _ = dD at w3
  have w4 := G_word hτ (K := j_L_feeds_74 x2 K) (d := dD) 4 (by omega) hb (by rw [← hD, zu_ne (by omega), ← hC, zu_ne (by omega), ← hB, zu_ne (by omega), ← hA, zu_ne (by omega)]; exact z0 4) 80
  generalize hE : zu dD 430 4 _ = dE at w4
  have ec : ∀ c, c ≠ 430 → dE c = d c := fun c hc => by rw [← hE, zu_row hc, ← hD, zu_row hc, ← hC, zu_row hc, ← hB, zu_row hc, ← hA, zu_row hc, zclr_ne hc]
  have v0 : dE 430 0 = wd4 (g 0) (g 1) (g 2) (g 3) := by rw [← hE, zu_ne (by omega), ← hD, zu_ne (by omega), ← hC, zu_ne (by omega), ← hB, zu_ne (by omega), ← hA, zu_eq, hg]
  have v1 : dE 430 1 = wd4 (g 4) (g 5) (g 6) (g 7) := by rw [← hE, zu_ne (by omega), ← hD, zu_ne (by omega), ← hC, zu_ne (by omega), ← hB, zu_eq, hg]
  have v2 : dE 430 2 = wd4 (g 8) (g 9) (g 10) (g 11) := by rw [← hE, zu_ne (by omega), ← hD, zu_ne (by omega), ← hC, zu_eq, hg]
  have v3 : dE 430 3 = wd4 (g 12) (g 13) (g 14) (g 15) := by rw [← hE, zu_ne (by omega), ← hD, zu_eq, hg]
  have v4 : dE 430 4 = wd4 (g 16) (g 17) (g 18) (g 19) := by rw [← hE, zu_eq, hg]
  obtain ⟨v, d', f1, f2, f3, f4, f5⟩ := F_append (d := dE) hg1 (by rw [ec 10 (by omega)]; exact h) h2
  refine ⟨d', ?_, fun c c1 c2 c3 => by rw [f2.1 c c2 c3, ec c c1], fun j hj => by rw [f2.2 j hj, ec 10 (by omega)], f3, fun j j0 j1 => by rw [f4 j j0 j1, ec 11 (by omega)], fun i hi => ?_⟩
  · refine (show l_L_feeds_17 τ x2 (j_L_feeds_74 x2 K) 100 0 (zclr d 430) = l_L_feeds_17 τ x2 (j_L_feeds_74 x2 K) (96 + 4) ((4 * 0 : Nat) : Int) (zclr d 430) from rfl).trans ?_
    refine w0.trans (w1.trans (w2.trans (w3.trans (w4.trans ?_))))
    show (if (20 : Int) ≤ ((4 * (4 + 1) : Nat) : Int) then j_L_feeds_74 x2 K dE else _) = _
    rw [if_pos (by omega)]
    unfold j_L_feeds_74
    rw [zg_t (by decide), zl_n, zg_t (by decide), zl_n, zg_t (by decide), zl_n, zg_t (by decide), zl_n, zg_t (by decide), zl_n]
    show zc (f_X11_appendInput (dE 430 0) (dE 430 1) (dE 430 2) (dE 430 3) (dE 430 4) dE) _ = _
    rw [v0, v1, v2, v3, v4, f1, zc_n, zl_n, zw_id (by omega) (by omega)]
  · rw [f5 i hi, hg]
    exact Int.toNat_of_nonneg (tcl_R hτ (by omega)).1
/-- what feeds leaves elsewhere -/
def FO (d d' : zD) : Prop := (∀ c, c ≠ 430 → c ≠ 10 → c ≠ 11 → d' c = d c) ∧ ∀ j, j ≠ 1 → d' 10 j = d 10 j
theorem FO.tr {a b c : zD} (h : FO a b) (g : FO b c) : FO a c := ⟨fun k k1 k2 k3 => (g.1 k k1 k2 k3).trans (h.1 k k1 k2 k3), fun j hj => (g.2 j hj).trans (h.2 j hj)⟩
theorem F_loop {τ : zdW} (hτ : zdY4 τ) (hn : τ.2.2.1 ≤ 580) : ∀ (q : Nat) {j : Nat} {d : zD}, 30 ≤ q + j → 0 < q → j ≤ 29 → d 10 1 = ((20 * j : Nat) : Int) → (∀ i : Nat, i < 20 * j → d 11 i = tcl τ (i : Int)) → ∃ d', l_L_feeds_2 τ q ((20 * j : Nat) : Int) d = some (0, d') ∧ FO d d' ∧ d' 10 1 = (τ.2.2.1 : Int) ∧ ∀ i : Nat, i < τ.2.2.1 → d' 11 i = τ.2.2.2 i := by
  intro q
  induction q with
  | zero => intro j d hq h0; omega
  | succ q ih =>
    intro j d hq h0 hj h1 hi
    have done : ∀ {q : Nat} {j : Nat} {d : zD}, τ.2.2.1 ≤ 20 * j → d 10 1 = ((20 * j : Nat) : Int) → (∀ i : Nat, i < 20 * j → d 11 i = tcl τ (i : Int)) → ∃ d', l_L_feeds_2 τ (q + 1) ((20 * j : Nat) : Int) d = some (0, d') ∧ FO d d' ∧ d' 10 1 = (τ.2.2.1 : Int) ∧ ∀ i : Nat, i < τ.2.2.1 → d' 11 i = τ.2.2.2 i := fun {q j d} hle h1 hi => by
      refine ⟨zu d 10 1 (τ.2.2.1 : Int), ?_, ⟨fun c _ c1 _ => zu_row c1, fun k hk => zu_ne (Or.inr hk)⟩, zu_eq, fun i hi2 => ?_⟩
      · show (zl ((τ.2.2.1 : Nat) : Int) fun v4 => if v4 ≤ ((20 * j : Nat) : Int) then _ else _) = _
        rw [zl_n, if_pos (by omega), zl_n]
        unfold f_X11_truncateInput
        rw [if_neg (by omega), zl_n, h1, if_pos (by omega), zl_n, zc_n]
      · rw [zu_row (by omega), hi i (by omega)]
        unfold tcl
        rw [if_neg (by omega), Int.toNat_natCast]
    by_cases hle : τ.2.2.1 ≤ 20 * j
    · exact done hle h1 hi
    · obtain ⟨d', a1, a2, a3, a4, a5, a6⟩ := F_chunk hτ (K := fun v d => if v = ((20 * j : Nat) : Int) + 20 then l_L_feeds_2 τ q v d else none) (x2 := ((20 * j : Nat) : Int)) (by omega) h1
      have e20 : ((20 * j : Nat) : Int) + 20 = ((20 * (j + 1) : Nat) : Int) := by omega
      have hi' : ∀ i : Nat, i < 20 * (j + 1) → d' 11 i = tcl τ (i : Int) := fun i hi2 => by
        by_cases h3 : i < 20 * j
        · have := a5 (i : Int) (by omega) (by omega)
          rw [Int.toNat_natCast] at this
          rw [this, hi i h3]
        · have := a6 (i - 20 * j) (by omega)
          rw [show ((20 * j : Nat) : Int) + ((i - 20 * j : Nat) : Int) = (i : Int) by omega, Int.toNat_natCast] at this
          exact this
      have step : l_L_feeds_2 τ (q + 1) ((20 * j : Nat) : Int) d = l_L_feeds_2 τ q ((20 * (j + 1) : Nat) : Int) d' := by
        show (zl ((τ.2.2.1 : Nat) : Int) fun v4 => if v4 ≤ ((20 * j : Nat) : Int) then _ else _) = _
        rw [zl_n, if_neg (by omega), zg_t (by omega), a1, if_pos rfl, e20]
      have hq0 : 0 < q ∨ q = 0 := by omega
      rw [step]
      by_cases hj2 : j + 1 ≤ 29
      · obtain ⟨d2, b1, b2, b3, b4⟩ := ih (j := j + 1) (by omega) (by omega) hj2 (by rw [a4, e20]) hi'
        exact ⟨d2, b1, FO.tr ⟨a2, a3⟩ b2, b3, b4⟩
      · exfalso
        omega
theorem F_feeds {τ : zdW} (hτ : zdY4 τ) (hn : τ.2.2.1 ≤ 580) {d : zD} (h : d 10 1 = 0) : ∃ d', f_L_feeds τ d = some (0, d') ∧ FO d d' ∧ d' 10 1 = (τ.2.2.1 : Int) ∧ ∀ i : Nat, i < τ.2.2.1 → d' 11 i = τ.2.2.2 i :=
  F_loop hτ hn 100 (j := 0) (by omega) (by omega) (by omega) h fun i hi => by omega
