/-! A quotient of two ints is a number where the divisor is not nought (the laws of floats stand in the rest of the library: named in the first part, so that a round is read over the whole of it from the start). -/
theorem nn_raw64 (a b : Int32) (hy0 : b ≠ 0) : vf_n64 (FP.ddiv (FP.i2d a) (FP.i2d b)) := by
  have h1 : ¬ (Jvm.FP.Core.dIsNaN (Jvm.FP.Core.ddiv (Jvm.FP.Core.i2d a) (Jvm.FP.Core.i2d b)) = true) := by
    rw [Jvm.FP.Core.ddiv_nan_iff]
    rintro (h | h | ⟨s, t, h, _⟩ | ⟨_, h⟩)
    · exact (Jvm.FP.Core.i2d_fin a).ne_nan h
    · exact (Jvm.FP.Core.i2d_fin b).ne_nan h
    · exact (Jvm.FP.Core.i2d_fin a).ne_inf s h
    · rw [Jvm.FP.Core.zero_bits2] at h
      exact Jvm.FP.Core.i2d_ne_zero hy0 h
  rw [Jvm.FP.Core.dIsNaN_iff] at h1
  have h2 := (Jvm.FP.Core.ne_nan _).mp h1
  show (Jvm.FP.Core.ddiv (Jvm.FP.Core.i2d a) (Jvm.FP.Core.i2d b)) &&& 0x7fffffffffffffff ≤ 0x7ff0000000000000
  generalize Jvm.FP.Core.ddiv (Jvm.FP.Core.i2d a) (Jvm.FP.Core.i2d b) = r at h2
  rw [UInt64.le_iff_toNat_le, UInt64.toNat_and]
  have e1 : (0x7fffffffffffffff : UInt64).toNat = 2 ^ 63 - 1 := by decide +kernel
  have e2 : (0x7ff0000000000000 : UInt64).toNat = 9218868437227405312 := by decide +kernel
  rw [e1, e2, Nat.and_two_pow_sub_one_eq_mod]
  exact h2
theorem nn_raw32 (a b : Int32) (hy0 : b ≠ 0) : vf_n32 (FP.fdiv (FP.i2f a) (FP.i2f b)) := by
  have h1 : ¬ (Jvm.FP.Core.fIsNaN (Jvm.FP.Core.fdiv (Jvm.FP.Core.i2f a) (Jvm.FP.Core.i2f b)) = true) := by
    rw [Jvm.FP.Core.fdiv_nan_iff]
    rintro (h | h | ⟨s, t, h, _⟩ | ⟨_, h⟩)
    · exact (Jvm.FP.Core.i2f_fin a).ne_nan h
    · exact (Jvm.FP.Core.i2f_fin b).ne_nan h
    · exact (Jvm.FP.Core.i2f_fin a).ne_inf s h
    · rw [Jvm.FP.Core.zero_bits232] at h
      exact Jvm.FP.Core.i2f_ne_zero hy0 h
  rw [Jvm.FP.Core.fIsNaN_iff] at h1
  have h2 := (Jvm.FP.Core.ne_nan32 _).mp h1
  show (Jvm.FP.Core.fdiv (Jvm.FP.Core.i2f a) (Jvm.FP.Core.i2f b)) &&& 0x7fffffff ≤ 0x7f800000
  generalize Jvm.FP.Core.fdiv (Jvm.FP.Core.i2f a) (Jvm.FP.Core.i2f b) = r at h2
  rw [UInt32.le_iff_toNat_le, UInt32.toNat_and]
  have e1 : (0x7fffffff : UInt32).toNat = 2 ^ 31 - 1 := by decide +kernel
  have e2 : (0x7f800000 : UInt32).toNat = 2139095040 := by decide +kernel
  rw [e1, e2, Nat.and_two_pow_sub_one_eq_mod]
  exact h2
