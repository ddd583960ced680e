/-! the mean, the quotient -/
section QQ
variable {P : qP} {hs : List qP} {sv : qP} {σ : qS}
theorem qn64_of {r : UInt64} (h : Jvm.FP.Core.dIsNaN r = false) : qn64 r := by
  have h2 : ¬ Jvm.FP.Core.dIsNaN r = true := by rw [h]; decide
  rw [Jvm.FP.Core.isNaN_bits] at h2
  show r &&& 0x7fffffffffffffff ≤ 0x7ff0000000000000
  rw [UInt64.le_iff_toNat_le, UInt64.toNat_and, show (0x7fffffffffffffff : UInt64).toNat = 2 ^ 63 - 1 from rfl, Nat.and_two_pow_sub_one_eq_mod, show (0x7ff0000000000000 : UInt64).toNat = 9218868437227405312 from rfl]
  omega
theorem qn32_of {r : UInt32} (h : Jvm.FP.Core.fIsNaN r = false) : qn32 r := by
  have h2 : ¬ Jvm.FP.Core.fIsNaN r = true := by rw [h]; decide
  rw [Jvm.FP.Core.isNaN_bits32] at h2
  show r &&& 0x7fffffff ≤ 0x7f800000
  rw [UInt32.le_iff_toNat_le, UInt32.toNat_and, show (0x7fffffff : UInt32).toNat = 2 ^ 31 - 1 from rfl, Nat.and_two_pow_sub_one_eq_mod, show (0x7f800000 : UInt32).toNat = 2139095040 from rfl]
  omega
theorem d_zero {v : Int32} (h : v ≠ 0) : ¬ Jvm.FP.Core.DZero (Jvm.FP.i2d v) := by
  rintro ⟨s, q, hv⟩
  have h1 := Jvm.FP.Core.i2d_ne_zero h
  have h2 := Jvm.FP.Core.d2i_i2d v
  have : Jvm.FP.Core.d2i (Jvm.FP.Core.i2d v) = 0 := by
    unfold Jvm.FP.Core.d2i
    have : Jvm.FP.Core.decode Jvm.FP.Core.b64 (Jvm.FP.Core.i2d v).toNat = .fin s 0 q := hv
    rw [this]
    simp [Jvm.FP.Core.toI, Jvm.FP.Core.toInt, Jvm.FP.Core.truncate, Jvm.FP.Core.signed]
    try decide
  rw [this] at h2
  exact h h2.symm
theorem f_zero {v : Int32} (h : v ≠ 0) (hv2 : v.toInt.natAbs ≤ 2 ^ 24) : ¬ Jvm.FP.Core.FZero (Jvm.FP.i2f v) := by
  rintro ⟨s, q, hv⟩
  have h2 := Jvm.FP.Core.f2i_i2f hv2
  have : Jvm.FP.Core.f2i (Jvm.FP.Core.i2f v) = 0 := by
    unfold Jvm.FP.Core.f2i
    have : Jvm.FP.Core.decode Jvm.FP.Core.b32 (Jvm.FP.Core.i2f v).toNat = .fin s 0 q := hv
    rw [this]
    simp [Jvm.FP.Core.toI, Jvm.FP.Core.toInt, Jvm.FP.Core.truncate, Jvm.FP.Core.signed]
    try decide
  rw [this] at h2
  exact h h2.symm
theorem d_nn {a : UInt64} (h : Jvm.FP.Core.DFin a) : Jvm.FP.Core.dIsNaN a = false := by
  rw [Jvm.FP.Core.notNaN_iff]
  exact h.ne_nan
theorem f_nn {a : UInt32} (h : Jvm.FP.Core.FFin a) : Jvm.FP.Core.fIsNaN a = false := by
  rw [Jvm.FP.Core.notNaN_iff32]
  exact h.ne_nan
theorem qn64_div (a : Int32) {b : Int32} (h : b ≠ 0) : qn64 (Jvm.FP.ddiv (Jvm.FP.i2d a) (Jvm.FP.i2d b)) :=
  qn64_of (Jvm.FP.Core.ddiv_out (d_nn (Jvm.FP.Core.i2d_fin a)) (Jvm.FP.Core.i2d_fin b) (d_zero h))
theorem nn32_div (a : Int32) {b : Int32} (h : b ≠ 0) (hb : b.toInt.natAbs ≤ 2 ^ 24) : Jvm.FP.Core.fIsNaN (Jvm.FP.fdiv (Jvm.FP.i2f a) (Jvm.FP.i2f b)) = false :=
  Jvm.FP.Core.fdiv_out (f_nn (Jvm.FP.Core.i2f_fin a)) (Jvm.FP.Core.i2f_fin b) (f_zero h hb)
theorem f2d_nn {y : UInt32} (h : Jvm.FP.Core.fIsNaN y = false) : Jvm.FP.Core.dIsNaN (Jvm.FP.f2d y) = false := by
  unfold Jvm.FP.f2d
  rw [h, if_neg (by decide)]
  exact Jvm.FP.Core.f2d_out h
theorem dcmp_self {x : UInt64} (h : Jvm.FP.Core.dIsNaN x = false) : Jvm.FP.dcmp x x = some .eq := by
  rw [Jvm.FP.Core.notNaN_iff] at h
  show Jvm.FP.Core.order (Jvm.FP.Core.val64 x) (Jvm.FP.Core.val64 x) = _
  cases e : Jvm.FP.Core.val64 x with
  | nan => exact absurd e h
  | inf s => cases s <;> rfl
  | fin s c q => simp [Jvm.FP.Core.order]
end QQ

