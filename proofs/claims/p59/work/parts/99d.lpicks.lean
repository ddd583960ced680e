/-! WHAT THE LAW PICKS -/
section PK
theorem u_small {y : UInt32} (h : y.toNat < 2 ^ 31) : y.toInt32 = nI y.toNat := by
  apply Int32.toBitVec_inj.mp
  apply BitVec.eq_of_toNat_eq
  have h3 : (nI y.toNat).toBitVec = BitVec.ofNat 32 y.toNat := by simp [nI]
  rw [h3, BitVec.toNat_ofNat]
  show y.toNat = _
  exact (Nat.mod_eq_of_lt (by omega)).symm
theorem n_div {k m : Nat} (hk : k < 2 ^ 31) (hm : m < 2 ^ 31) : nI k / nI m = nI (k / m) := by
  have h1 : k / m ≤ k := Nat.div_le_self k m
  apply i_eq
  have h2 : ((k : Nat) : Int).tdiv ((m : Nat) : Int) = ((k / m : Nat) : Int) := rfl
  rw [Int32.toInt_div, nI_toInt hk, nI_toInt hm, nI_toInt (by omega), h2]
  generalize k / m = q at *
  apply Int.bmod_eq_of_le <;> omega
theorem e_j15 (LL : Nat) (xs : Nat → Int32) (v w0 w1 : Int32) : ∃ c, ∀ σ, j_L_cell_15 LL xs v w0 w1 σ = qan c σ := ⟨_, fun σ => rfl⟩
theorem e_cell {LL : Nat} (hL : LL < 2 ^ 31) (xs : Nat → Int32) {i : Nat} (hi : i < 2 ^ 31) : ∃ c, ∀ σ, f_L_cell LL xs (nI i) σ = qan c σ := by
  by_cases h : LL ≤ i
  · obtain ⟨c, hc⟩ := e_j15 LL xs (nI i) (69069 : Int32) (0 : Int32)
    refine ⟨c, fun σ => ?_⟩
    unfold f_L_cell
    rw [if_pos (show Int32.ofNat LL ≤ nI i from nI_le h hi)]
    exact hc σ
  · obtain ⟨c, hc⟩ := e_j15 LL xs (nI i) (69069 : Int32) (xs (nI i).toNatClampNeg)
    refine ⟨c, fun σ => ?_⟩
    unfold f_L_cell
    rw [if_neg (show ¬ Int32.ofNat LL ≤ nI i from fun h2 => h ((n_le hL hi).mp h2)), if_pos (n_in (by omega) hL)]
    exact hc σ
theorem e_pick {LL : Nat} (hL : LL < 2 ^ 31) (xs : Nat → Int32) {i m : Nat} (hi : i < 2 ^ 31) (hm0 : 0 < m) (hm : m < 2 ^ 31) : ∃ r, r < m ∧ ∀ σ, f_L_pick LL xs (nI i) (nI m) σ = qan (nI r) σ := by
  obtain ⟨c, hc⟩ := e_cell hL xs hi
  obtain ⟨y, hy⟩ : ∃ y : UInt32, y = c.toUInt32 >>> (((8 : Int32)).toUInt32 &&& Int32.toUInt32 31) := ⟨_, rfl⟩
  have hy2 : y.toNat < 2 ^ 24 := by
    rw [hy, show (((8 : Int32)).toUInt32 &&& Int32.toUInt32 31) = 8 from by decide, UInt32.toNat_shiftRight]
    have := c.toUInt32.toNat_lt
    rw [show (8 : UInt32).toNat % 32 = 8 from by decide, Nat.shiftRight_eq_div_pow]
    omega
  have hmul : y.toNat / m * m ≤ y.toNat := Nat.div_mul_le_self _ _
  refine ⟨y.toNat % m, Nat.mod_lt _ hm0, fun σ => ?_⟩
  unfold f_L_pick
  rw [hc σ, qb_I, if_neg (fun h => by rw [show (0 : Int32) = nI 0 from rfl, n_eq hm (by decide)] at h; omega), ← hy, u_small (show y.toNat < 2 ^ 31 by omega), n_div (by omega) hm, n_mul, n_sub hmul, show y.toNat - y.toNat / m * m = y.toNat % m from by rw [Nat.mod_eq_sub_div_mul]]
end PK
