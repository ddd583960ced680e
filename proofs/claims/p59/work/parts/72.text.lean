/-! the output text -/
theorem n_cast {k : Nat} (h : k < 65536) : ((nI k).toUInt32 % 65536).toInt32 = nI k := by
  apply Int32.toBitVec_inj.mp
  apply BitVec.eq_of_toNat_eq
  have h1 : (nI k).toUInt32.toNat = k := by
    show (nI k).toBitVec.toNat = k
    show (BitVec.ofNat 32 k).toNat = k
    rw [BitVec.toNat_ofNat]
    omega
  show ((nI k).toUInt32 % 65536).toNat = (BitVec.ofNat 32 k).toNat
  rw [UInt32.toNat_mod, h1, BitVec.toNat_ofNat, show (65536 : UInt32).toNat = 65536 from rfl]
  omega
def dgs (k : Nat) : List Int32 := (if 100 ≤ k then [nI (48 + k / 100 % 10)] else []) ++ (if 10 ≤ k then [nI (48 + k / 10 % 10)] else []) ++ [nI (48 + k % 10)]
theorem dgs_len (k : Nat) : (dgs k).length ≤ 3 := by
  unfold dgs
  split <;> split <;> simp
theorem dgs_len2 {k : Nat} (h : k < 100) : (dgs k).length ≤ 2 := by
  unfold dgs
  rw [if_neg (by omega)]
  split <;> simp
def okt (T : List Int32) : Prop := ∀ v, v ∈ T → 0 ≤ v.toInt ∧ v.toInt ≤ 126
theorem okt_app {T U : List Int32} (h : okt T) (h2 : okt U) : okt (T ++ U) := fun v hv => (List.mem_append.mp hv).elim (h v) (h2 v)
theorem okt_one {k : Nat} (h : k ≤ 126) : okt [nI k] := fun v hv => by
  rw [List.mem_singleton.mp hv, nI_toInt (by omega)]
  omega
theorem okt_nil : okt [] := fun v hv => by cases hv
theorem okt_dgs (k : Nat) : okt (dgs k) := by
  unfold dgs
  refine okt_app (okt_app ?_ ?_) (okt_one (by omega))
  · split
    · exact okt_one (by omega)
    · exact okt_nil
  · split
    · exact okt_one (by omega)
    · exact okt_nil
section QT
variable {P : qP} {hs : List qP} {sv : qP} {σ : qS}
/-- the class's text, the reference's -/
def CT (σ : qS) (T : List Int32) : Prop := σ 23 0 1 = nI T.length ∧ ∀ i v, T[i]? = some v → σ 24 0 i = v
theorem list_app1 {T : List Int32} {c v : Int32} {i : Nat} (h : (T ++ [c])[i]? = some v) : T[i]? = some v ∧ i < T.length ∨ i = T.length ∧ v = c := by
  rcases Nat.lt_trichotomy i T.length with h1 | h1 | h1
  · rw [List.getElem?_append_left h1] at h
    exact Or.inl ⟨h, h1⟩
  · subst h1
    rw [List.getElem?_append_right (Nat.le_refl _), Nat.sub_self] at h
    exact Or.inr ⟨rfl, by injection h with h; exact h.symm⟩
  · rw [List.getElem?_append_right (by omega)] at h
    have : i - T.length ≠ 0 := by omega
    rw [List.getElem?_eq_none (by simp; omega)] at h
    cases h
theorem c_wr {T : List Int32} (H : CT σ T) (hT : T.length < 414) {k : Nat} (hk : k ≤ 126) : ∃ σ', f_X3_write (nI k) σ = qdo σ' ∧ CT σ' (T ++ [nI k]) ∧ qsm [23, 24] σ σ' := by
  unfold f_X3_write
  rw [H.1, if_neg (n_ge0 (by omega)), if_neg (by rw [show Int32.ofNat 414 = nI 414 from rfl, n_le (by decide) (by omega)]; omega), if_pos ⟨n_in (by omega) (by decide), by
    constructor
    · exact nI_pos' (by omega)
    · rw [show (65535 : Int32) = nI 65535 from rfl]
      exact nI_le (by omega) (by omega)⟩, nI_clamp (by omega), qlet_eq, qlet_eq]
  refine ⟨_, rfl, ⟨?_, fun i v h => ?_⟩, ?_⟩
  · rw [qu_at, if_pos ⟨rfl, rfl, rfl⟩, qu_at, if_neg (by simp), H.1, nI_1, List.length_append]
    rfl
  · rw [qu_at, if_neg (by simp), qu_at]
    rcases list_app1 h with ⟨h1, h2⟩ | ⟨h1, h2⟩
    · rw [if_neg (fun hh => by have := hh.2.2; omega)]
      exact H.2 i v h1
    · rw [if_pos ⟨rfl, rfl, h1⟩, h2]
  · exact ((qsm_qu σ 24 0 _ _).mono (by simp)).qu (by simp)
theorem d_key : ∀ k : Fin 200, ((((48 : Int32) + (nI k - nI k / (10 : Int32) * (10 : Int32))).toUInt32 % 65536).toInt32) = nI (48 + k % 10) ∧ ((((48 : Int32) + ((nI k / (10 : Int32)) - (nI k / (10 : Int32)) / (10 : Int32) * (10 : Int32))).toUInt32 % 65536).toInt32) = nI (48 + k / 10 % 10) ∧ ((((48 : Int32) + ((nI k / (100 : Int32)) - (nI k / (100 : Int32)) / (10 : Int32) * (10 : Int32))).toUInt32 % 65536).toInt32) = nI (48 + k / 100 % 10) := by decide +kernel
theorem c_wn {T : List Int32} (H : CT σ T) {k : Nat} (hT : T.length + (dgs k).length ≤ 414) (hk : k < 200) : ∃ σ', f_X3_writeNumber (nI k) σ = qdo σ' ∧ CT σ' (T ++ dgs k) ∧ qsm [23, 24] σ σ' := by
  obtain ⟨d1, d2, d3⟩ := d_key ⟨k, hk⟩
  dsimp only at d1 d2 d3
  have two : ∀ (σ : qS) (T : List Int32), CT σ T → T.length + (if 10 ≤ k then 2 else 1) ≤ 414 → ∃ σ', j_X3_writeNumber_21 (nI k) σ = qdo σ' ∧ CT σ' (T ++ (if 10 ≤ k then [nI (48 + k / 10 % 10)] else []) ++ [nI (48 + k % 10)]) ∧ qsm [23, 24] σ σ' := by
    intro σ T H hT
    unfold j_X3_writeNumber_21
    rw [d1, d2, show (10 : Int32) = nI 10 from rfl]
    by_cases h : 10 ≤ k
    · rw [if_pos h] at hT
      rw [if_neg (by rw [n_lt (by omega) (by omega)]; omega), if_pos h]
      obtain ⟨σ1, e1, H1, q1⟩ := c_wr H (by omega) (show 48 + k / 10 % 10 ≤ 126 by omega)
      obtain ⟨σ2, e2, H2, q2⟩ := c_wr H1 (by rw [List.length_append]; show T.length + 1 < 414; omega) (show 48 + k % 10 ≤ 126 by omega)
      rw [e1, qb_V, e2, qb_V]
      exact ⟨σ2, rfl, H2, q1.trans q2⟩
    · rw [if_neg h] at hT
      rw [if_pos (by rw [n_lt (by omega) (by omega)]; omega), if_neg h, List.append_nil]
      obtain ⟨σ2, e2, H2, q2⟩ := c_wr H (by omega) (show 48 + k % 10 ≤ 126 by omega)
      rw [e2, qb_V]
      exact ⟨σ2, rfl, H2, q2⟩
  unfold f_X3_writeNumber
  rw [d3, show (100 : Int32) = nI 100 from rfl]
  by_cases h : 100 ≤ k
  · have hl : (dgs k).length = 3 := by unfold dgs; rw [if_pos h, if_pos (by omega)]; rfl
    rw [if_neg (by rw [n_lt (by omega) (by omega)]; omega)]
    obtain ⟨σ1, e1, H1, q1⟩ := c_wr H (by omega) (show 48 + k / 100 % 10 ≤ 126 by omega)
    rw [e1, qb_V]
    obtain ⟨σ2, e2, H2, q2⟩ := two σ1 _ H1 (by rw [List.length_append, if_pos (by omega)]; show T.length + 1 + 2 ≤ 414; omega)
    refine ⟨σ2, e2, ?_, q1.trans q2⟩
    unfold dgs
    rw [if_pos h]
    simpa [List.append_assoc] using H2
  · rw [if_pos (by rw [n_lt (by omega) (by omega)]; omega)]
    obtain ⟨σ2, e2, H2, q2⟩ := two σ T H (by
      unfold dgs at hT
      rw [if_neg h] at hT
      by_cases h2 : 10 ≤ k
      · rw [if_pos h2] at hT ⊢; simpa using hT
      · rw [if_neg h2] at hT ⊢; simpa using hT)
    refine ⟨σ2, e2, ?_, q2⟩
    unfold dgs
    rw [if_neg h]
    simpa [List.append_assoc] using H2
/-- the reference's number -/
theorem e_key : ∀ k : Fin 200, ((48 : Int32) + ((nI k / nI 1) - (nI k / nI 1) / (10 : Int32) * (10 : Int32))) = nI (48 + k % 10) ∧ ((48 : Int32) + ((nI k / nI 10) - (nI k / nI 10) / (10 : Int32) * (10 : Int32))) = nI (48 + k / 10 % 10) ∧ ((48 : Int32) + ((nI k / nI 100) - (nI k / nI 100) / (10 : Int32) * (10 : Int32))) = nI (48 + k / 100 % 10) ∧ (nI k / nI 1 ≤ (9 : Int32) ↔ (k : Nat) < 10) ∧ (nI k / nI 10 ≤ (9 : Int32) ↔ (k : Nat) < 100) ∧ nI k / nI 100 ≤ (9 : Int32) := by decide +kernel
end QT

