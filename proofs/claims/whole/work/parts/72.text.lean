/-! the output text -/
theorem n_cast {k : Nat} (h : k < 65536) : ((nI k).toUInt32 % 65536).toInt32 = nI k := by
  apply Int32.toBitVec_inj.mp
  apply BitVec.eq_of_toNat_eq
  have h1 : (nI k).toUInt32.toNat = k := by
    show (nI k).toBitVec.toNat = k
    show (BitVec.ofNat 32 k).toNat = k
    rw [BitVec.toNat_ofNat]
    omega
  show ((nI k).toUInt32 % 65536).toNat = (BitVec.ofNat 32 k).toNat
  rw [UInt32.toNat_mod, h1, BitVec.toNat_ofNat, show (65536 : UInt32).toNat = 65536 from rfl]
  omega
def dgs (k : Nat) : List Int32 := (if 100 ≤ k then [nI (48 + k / 100 % 10)] else []) ++ (if 10 ≤ k then [nI (48 + k / 10 % 10)] else []) ++ [nI (48 + k % 10)]
theorem dgs_len (k : Nat) : (dgs k).length ≤ 3 := by
  unfold dgs
  split <;> split <;> simp
theorem dgs_len2 {k : Nat} (h : k < 100) : (dgs k).length ≤ 2 := by
  unfold dgs
  rw [if_neg (by omega)]
  split <;> simp
def okt (T : List Int32) : Prop := ∀ v, v ∈ T → 0 ≤ v.toInt ∧ v.toInt ≤ 126
theorem okt_app {T U : List Int32} (h : okt T) (h2 : okt U) : okt (T ++ U) := fun v hv => (List.mem_append.mp hv).elim (h v) (h2 v)
theorem okt_one {k : Nat} (h : k ≤ 126) : okt [nI k] := fun v hv => by
  rw [List.mem_singleton.mp hv, nI_toInt (by omega)]
  omega
theorem okt_nil : okt [] := fun v hv => by cases hv
theorem okt_dgs (k : Nat) : okt (dgs k) := by
  unfold dgs
  refine okt_app (okt_app ?_ ?_) (okt_one (by omega))
  · split
    · exact okt_one (by omega)
    · exact okt_nil
  · split
    · exact okt_one (by omega)
    · exact okt_nil
section QT
variable {P : qP} {hs : List qP} {sv : qP} {σ : qS}
/-- the class's text, the reference's -/
def CT (σ : qS) (T : List Int32) : Prop := σ 23 0 1 = nI T.length ∧ ∀ i v, T[i]? = some v → σ 24 0 i = v
def RT (σ : qS) (T : List Int32) : Prop := ∀ i v, T[i]? = some v → σ 36 0 i = v
theorem list_app1 {T : List Int32} {c v : Int32} {i : Nat} (h : (T ++ [c])[i]? = some v) : T[i]? = some v ∧ i < T.length ∨ i = T.length ∧ v = c := by
  rcases Nat.lt_trichotomy i T.length with h1 | h1 | h1
  · rw [List.getElem?_append_left h1] at h
    exact Or.inl ⟨h, h1⟩
  · subst h1
    rw [List.getElem?_append_right (Nat.le_refl _), Nat.sub_self] at h
    exact Or.inr ⟨rfl, by injection h with h; exact h.symm⟩
  · rw [List.getElem?_append_right (by omega)] at h
    have : i - T.length ≠ 0 := by omega
    rw [List.getElem?_eq_none (by simp; omega)] at h
    cases h
theorem c_wr {T : List Int32} (H : CT σ T) (hT : T.length < 414) {k : Nat} (hk : k ≤ 126) : ∃ σ', f_X3_write (nI k) σ = qdo σ' ∧ CT σ' (T ++ [nI k]) ∧ qsm [23, 24] σ σ' := by
  unfold f_X3_write
  rw [H.1, if_neg (n_ge0 (by omega)), if_neg (by rw [show Int32.ofNat 414 = nI 414 from rfl, n_le (by decide) (by omega)]; omega), if_pos ⟨n_in (by omega) (by decide), by
    constructor
    · exact nI_pos' (by omega)
    · rw [show (65535 : Int32) = nI 65535 from rfl]
      exact nI_le (by omega) (by omega)⟩, nI_clamp (by omega), qlet_eq, qlet_eq]
  refine ⟨_, rfl, ⟨?_, fun i v h => ?_⟩, ?_⟩
  · rw [qu_at, if_pos ⟨rfl, rfl, rfl⟩, qu_at, if_neg (by simp), H.1, nI_1, List.length_append]
    rfl
  · rw [qu_at, if_neg (by simp), qu_at]
    rcases list_app1 h with ⟨h1, h2⟩ | ⟨h1, h2⟩
    · rw [if_neg (fun hh => by have := hh.2.2; omega)]
      exact H.2 i v h1
    · rw [if_pos ⟨rfl, rfl, h1⟩, h2]
  · exact ((qsm_qu σ 24 0 _ _).mono (by simp)).qu (by simp)
theorem r_pt {T : List Int32} (H : RT σ T) (hT : T.length < 600) (c : Int32) : ∃ σ', f_X8_put (nI T.length) c σ = qan (nI (T ++ [c]).length) σ' ∧ RT σ' (T ++ [c]) ∧ qsm [36] σ σ' := by
  unfold f_X8_put
  rw [if_pos (n_in hT (by decide)), nI_clamp (by omega), qlet_eq, nI_1]
  refine ⟨_, by rw [List.length_append]; rfl, fun i v h => ?_, qsm_qu σ 36 0 _ _⟩
  rw [qu_at]
  rcases list_app1 h with ⟨h1, h2⟩ | ⟨h1, h2⟩
  · rw [if_neg (fun hh => by have := hh.2.2; omega)]
    exact H i v h1
  · rw [if_pos ⟨rfl, rfl, h1⟩, h2]
theorem d_key : ∀ k : Fin 200, ((((48 : Int32) + (nI k - nI k / (10 : Int32) * (10 : Int32))).toUInt32 % 65536).toInt32) = nI (48 + k % 10) ∧ ((((48 : Int32) + ((nI k / (10 : Int32)) - (nI k / (10 : Int32)) / (10 : Int32) * (10 : Int32))).toUInt32 % 65536).toInt32) = nI (48 + k / 10 % 10) ∧ ((((48 : Int32) + ((nI k / (100 : Int32)) - (nI k / (100 : Int32)) / (10 : Int32) * (10 : Int32))).toUInt32 % 65536).toInt32) = nI (48 + k / 100 % 10) := by decide +kernel
theorem c_wn {T : List Int32} (H : CT σ T) {k : Nat} (hT : T.length + (dgs k).length ≤ 414) (hk : k < 200) : ∃ σ', f_X3_writeNumber (nI k) σ = qdo σ' ∧ CT σ' (T ++ dgs k) ∧ qsm [23, 24] σ σ' := by
  obtain ⟨d1, d2, d3⟩ := d_key ⟨k, hk⟩
  dsimp only at d1 d2 d3
  have two : ∀ (σ : qS) (T : List Int32), CT σ T → T.length + (if 10 ≤ k then 2 else 1) ≤ 414 → ∃ σ', j_X3_writeNumber_21 (nI k) σ = qdo σ' ∧ CT σ' (T ++ (if 10 ≤ k then [nI (48 + k / 10 % 10)] else []) ++ [nI (48 + k % 10)]) ∧ qsm [23, 24] σ σ' := by
    intro σ T H hT
    unfold j_X3_writeNumber_21
    rw [d1, d2, show (10 : Int32) = nI 10 from rfl]
    by_cases h : 10 ≤ k
    · rw [if_pos h] at hT
      rw [if_neg (by rw [n_lt (by omega) (by omega)]; omega), if_pos h]
      obtain ⟨σ1, e1, H1, q1⟩ := c_wr H (by omega) (show 48 + k / 10 % 10 ≤ 126 by omega)
      obtain ⟨σ2, e2, H2, q2⟩ := c_wr H1 (by rw [List.length_append]; show T.length + 1 < 414; omega) (show 48 + k % 10 ≤ 126 by omega)
      rw [e1, qb_V, e2, qb_V]
      exact ⟨σ2, rfl, H2, q1.trans q2⟩
    · rw [if_neg h] at hT
      rw [if_pos (by rw [n_lt (by omega) (by omega)]; omega), if_neg h, List.append_nil]
      obtain ⟨σ2, e2, H2, q2⟩ := c_wr H (by omega) (show 48 + k % 10 ≤ 126 by omega)
      rw [e2, qb_V]
      exact ⟨σ2, rfl, H2, q2⟩
  unfold f_X3_writeNumber
  rw [d3, show (100 : Int32) = nI 100 from rfl]
  by_cases h : 100 ≤ k
  · have hl : (dgs k).length = 3 := by unfold dgs; rw [if_pos h, if_pos (by omega)]; rfl
    rw [if_neg (by rw [n_lt (by omega) (by omega)]; omega)]
    obtain ⟨σ1, e1, H1, q1⟩ := c_wr H (by omega) (show 48 + k / 100 % 10 ≤ 126 by omega)
    rw [e1, qb_V]
    obtain ⟨σ2, e2, H2, q2⟩ := two σ1 _ H1 (by rw [List.length_append, if_pos (by omega)]; show T.length + 1 + 2 ≤ 414; omega)
    refine ⟨σ2, e2, ?_, q1.trans q2⟩
    unfold dgs
    rw [if_pos h]
    simpa [List.append_assoc] using H2
  · rw [if_pos (by rw [n_lt (by omega) (by omega)]; omega)]
    obtain ⟨σ2, e2, H2, q2⟩ := two σ T H (by
      unfold dgs at hT
      rw [if_neg h] at hT
      by_cases h2 : 10 ≤ k
      · rw [if_pos h2] at hT ⊢; simpa using hT
      · rw [if_neg h2] at hT ⊢; simpa using hT)
    refine ⟨σ2, e2, ?_, q2⟩
    unfold dgs
    rw [if_neg h]
    simpa [List.append_assoc] using H2
/-- the reference's number -/
theorem e_key : ∀ k : Fin 200, ((48 : Int32) + ((nI k / nI 1) - (nI k / nI 1) / (10 : Int32) * (10 : Int32))) = nI (48 + k % 10) ∧ ((48 : Int32) + ((nI k / nI 10) - (nI k / nI 10) / (10 : Int32) * (10 : Int32))) = nI (48 + k / 10 % 10) ∧ ((48 : Int32) + ((nI k / nI 100) - (nI k / nI 100) / (10 : Int32) * (10 : Int32))) = nI (48 + k / 100 % 10) ∧ (nI k / nI 1 ≤ (9 : Int32) ↔ (k : Nat) < 10) ∧ (nI k / nI 10 ≤ (9 : Int32) ↔ (k : Nat) < 100) ∧ nI k / nI 100 ≤ (9 : Int32) := by decide +kernel
theorem r_wd1 {T : List Int32} (H : RT σ T) (hT : T.length < 600) {k : Nat} (hk : k < 200) (m : Nat) : ∃ σ', l_X8_writesNumber_28 (m + 2) (nI k) (nI T.length) (nI 1) σ = qan (nI (T ++ [nI (48 + k % 10)]).length) σ' ∧ RT σ' (T ++ [nI (48 + k % 10)]) ∧ qsm [36] σ σ' := by
  obtain ⟨d1, d2, d3, d4, d5, d6⟩ := e_key ⟨k, hk⟩
  dsimp only at d1
  obtain ⟨σ', e, H', q⟩ := r_pt H hT (nI (48 + k % 10))
  refine ⟨σ', ?_, H', q⟩
  simp only [l_X8_writesNumber_28, b_X8_writesNumber_28]
  rw [if_neg (by decide), if_neg (by decide), d1, e, qb_I, if_pos (by decide)]
theorem r_wd2 {T : List Int32} (H : RT σ T) (hT : T.length + 1 < 600) {k : Nat} (hk : k < 200) (m : Nat) : ∃ σ', l_X8_writesNumber_28 (m + 3) (nI k) (nI T.length) (nI 10) σ = qan (nI (T ++ [nI (48 + k / 10 % 10)] ++ [nI (48 + k % 10)]).length) σ' ∧ RT σ' (T ++ [nI (48 + k / 10 % 10)] ++ [nI (48 + k % 10)]) ∧ qsm [36] σ σ' := by
  obtain ⟨d1, d2, d3, d4, d5, d6⟩ := e_key ⟨k, hk⟩
  dsimp only at d2
  obtain ⟨σ1, e, H1, q⟩ := r_pt H (by omega) (nI (48 + k / 10 % 10))
  obtain ⟨σ2, e2, H2, q2⟩ := r_wd1 H1 (by rw [List.length_append]; exact hT) hk m
  refine ⟨σ2, ?_, H2, q.trans q2⟩
  rw [l_X8_writesNumber_28]
  unfold b_X8_writesNumber_28
  rw [if_neg (by decide), if_neg (by decide), d2, e, qb_I, show nI 10 / (10 : Int32) = nI 1 by decide]
  exact e2
theorem r_wd3 {T : List Int32} (H : RT σ T) (hT : T.length + 2 < 600) {k : Nat} (hk : k < 200) (m : Nat) : ∃ σ', l_X8_writesNumber_28 (m + 4) (nI k) (nI T.length) (nI 100) σ = qan (nI (T ++ [nI (48 + k / 100 % 10)] ++ [nI (48 + k / 10 % 10)] ++ [nI (48 + k % 10)]).length) σ' ∧ RT σ' (T ++ [nI (48 + k / 100 % 10)] ++ [nI (48 + k / 10 % 10)] ++ [nI (48 + k % 10)]) ∧ qsm [36] σ σ' := by
  obtain ⟨d1, d2, d3, d4, d5, d6⟩ := e_key ⟨k, hk⟩
  dsimp only at d3
  obtain ⟨σ1, e, H1, q⟩ := r_pt H (by omega) (nI (48 + k / 100 % 10))
  obtain ⟨σ2, e2, H2, q2⟩ := r_wd2 H1 (by rw [List.length_append]; exact hT) hk m
  refine ⟨σ2, ?_, H2, q.trans q2⟩
  rw [l_X8_writesNumber_28]
  unfold b_X8_writesNumber_28
  rw [if_neg (by decide), if_neg (by decide), d3, e, qb_I, show nI 100 / (10 : Int32) = nI 10 by decide]
  exact e2
theorem r_wn {T : List Int32} (H : RT σ T) (hT : T.length + 2 < 600) {k : Nat} (hk : k < 200) : ∃ σ', f_X8_writesNumber (nI T.length) (nI k) σ = qan (nI (T ++ dgs k).length) σ' ∧ RT σ' (T ++ dgs k) ∧ qsm [36] σ σ' := by
  obtain ⟨d1, d2, d3, d4, d5, d6⟩ := e_key ⟨k, hk⟩
  dsimp only at d4 d5 d6
  have u : ∀ m v, l_X8_writesNumber_5 (m + 1) (nI k) (nI T.length) v σ = (if v = 0 then none else (if (nI k / v) ≤ (9 : Int32) then l_X8_writesNumber_28 qFU (nI k) (nI T.length) v σ else l_X8_writesNumber_5 m (nI k) (nI T.length) (v * (10 : Int32)) σ)) := fun m v => rfl
  have e0 : f_X8_writesNumber (nI T.length) (nI k) σ = l_X8_writesNumber_5 (99997 + 1 + 1 + 1) (nI k) (nI T.length) (nI 1) σ := rfl
  rw [e0, u, if_neg (by decide)]
  unfold dgs
  by_cases h1 : k < 10
  · rw [if_pos (d4.mpr h1), if_neg (by omega), if_neg (by omega), List.nil_append, List.nil_append]
    exact r_wd1 H (by omega) hk 99998
  · rw [if_neg (fun h => h1 (d4.mp h)), show nI 1 * (10 : Int32) = nI 10 by decide, u, if_neg (by decide)]
    by_cases h2 : k < 100
    · rw [if_pos (d5.mpr h2), if_neg (by omega), if_pos (by omega), List.nil_append, ← List.append_assoc]
      exact r_wd2 H (by omega) hk 99997
    · rw [if_neg (fun h => h2 (d5.mp h)), show nI 10 * (10 : Int32) = nI 100 by decide, u, if_neg (by decide), if_pos d6, if_pos (by omega), if_pos (by omega), ← List.append_assoc, ← List.append_assoc]
      exact r_wd3 H hT hk 99996
end QT
