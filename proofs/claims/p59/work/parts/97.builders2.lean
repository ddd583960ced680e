/-! BUILDERS, purely: a text put behind, the text taken -/
section BLE
variable {σ σ' : qS} {k j jj cap need NB : Nat} {T U : List Int32}
theorem app_at {i : Nat} {v : Int32} (h : (T ++ U)[i]? = some v) : (i < T.length ∧ T[i]? = some v) ∨ (T.length ≤ i ∧ i < T.length + U.length ∧ U[i - T.length]? = some v) := by
  rw [List.getElem?_append] at h
  by_cases h1 : i < T.length
  · rw [if_pos h1] at h
    exact Or.inl ⟨h1, h⟩
  · rw [if_neg h1] at h
    refine Or.inr ⟨by omega, ?_, h⟩
    rcases Nat.lt_or_ge (i - T.length) U.length with h2 | h2
    · omega
    · rw [List.getElem?_eq_none h2] at h; cases h
theorem TX.fit (X : TX σ k jj U) : qbf (σ (qvk k) jj) 0 U.length = true := by
  refine qbf_iff.mpr (fun i hi => ?_)
  obtain ⟨v, hv⟩ : ∃ v, U[i]? = some v := ⟨_, List.getElem?_eq_getElem hi⟩
  obtain ⟨n, hn, e⟩ := i_char (X.2.2.2.2.1 v (List.mem_of_getElem? hv))
  rw [Nat.zero_add, X.2.2.2.2.2 i v hv, e]
  exact fit_char hn
theorem b_text (hk : k = 42 ∨ k = 60) (H : BT σ j cap T) (X : TX σ k jj U) (hl : T.length + U.length ≤ 2000) (hNB : cap < T.length + U.length → max (T.length + U.length) (2 * cap + 2) ≤ NB) (h2 : NB ≤ 2000) :
    ∃ σ', f_J4_append_15ec4 NB j k jj σ = some (.inl (some (qR 62 j)), σ') ∧ BT σ' j (gcap cap (T.length + U.length)) (T ++ U) ∧ qsn [(62, j), (63, j), (66, 0)] σ σ' := by
  obtain ⟨σ1, e1, H1, q1⟩ := b_ensure H hl hNB h2
  have hv : qvk k = 44 ∨ qvk k = 61 := by
    rcases hk with h | h <;> rw [h]
    · exact Or.inl rfl
    · exact Or.inr rfl
  have X1 : TX σ1 k jj U := X.tr (q1 k jj (by simp; omega)) (q1 (qvk k) jj (by simp; omega))
  have hg : T.length + U.length ≤ gcap cap (T.length + U.length) := by unfold gcap; split <;> omega
  have hg2 := H1.2.2.2.2.2.1
  have lenU : U.length ≤ 1000 := X.2.2.2.1
  have hput : f_J5_putStringAt_47b60 j (nI T.length) k jj σ1 = qdo (qrw σ1 63 j (va_cpy (σ1 (qvk k) jj) (σ1 63 j) 0 T.length U.length)) := by
    unfold f_J5_putStringAt_47b60 f_J5_inflateIfNeededFor_a7421
    rw [if_neg (by decide), x_coder X1, qb_I, H1.1, if_pos rfl, qb_V, if_neg (by rw [H1.2.1]; decide)]
    unfold f_J0_getBytes_840e7
    rw [x_coder X1, qb_I, H1.1, if_pos rfl, if_neg (by rw [X1.2.1]; decide), if_neg (by rw [X1.2.1]; decide), n_ofl X1.len, sl0, if_pos ?_, qlet_eq, qb_V, nI_clamp (by omega), nI_clamp (by omega)]
    · rfl
    · refine ⟨⟨by decide, nI_pos' (by omega), nI_pos' (by omega)⟩, ?_, ?_, ?_⟩
      · rw [nI_clamp (by omega), X1.len]
        show 0 + U.length ≤ U.length
        omega
      · rw [nI_clamp (by omega), nI_clamp (by omega), H1.len]
        exact hg
      · rw [nI_clamp (by omega)]
        exact X1.fit
  refine ⟨qu (qrw σ1 63 j (va_cpy (σ1 (qvk k) jj) (σ1 63 j) 0 T.length U.length)) 62 j 3 (nI (T.length + U.length)), ?_, ⟨?_, ?_, ?_, ?_, by rw [List.length_append]; exact hg, hg2, okt_app H.2.2.2.2.2.2.1 X.2.2.2.2.1, fun i v hv => ?_, ?_⟩, q1.trans (fun a b hab => ?_)⟩
  · unfold f_J4_append_15ec4 f_J5_append_cf1ce
    rw [x_length X, qb_I, H.2.2.1, nI_add, e1, qb_V, H1.2.2.1, hput, qb_V, qlet_eq, qb_M, qrw_ne σ1 _ (show ¬ (62 = 63 ∧ j = j) by simp), H1.2.2.1, nI_add]
  · rw [qu_at, if_neg (by simp), qrw_ne _ _ (by simp)]; exact H1.1
  · rw [qu_at, if_neg (by simp), qrw_ne _ _ (by simp)]; exact H1.2.1
  · rw [qu_at, if_pos ⟨rfl, rfl, rfl⟩, List.length_append]
  · have hq : qLI = 2147483648 := rfl
    rw [qu_other _ (by simp), qrw_at, cpy_at, if_neg (by omega)]
    exact H1.2.2.2.1
  · rw [qu_other _ (by simp), qrw_at, cpy_at]
    rcases app_at hv with ⟨h1, h3⟩ | ⟨h1, h4, h3⟩
    · rw [if_neg (by omega)]
      exact H1.2.2.2.2.2.2.2.1 i v h3
    · rw [if_pos ⟨h1, h4⟩, Nat.zero_add]
      exact X1.2.2.2.2.2 _ v h3
  · rw [qu_other _ (by simp), qrw_at]
    refine qbf_iff.mpr (fun i hi => ?_)
    rw [cpy_at]
    by_cases h3 : T.length ≤ 0 + i ∧ 0 + i < T.length + U.length
    · rw [if_pos h3]
      exact (qbf_iff.mp X1.fit) (0 + i - T.length) (by omega)
    · rw [if_neg h3]
      exact (qbf_iff.mp H1.2.2.2.2.2.2.2.2) i hi
  · simp only [List.mem_cons, Prod.mk.injEq, List.not_mem_nil, or_false, not_or] at hab
    rw [qu_other _ (by rintro ⟨rfl, rfl⟩; exact hab.1 ⟨rfl, rfl⟩), qrw_ne _ _ (by rintro ⟨rfl, rfl⟩; exact hab.2.1 ⟨rfl, rfl⟩)]
/-! the text of a builder -/
theorem b_range (H : BT σ j cap T) (hT : T.length ≤ NB) (hN : NB ≤ 60000) : ∃ (r : Nat → Int32) (σ' : qS), f_J7_copyOfRange_39247 NB j 0 (nI T.length) σ = some (.inl (some (qR 66 0)), σ') ∧ σ' 66 0 = r ∧ r qLI = nI T.length ∧ (∀ i v, T[i]? = some v → r i = v) ∧ qsn [(66, 0)] σ σ' := by
  have hcap := H.2.2.2.2.2.1
  have hl := H.2.2.2.2.1
  have hi : ∀ i v, T[i]? = some v → i < T.length := fun i v hv => by
    rcases Nat.lt_or_ge i T.length with h3 | h3
    · exact h3
    · rw [List.getElem?_eq_none h3] at hv; cases hv
  unfold f_J7_copyOfRange_39247
  rw [if_pos rfl]
  by_cases h : T.length = cap
  · rw [if_pos (by rw [n_ofl H.len, h]), if_pos ⟨by rw [H.len]; omega, by rw [H.len]; exact H.2.2.2.2.2.2.2.2⟩, qlet_eq]
    exact ⟨σ 63 j, _, rfl, qrw_at _ _ _ _, by rw [H.2.2.2.1, h], H.2.2.2.2.2.2.2.1, qsn_qrw _ _ _ _⟩
  · have e0 : nI T.length - (0 : Int32) = nI T.length := Int32.sub_zero _
    have l1 : qln (qrw σ 66 0 (qzr (nI T.length)) 63 j) = cap := by rw [qrw_ne _ _ (by simp)]; exact H.len
    have l2 : qln (qrw σ 66 0 (qzr (nI T.length)) 66 0) = T.length := by rw [qrw_at, qzr_len, nI_clamp (by omega)]
    have e3 : qmin (nI cap) (nI T.length) = nI T.length := by
      apply i_eq
      rw [i_min, nI_toInt (by omega), nI_toInt (by omega)]
      omega
    have hc : f_J7_copyOfRangeByte_39247 NB j 0 (nI T.length) σ = some (.inl (some (qR 66 0)), qrw (qrw σ 66 0 (qzr (nI T.length))) 66 0 (va_cpy (σ 63 j) (qzr (nI T.length)) 0 0 T.length)) := by
      unfold f_J7_copyOfRangeByte_39247 f_J7_checkLength_df160
      rw [if_pos (nI_pos' (by omega)), qb_V, e0, if_pos ⟨nI_pos' (by omega), nI_le hT (by omega)⟩, qlet_eq, n_ofl l1, Int32.sub_zero, e3, if_pos ?_, qlet_eq, nI_clamp (by omega), qrw_at, qrw_ne σ _ (show ¬ (63 = 66 ∧ j = 0) by simp)]
      · rfl
      · refine ⟨⟨by decide, by decide, nI_pos' (by omega)⟩, ?_, ?_, ?_⟩
        · rw [nI_clamp (by omega), l1]
          show 0 + T.length ≤ cap
          omega
        · rw [nI_clamp (by omega), l2]
          show 0 + T.length ≤ T.length
          omega
        · rw [nI_clamp (by omega), qrw_ne _ _ (by simp)]
          exact qbf_iff.mpr (fun i h3 => (qbf_iff.mp H.2.2.2.2.2.2.2.2) i (by omega))
    rw [if_neg (fun h3 => by rw [n_ofl H.len, n_eq (by omega) (by omega)] at h3; omega), hc, qb_M]
    refine ⟨_, _, rfl, qrw_at _ _ _ _, ?_, fun i v hv => ?_, (qsn_qrw _ _ _ _).trans (qsn_qrw _ _ _ _)⟩
    · have hq : qLI = 2147483648 := rfl
      rw [cpy_at, if_neg (by omega)]
      simp [qzr]
    · have := hi i v hv
      rw [cpy_at, if_pos (by omega), show 0 + (i - 0) = i by omega]
      exact H.2.2.2.2.2.2.2.1 i v hv
theorem b_toString (H : BT σ j cap T) (hT : T.length ≤ NB) (hN : NB ≤ 60000) (hT2 : T.length ≤ 1000) : ∃ σ', f_J4_toString_0e30d NB j σ = some (.inl (some (qR 60 j)), σ') ∧ TX σ' 60 j T ∧ qsn [(60, j), (61, j), (66, 0)] σ σ' := by
  have hcap := H.2.2.2.2.2.1
  have H0 : BT (qrw σ 60 j (fun _ => 0)) j cap T := H.tr (qrw_ne _ _ (by simp)) (qrw_ne _ _ (by simp))
  have H1 : BT (qu (qrw σ 60 j (fun _ => 0)) 60 j 1 0) j cap T := H0.tr (qu_other _ (by simp)) (qu_other _ (by simp))
  obtain ⟨r, σ1, e1, r1, r2, r3, q1⟩ := b_range H1 hT hN
  refine ⟨qrw (qu σ1 60 j 5 1) 61 j r, ?_, ⟨?_, ?_, ?_, hT2, H.2.2.2.2.2.2.1, fun i v hv => ?_⟩, fun a b hab => ?_⟩
  · unfold f_J4_toString_0e30d f_J0_init_81219 f_J0_init_db425 f_J5_getValue_6d5f1 f_J4_length_8abf5 f_J5_length_8abf5 f_J5_isLatin1_aae02
    rw [qlet_eq, if_neg (by rw [H0.2.1]; decide), qb_M, H0.2.2.1, qb_I, qb_I, if_neg (by decide), H0.1, if_pos rfl, qb_I, if_neg (by decide), qlet_eq, e1, qb_M, qlet_eq, qb_V, qb_V, r1]
  · rw [qrw_ne _ _ (by simp), qu_at, if_neg (by simp), q1 60 j (by simp), qu_at, if_pos ⟨rfl, rfl, rfl⟩]
  · rw [qrw_ne _ _ (by simp), qu_at, if_pos ⟨rfl, rfl, rfl⟩]
  · show qrw (qu σ1 60 j 5 1) 61 j r 61 j qLI = _
    rw [qrw_at, r2]
  · show qrw (qu σ1 60 j 5 1) 61 j r 61 j i = v
    rw [qrw_at]
    exact r3 i v hv
  · simp only [List.mem_cons, Prod.mk.injEq, List.not_mem_nil, or_false, not_or] at hab
    rw [qrw_ne _ _ (by rintro ⟨rfl, rfl⟩; exact hab.2.1 ⟨rfl, rfl⟩), qu_other _ (by rintro ⟨rfl, rfl⟩; exact hab.1 ⟨rfl, rfl⟩), q1 a b (by simp only [List.mem_cons, Prod.mk.injEq, List.not_mem_nil, or_false]; exact hab.2.2), qu_other _ (by rintro ⟨rfl, rfl⟩; exact hab.1 ⟨rfl, rfl⟩), qrw_ne _ _ (by rintro ⟨rfl, rfl⟩; exact hab.1 ⟨rfl, rfl⟩)]
end BLE
