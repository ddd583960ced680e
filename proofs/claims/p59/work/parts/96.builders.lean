/-! BUILDERS, purely: made, grown, a text put behind -/
section BLD
variable {σ σ' : qS} {k j jj cap need NB : Nat} {T U : List Int32}
theorem qmin_n {a b : Nat} (ha : a < 2 ^ 31) (hb : b < 2 ^ 31) (h : a ≤ b) : qmin (nI a) (nI b) = nI a := by
  apply i_eq
  rw [i_min, nI_toInt ha, nI_toInt hb]
  omega
theorem qzr_at (n : Int32) {i : Nat} (hi : i < 1000000) : qzr n i = 0 := by
  have : qLI = 2147483648 := rfl
  unfold qzr
  rw [if_neg (by omega)]
theorem fit0 : fits .byte (.int 0) = true := by decide
theorem b_init (h3 : σ 62 j 3 = 0) : ∃ σ', f_J4_init_da8c8 j σ = qdo σ' ∧ BT σ' j 16 [] ∧ qsn [(62, j), (63, j), (66, 0)] σ σ' := by
  refine ⟨qu (qrw (qu (qrw σ 66 0 (qzr 16)) 62 j 5 1) 63 j (qzr 16)) 62 j 1 0, ?_, ⟨?_, ?_, ?_, ?_, by decide, by decide, okt_nil, fun i v h => by simp at h, ?_⟩, fun a b hab => ?_⟩
  · unfold f_J4_init_da8c8 f_J5_init_d00df
    rw [if_neg (by decide), if_pos (by decide), qlet_eq, qlet_eq, qlet_eq, qb_V, qrw_at]
  · rw [qu_at, if_pos ⟨rfl, rfl, rfl⟩]
  · rw [qu_at, if_neg (by simp), qrw_ne _ _ (by simp), qu_at, if_pos ⟨rfl, rfl, rfl⟩]
  · rw [qu_at, if_neg (by simp), qrw_ne _ _ (by simp), qu_at, if_neg (by simp), qrw_ne _ _ (by simp), h3]; rfl
  · rw [qu_other _ (by simp), qrw_at]; simp [qzr]; rfl
  · rw [qu_other _ (by simp), qrw_at]
    exact qbf_iff.mpr (fun i hi => by rw [qzr_at _ (by omega)]; exact fit0)
  · simp only [List.mem_cons, Prod.mk.injEq, List.not_mem_nil, or_false, not_or] at hab
    rw [qu_other _ (by rintro ⟨rfl, rfl⟩; exact hab.1 ⟨rfl, rfl⟩), qrw_ne _ _ (by rintro ⟨rfl, rfl⟩; exact hab.2.1 ⟨rfl, rfl⟩), qu_other _ (by rintro ⟨rfl, rfl⟩; exact hab.1 ⟨rfl, rfl⟩), qrw_ne _ _ (by rintro ⟨rfl, rfl⟩; exact hab.2.2 ⟨rfl, rfl⟩)]
def gcap (cap need : Nat) : Nat := if need ≤ cap then cap else max need (2 * cap + 2)
theorem b_newcap (H : BT σ j cap T) (hn : need ≤ 2000) (hc : cap < need) : f_J5_newCapacity_0f7a4 j (nI need) σ = qan (nI (max need (2 * cap + 2))) σ := by
  have hcap := H.2.2.2.2.2.1
  have e1 : qmax (nI need - nI cap) (nI cap + (2 : Int32)) = nI (max (need - cap) (cap + 2)) := by
    apply i_eq
    rw [i_max, i_sub (by rw [nI_toInt (by omega)]; omega) (by rw [nI_toInt (by omega)]; omega) (by rw [nI_toInt (by omega)]; omega) (by rw [nI_toInt (by omega)]; omega), show (2 : Int32) = nI 2 from rfl, nI_add, nI_toInt (by omega), nI_toInt (by omega), nI_toInt (by omega), nI_toInt (by omega)]
    omega
  have e2 : cap + max (need - cap) (cap + 2) = max need (2 * cap + 2) := by omega
  unfold f_J5_newCapacity_0f7a4 f_J8_newLength_cabcc
  rw [if_neg (by rw [H.2.1]; decide), H.1, n_ofl H.len, sl0, sl0, e1, nI_add, e2, if_neg (fun h => by rw [show (0 : Int32) = nI 0 from rfl, n_le (by omega) (by omega)] at h; omega), if_neg (fun h => by rw [show (2147483639 : Int32) = nI 2147483639 from rfl, n_lt (by omega) (by omega)] at h; omega), qb_I, if_neg (fun h => by rw [show (2147483647 : Int32) = nI 2147483647 from rfl, n_eq (by omega) (by omega)] at h; omega), H.1, sh0]
theorem b_ensure (H : BT σ j cap T) (hn : need ≤ 2000) (hNB : cap < need → max need (2 * cap + 2) ≤ NB) (h2 : NB ≤ 2000) : ∃ σ', f_J5_ensureCapacityInternal_d00df NB j (nI need) σ = qdo σ' ∧ BT σ' j (gcap cap need) T ∧ qsn [(62, j), (63, j), (66, 0)] σ σ' := by
  have hcap := H.2.2.2.2.2.1
  have hT := H.2.2.2.2.1
  have e1 : (nI need - nI cap).toInt = (need : Int) - cap := by
    rw [i_sub (by rw [nI_toInt (by omega)]; omega) (by rw [nI_toInt (by omega)]; omega) (by rw [nI_toInt (by omega)]; omega) (by rw [nI_toInt (by omega)]; omega), nI_toInt (by omega), nI_toInt (by omega)]
  unfold f_J5_ensureCapacityInternal_d00df gcap
  rw [if_neg (by rw [H.2.1]; decide), H.1, n_ofl H.len, sh0]
  by_cases h : need ≤ cap
  · rw [if_pos (by rw [i_le, e1, show (0 : Int32).toInt = 0 from rfl]; omega), if_pos h]
    exact ⟨σ, rfl, H, qsn.refl _ _⟩
  · have hm := hNB (by omega)
    obtain ⟨c2, hc2⟩ : ∃ c2, c2 = max need (2 * cap + 2) := ⟨_, rfl⟩
    rw [if_neg (by rw [i_le, e1, show (0 : Int32).toInt = 0 from rfl]; omega), if_neg h, if_neg (by rw [H.2.1]; decide), b_newcap H hn (by omega), qb_I, H.1, sl0, ← hc2]
    have l1 : qln (qrw σ 66 0 (qzr (nI c2)) 63 j) = cap := by rw [qrw_ne _ _ (by simp)]; exact H.len
    have l2 : qln (qrw σ 66 0 (qzr (nI c2)) 66 0) = c2 := by rw [qrw_at, qzr_len, nI_clamp (by omega)]
    have hc : f_J7_copyOf_9075b NB j (nI c2) σ = some (.inl (some (qR 66 0)), qrw (qrw σ 66 0 (qzr (nI c2))) 66 0 (va_cpy (σ 63 j) (qzr (nI c2)) 0 0 cap)) := by
      unfold f_J7_copyOf_9075b
      rw [if_neg (fun h3 => by rw [n_ofl H.len, n_eq (by omega) (by omega)] at h3; omega), if_pos ⟨nI_pos' (by omega), nI_le (by omega) (by omega)⟩, qlet_eq, n_ofl l1, qmin_n (by omega) (by omega) (by omega), if_pos ?_, qlet_eq, nI_clamp (by omega), qrw_at, qrw_ne σ _ (show ¬ (63 = 66 ∧ j = 0) by simp)]
      · rfl
      · refine ⟨⟨by decide, by decide, nI_pos' (by omega)⟩, ?_, ?_, ?_⟩
        · rw [nI_clamp (by omega), l1]
          show 0 + cap ≤ cap
          omega
        · rw [nI_clamp (by omega), l2]
          show 0 + cap ≤ c2
          omega
        · rw [nI_clamp (by omega), qrw_ne _ _ (by simp)]
          exact H.2.2.2.2.2.2.2.2
    rw [hc, qb_M, qlet_eq, qrw_at]
    refine ⟨_, rfl, ⟨?_, ?_, ?_, ?_, by omega, by omega, H.2.2.2.2.2.2.1, fun i v hv => ?_, ?_⟩, fun a b hab => ?_⟩
    · rw [qrw_ne _ _ (by simp), qu_at, if_neg (by simp), qrw_ne _ _ (by simp), qrw_ne _ _ (by simp)]; exact H.1
    · rw [qrw_ne _ _ (by simp), qu_at, if_pos ⟨rfl, rfl, rfl⟩]
    · rw [qrw_ne _ _ (by simp), qu_at, if_neg (by simp), qrw_ne _ _ (by simp), qrw_ne _ _ (by simp)]; exact H.2.2.1
    · have hq : qLI = 2147483648 := rfl
      rw [qrw_at, cpy_at, if_neg (by omega)]
      simp [qzr]
    · have hi : i < T.length := by
        rcases Nat.lt_or_ge i T.length with h3 | h3
        · exact h3
        · rw [List.getElem?_eq_none h3] at hv; cases hv
      rw [qrw_at, cpy_at, if_pos (by omega), show 0 + (i - 0) = i by omega]
      exact H.2.2.2.2.2.2.2.1 i v hv
    · rw [qrw_at]
      refine qbf_iff.mpr (fun i hi => ?_)
      rw [cpy_at]
      by_cases h3 : 0 ≤ 0 + i ∧ 0 + i < 0 + cap
      · rw [if_pos h3]
        have := (qbf_iff.mp H.2.2.2.2.2.2.2.2) i (by omega)
        rw [show 0 + (0 + i - 0) = 0 + i by omega]
        exact this
      · rw [if_neg h3, qzr_at _ (by omega)]
        exact fit0
    · simp only [List.mem_cons, Prod.mk.injEq, List.not_mem_nil, or_false, not_or] at hab
      rw [qrw_ne _ _ (by rintro ⟨rfl, rfl⟩; exact hab.2.1 ⟨rfl, rfl⟩), qu_other _ (by rintro ⟨rfl, rfl⟩; exact hab.1 ⟨rfl, rfl⟩), qrw_ne _ _ (by rintro ⟨rfl, rfl⟩; exact hab.2.2 ⟨rfl, rfl⟩), qrw_ne _ _ (by rintro ⟨rfl, rfl⟩; exact hab.2.2 ⟨rfl, rfl⟩)]
end BLD
