/-! NUMBERS, put behind a builder's text -/
section INU
variable {σ σ' : qS} {j cap NB L n : Nat} {T : List Int32}
theorem fit_qu {r : qS} {p x i : Nat} (hx : x ≤ 126) (h : fits .byte (.int (r 63 j i)) = true) : fits .byte (.int (qu r 63 j p (nI x) 63 j i)) = true := by
  rw [qu_at]
  by_cases e : i = p
  · rw [if_pos ⟨rfl, rfl, e⟩]; exact fit_char hx
  · rw [if_neg (fun h2 => e h2.2.2)]; exact h
theorem qu_lt {r : qS} {p i : Nat} {v : Int32} (h : i ≠ p) : qu r 63 j p v 63 j i = r 63 j i := by
  rw [qu_at, if_neg (fun h2 => h h2.2.2)]
theorem qu_eq {r : qS} {p : Nat} {v : Int32} : qu r 63 j p v 63 j p = v := by
  rw [qu_at, if_pos ⟨rfl, rfl, rfl⟩]
theorem chw_sn (e : Nat) : qsn [(63, j)] σ (chw σ j n e) := by
  unfold chw tlw
  split
  · exact ((qsn_qu _ _ _ _ _).trans (qsn_qu _ _ _ _ _)).trans (qsn_qu _ _ _ _ _)
  · split
    · exact (qsn_qu _ _ _ _ _).trans (qsn_qu _ _ _ _ _)
    · exact qsn_qu _ _ _ _ _
theorem chw_lo {i : Nat} (h : i < L ∨ L + 3 ≤ i) : chw σ j n (L + dsz n) 63 j i = σ 63 j i := by
  unfold chw tlw dsz
  by_cases h1 : 100 ≤ n
  · rw [if_pos h1, if_pos h1, qu_lt (by omega), qu_lt (by omega), qu_lt (by omega)]
  · by_cases h2 : 10 ≤ n
    · rw [if_neg h1, if_neg h1, if_pos h2, if_pos h2, qu_lt (by omega), qu_lt (by omega)]
    · rw [if_neg h1, if_neg h1, if_neg h2, if_neg h2, qu_lt (by omega)]
theorem chw_fit {e i : Nat} (h : fits .byte (.int (σ 63 j i)) = true) : fits .byte (.int (chw σ j n e 63 j i)) = true := by
  unfold chw tlw
  split
  · exact fit_qu (by omega) (fit_qu (by omega) (fit_qu (by omega) h))
  · split
    · rename_i h1 h2
      exact fit_qu (by omega) (fit_qu (by omega) h)
    · exact fit_qu (by omega) h
theorem chw_at {i : Nat} {v : Int32} (hv : (dgs n)[i]? = some v) : chw σ j n (L + dsz n) 63 j (L + i) = v := by
  unfold chw tlw dsz
  unfold dgs at hv
  by_cases h1 : 100 ≤ n
  · rw [if_pos h1, if_pos (show 10 ≤ n by omega)] at hv
    rw [if_pos h1, if_pos h1]
    match i, hv with
    | 0, hv =>
      rw [show L + 3 - 3 = L + 0 by omega, qu_eq]
      exact Option.some.inj hv
    | 1, hv =>
      rw [qu_lt (by omega), show L + 3 - 2 = L + 1 by omega, qu_eq]
      exact Option.some.inj hv
    | 2, hv =>
      rw [qu_lt (by omega), qu_lt (by omega), show L + 3 - 1 = L + 2 by omega, qu_eq]
      exact Option.some.inj hv
    | i + 3, hv => cases hv
  · by_cases h2 : 10 ≤ n
    · rw [if_neg h1, if_pos h2] at hv
      rw [if_neg h1, if_neg h1, if_pos h2, if_pos h2]
      match i, hv with
      | 0, hv =>
        rw [show L + 2 - 2 = L + 0 by omega, qu_eq, show n / 10 = n / 10 % 10 by omega]
        exact Option.some.inj hv
      | 1, hv =>
        rw [qu_lt (by omega), show L + 2 - 1 = L + 1 by omega, qu_eq]
        exact Option.some.inj hv
      | i + 2, hv => cases hv
    · rw [if_neg h1, if_neg h2] at hv
      rw [if_neg h1, if_neg h1, if_neg h2, if_neg h2]
      match i, hv with
      | 0, hv =>
        rw [show L + 1 - 1 = L + 0 by omega, qu_eq]
        exact Option.some.inj hv
      | i + 1, hv => cases hv
theorem Dig.sn {ks : List (Nat × Nat)} (D : Dig σ) (q : qsn ks σ σ') (h : (46, 0) ∉ ks ∧ (46, 1) ∉ ks) : Dig σ' := by
  unfold Dig
  rw [q 46 0 h.1, q 46 1 h.2]
  exact D
theorem b_int (D : Dig σ) (H : BT σ j cap T) (hn : n < 200) (hl : T.length + dsz n ≤ 1990) (hNB : cap < T.length + dsz n → max (T.length + dsz n) (2 * cap + 2) ≤ NB) (h2 : NB ≤ 2000) :
    ∃ σ', f_J4_append_bf812 NB j (nI n) σ = some (.inl (some (qR 62 j)), σ') ∧ BT σ' j (gcap cap (T.length + dsz n)) (T ++ dgs n) ∧ qsn [(62, j), (63, j), (66, 0)] σ σ' := by
  obtain ⟨σ1, e1, H1, q1⟩ := b_ensure H (show T.length + dsz n ≤ 2000 by omega) hNB h2
  have D1 : Dig σ1 := D.sn q1 ⟨by simp, by simp⟩
  have hg : T.length + dsz n ≤ gcap cap (T.length + dsz n) := by unfold gcap; split <;> omega
  have hg2 := H1.2.2.2.2.2.1
  obtain ⟨r, e2⟩ := i_chars D1 H1.len hg2 hn (e := T.length + dsz n) (by omega) hg
  have q2 := chw_sn (σ := σ1) (j := j) (n := n) (T.length + dsz n)
  refine ⟨qu (chw σ1 j n (T.length + dsz n)) 62 j 3 (nI (T.length + dsz n)), ?_, ⟨?_, ?_, ?_, ?_, by rw [List.length_append, dgs_sz]; exact hg, hg2, okt_app H.2.2.2.2.2.2.1 (okt_dgs n), fun i v hv => ?_, ?_⟩, q1.trans (fun a b hab => ?_)⟩
  · unfold f_J4_append_bf812 f_J5_append_c97b9 f_J5_isLatin1_aae02
    rw [i_size hn, qb_I, H.2.2.1, nI_add, e1, qb_V, if_neg (by decide), H1.1, if_pos rfl, qb_I, if_neg (by decide), if_neg (by rw [H1.2.1]; decide), e2, qb_I, qlet_eq, qb_M]
  · rw [qu_at, if_neg (by simp), q2 62 j (by simp)]; exact H1.1
  · rw [qu_at, if_neg (by simp), q2 62 j (by simp)]; exact H1.2.1
  · rw [qu_at, if_pos ⟨rfl, rfl, rfl⟩, List.length_append, dgs_sz]
  · have hq : qLI = 2147483648 := rfl
    rw [qu_other _ (by simp), chw_lo (by omega)]
    exact H1.2.2.2.1
  · rw [qu_other _ (by simp)]
    rcases app_at hv with ⟨h1, h3⟩ | ⟨h1, h4, h3⟩
    · rw [chw_lo (Or.inl h1)]
      exact H1.2.2.2.2.2.2.2.1 i v h3
    · have h5 := chw_at (σ := σ1) (j := j) (L := T.length) h3
      rw [show T.length + (i - T.length) = i by omega] at h5
      exact h5
  · rw [qu_other _ (by simp)]
    exact qbf_iff.mpr (fun i hi => chw_fit ((qbf_iff.mp H1.2.2.2.2.2.2.2.2) i hi))
  · simp only [List.mem_cons, Prod.mk.injEq, List.not_mem_nil, or_false, not_or] at hab
    rw [qu_other _ (by rintro ⟨rfl, rfl⟩; exact hab.1 ⟨rfl, rfl⟩), q2 a b (by simp only [List.mem_cons, Prod.mk.injEq, List.not_mem_nil, or_false]; exact hab.2.1)]
end INU
