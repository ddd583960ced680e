/-! A DAY in the line of a resource's use -/
section DY
variable {P : qP} {hs : List qP} {σ : qS}
theorem gcap_cases (c n : Nat) : (n ≤ c ∧ gcap c n = c) ∨ (c < n ∧ gcap c n = max n (2 * c + 2)) := by
  unfold gcap
  by_cases h : n ≤ c
  · rw [if_pos h]; exact Or.inl ⟨h, rfl⟩
  · rw [if_neg h]; exact Or.inr ⟨by omega, rfl⟩
theorem Use.s60 {σ' : qS} {u : Nat → Nat → Nat} {ks : List (Nat × Nat)} (U : Use σ u) (q : qsn ks σ σ') (hk : ∀ p ∈ ks, 60 ≤ p.1) : Use σ' u := U.sn q (fun r hr h => by have := hk _ h; simp only at this; omega)
theorem l_day (h : TS σ P hs) (U : Use σ (pUf P)) {r i kt : Nat} (hr : r < 3) (hi : i < 138) (hkt : kt = 42 ∨ kt = 60) (X : TX σ kt 0 (utx P r i)) {rk : Int32 → Int32 → Int32 → Int32 → Int32 → Int32 → qS → Option qO} {rk2 : Int32 → Int32 → Int32 → Int32 → Int32 → Int32 → Int32 → Int32 → Nat → Int32 → qS → Option qO} {v3 v4 v5 v6 v7 v9 v10 : Int32} :
    ∃ σ', (qlet (qrw σ 62 0 (fun _ => 0)) (fun s24 => qbind (f_J4_init_da8c8 0 s24) (qvV (fun s25 => qbind (f_J4_append_15ec4 (34 + 3 * i) 0 kt 0 s25) (qvM 62 0 (fun s26 => j_L_areLevelsRight_240 (3 * i) rk rk2 v3 v4 v5 v6 v7 (nI r) v9 v10 (nI i) s26)) qE0)) qE0)) = rk2 v3 v4 v5 v6 v7 (nI r) v9 v10 60 (nI (i + 1)) σ' ∧ TS σ' P hs ∧ Use σ' (pUf P) ∧ TX σ' 60 0 (utx P r (i + 1)) := by
  have W := h.1.1.1
  have hn := W.1
  have hu := pUf_le W (r := r) (d := i)
  have z1 := dsz_2 (n := pUf P r i) (by omega)
  have hlen := utx_len W r i
  have q0 := qsn_qrw σ 62 0 (fun _ => 0)
  have k0 : ∀ p ∈ [(62, 0)], 60 ≤ p.1 := fun p hp => by rw [List.mem_singleton.mp hp]; show 60 ≤ 62; omega
  have h0 : TS (qrw σ 62 0 (fun _ => 0)) P hs := h.sn q0 k0
  have U0 := U.s60 q0 k0
  obtain ⟨σ1, e1, B1, h1, q1⟩ := s_init (j := 0) h0 (by rw [qrw_at])
  have U1 := U0.s60 q1 k3
  have X1 : TX σ1 kt 0 (utx P r i) := (X.sn q0 (by rcases hkt with rfl | rfl <;> simp) (by rcases hkt with rfl | rfl <;> simp [qvk])).sn q1 (by rcases hkt with rfl | rfl <;> simp) (by rcases hkt with rfl | rfl <;> simp [qvk])
  obtain ⟨σ2, e2, B2, q2⟩ := b_text (NB := 34 + 3 * i) hkt B1 X1 (by simp only [List.length_nil]; omega) (fun _ => by simp only [List.length_nil]; omega) (by omega)
  rw [List.nil_append, List.length_nil, Nat.zero_add] at B2
  have h2 := h1.sn q2 k3
  have U2 := U1.s60 q2 k3
  have gc := gcap_cases 16 (utx P r i).length
  obtain ⟨c, hc⟩ : ∃ c, c = gcap 16 (utx P r i).length := ⟨_, rfl⟩
  rw [← hc] at B2 gc
  rw [qlet_eq, e1, qb_V, e2, qb_M]
  unfold j_L_areLevelsRight_240
  have hx : utx P r (i + 1) = if i = 0 then utx P r i ++ dgs (pUf P r i) else utx P r i ++ [nI 44] ++ dgs (pUf P r i) := rfl
  by_cases hz : i = 0
  · subst hz
    have l0 : (utx P r 0).length = 0 := rfl
    obtain ⟨σ3, e3, B3, q3⟩ := b_text (NB := 70 + 2 * (3 * 0)) (Or.inl rfl) B2 (x_c0 h2.2.1) (by simp only [List.length_nil]; omega) (fun _ => by simp only [List.length_nil]; omega) (by omega)
    rw [List.append_nil, List.length_nil, Nat.add_zero] at B3
    have h3 := h2.sn q3 k3
    have U3 := U2.s60 q3 k3
    have gc3 := gcap_cases c (utx P r 0).length
    obtain ⟨c3, hc3⟩ : ∃ c3, c3 = gcap c (utx P r 0).length := ⟨_, rfl⟩
    rw [← hc3] at B3 gc3
    obtain ⟨σ4, e4, B4, q4⟩ := b_int (NB := 70) (Dig.of h3.2.1) B3 (n := pUf P r 0) (by omega) (by omega) (fun _ => by omega) (by omega)
    have h4 := h3.sn q4 k3
    have U4 := U3.s60 q4 k3
    obtain ⟨σ5, e5, X5, q5⟩ := b_toString (NB := 3 + 3 * 0) B4 (by rw [List.length_append, dgs_sz]; omega) (by omega) (by rw [List.length_append, dgs_sz]; omega)
    refine ⟨σ5, ?_, h4.sn q5 k3t, U4.s60 q5 k3t, by rw [hx, if_pos rfl]; exact X5⟩
    rw [if_pos (show nI 0 = 0 from rfl), e3, qb_M, if_pos (n_in hr (by decide)), nI_clamp (show r < 2 ^ 31 by omega), if_pos (by rw [U3.len hr]; exact n_in (by omega) (by decide)), nI_clamp (show 0 < 2 ^ 31 by omega), (U3 r hr).2 0 (by omega), e4, qb_M, e5, qb_M]
    rfl
  · obtain ⟨σ3, e3, B3, q3⟩ := b_text (NB := 70 + 2 * (3 * i)) (Or.inl rfl) B2 (x_c1 h2.2.1) (by simp only [List.length_cons, List.length_nil]; omega) (fun _ => by simp only [List.length_cons, List.length_nil]; omega) (by omega)
    have l1 : (utx P r i ++ [nI 44]).length = (utx P r i).length + 1 := by rw [List.length_append]; rfl
    have h3 := h2.sn q3 k3
    have U3 := U2.s60 q3 k3
    have gc3 := gcap_cases c ((utx P r i).length + 1)
    obtain ⟨c3, hc3⟩ : ∃ c3, c3 = gcap c ((utx P r i).length + 1) := ⟨_, rfl⟩
    have B3 : BT σ3 0 (gcap c ((utx P r i).length + 1)) (utx P r i ++ [nI 44]) := B3
    rw [← hc3] at B3 gc3
    obtain ⟨σ4, e4, B4, q4⟩ := b_int (NB := 70) (Dig.of h3.2.1) B3 (n := pUf P r i) (by omega) (by omega) (fun _ => by omega) (by omega)
    have h4 := h3.sn q4 k3
    have U4 := U3.s60 q4 k3
    obtain ⟨σ5, e5, X5, q5⟩ := b_toString (NB := 3 + 3 * i) B4 (by rw [List.length_append, l1, dgs_sz]; omega) (by omega) (by rw [List.length_append, l1, dgs_sz]; omega)
    refine ⟨σ5, ?_, h4.sn q5 k3t, U4.s60 q5 k3t, by rw [hx, if_neg hz]; exact X5⟩
    rw [if_neg (fun h2 => hz (by rw [show (0 : Int32) = nI 0 from rfl, n_eq (by omega) (by omega)] at h2; exact h2)), e3, qb_M, if_pos (n_in hr (by decide)), nI_clamp (show r < 2 ^ 31 by omega), if_pos (by rw [U3.len hr]; exact n_in (by omega) (by decide)), nI_clamp (show i < 2 ^ 31 by omega), (U3 r hr).2 i (by omega), e4, qb_M, e5, qb_M, nI_1]
end DY
