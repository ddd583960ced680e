/-! NUMBERS, written into a builder -/
def Dig (σ : qS) : Prop := (qln (σ 46 0) = 100 ∧ ∀ i, i < 100 → σ 46 0 i = nI (48 + i % 10)) ∧ qln (σ 46 1) = 100 ∧ ∀ i, i < 100 → σ 46 1 i = nI (48 + i / 10)
section INT
variable {σ σ' : qS} {j cap NB : Nat} {T : List Int32}
theorem Dig.of (h : qCo σ) : Dig σ := by
  obtain ⟨a1, a2⟩ := h.2 0 (by decide)
  obtain ⟨b1, b2⟩ := h.2 1 (by decide)
  refine ⟨⟨?_, fun i hi => ?_⟩, ?_, fun i hi => ?_⟩
  · unfold qln; rw [a1, nI_clamp (by decide)]
  · rw [a2 i hi]; rfl
  · unfold qln; rw [b1, nI_clamp (by decide)]
  · rw [b2 i hi]; rfl
theorem Dig.put (h : Dig σ) (i : Nat) (v : Int32) : Dig (qu σ 63 j i v) := by
  unfold Dig
  rw [qu_other σ (show ¬ (46 = 63 ∧ 0 = j) by simp), qu_other σ (show ¬ (46 = 63 ∧ 1 = j) by simp)]
  exact h
theorem n_pre {e : Nat} (h : 1 ≤ e) : nI e + (-1 : Int32) = nI (e - 1) := by
  rw [n_dec]
  have h2 := nI_pred (e - 1)
  rw [show e - 1 + 1 = e by omega] at h2
  exact h2
theorem vpn_key : ∀ n : Fin 127, vp_nar .byte (nI n) = nI n := by decide +kernel
theorem vpn {n : Nat} (h : n ≤ 126) : vp_nar .byte (nI n) = nI n := vpn_key ⟨n, by omega⟩
theorem sz_key : ∀ n : Fin 200, (-(nI n) ≤ (-10 : Int32) ↔ 10 ≤ n.val) ∧ (-(nI n) ≤ (10 : Int32) * (-10 : Int32) ↔ 100 ≤ n.val) ∧ ¬ -(nI n) ≤ (10 : Int32) * ((10 : Int32) * (-10 : Int32)) := by decide +kernel
def dsz (n : Nat) : Nat := if 100 ≤ n then 3 else if 10 ≤ n then 2 else 1
theorem dgs_sz (n : Nat) : (dgs n).length = dsz n := by
  unfold dgs dsz
  by_cases h : 100 ≤ n
  · rw [if_pos h, if_pos (show 10 ≤ n by omega), if_pos h]; rfl
  · by_cases h2 : 10 ≤ n
    · rw [if_neg h, if_pos h2, if_neg h, if_pos h2]; rfl
    · rw [if_neg h, if_neg h2, if_neg h, if_neg h2]; rfl
theorem i_size {n : Nat} (hn : n < 200) : f_J6_stringSize_0f7a4 (nI n) σ = qan (nI (dsz n)) σ := by
  obtain ⟨m, hm⟩ : ∃ m, qFU = m + 3 := ⟨qFU - 3, by unfold qFU; omega⟩
  obtain ⟨k1, k2, k3⟩ := sz_key ⟨n, hn⟩
  dsimp only at k1 k2 k3
  unfold f_J6_stringSize_0f7a4 dsz
  rw [if_neg (n_ge0 (by omega)), hm]
  simp only [l_J6_stringSize_0f7a4_16, b_J6_stringSize_0f7a4_16]
  rw [if_neg (by decide)]
  by_cases h1 : 10 ≤ n
  · rw [if_pos (k1.mpr h1), if_neg (by decide)]
    by_cases h2 : 100 ≤ n
    · rw [if_pos (k2.mpr h2), if_neg (by decide), if_neg k3, if_pos h2]; rfl
    · rw [if_neg (fun h => h2 (k2.mp h)), if_neg h2, if_pos h1]; rfl
  · rw [if_neg (fun h => h1 (k1.mp h)), if_neg (show ¬ 100 ≤ n by omega), if_neg h1]; rfl
theorem tl_key : ∀ d : Fin 100, (-100 : Int32) < -(nI d) ∧ ((-9 : Int32) ≤ -(nI d) ↔ d.val < 10) := by decide +kernel
def tlw (σ : qS) (j d e : Nat) : qS := if 10 ≤ d then qu (qu σ 63 j (e - 1) (nI (48 + d % 10))) 63 j (e - 2) (nI (48 + d / 10)) else qu σ 63 j (e - 1) (nI (48 + d % 10))
theorem i_tail (D : Dig σ) (hl : qln (σ 63 j) = cap) (hcap : cap ≤ 2000) {d e m : Nat} (hd : d < 100) (he : (if 10 ≤ d then 2 else 1) ≤ e) (hc : e ≤ cap) : ∃ r, l_J6_getChars_ba4f3_22 j (m + 1) (-(nI d)) (nI e) 0 σ = qan r (tlw σ j d e) := by
  obtain ⟨k1, k2⟩ := tl_key ⟨d, hd⟩
  dsimp only at k1 k2
  have he1 : 1 ≤ e := by
    by_cases h : 10 ≤ d
    · rw [if_pos h] at he; omega
    · rw [if_neg h] at he; omega
  simp only [l_J6_getChars_ba4f3_22, b_J6_getChars_ba4f3_22]
  rw [if_pos k1, Int32.neg_neg, if_pos (by rw [D.1.1]; exact n_in hd (by decide)), n_pre he1, if_pos (by rw [hl]; exact n_in (by omega) (by omega)), qlet_eq, nI_clamp (show e - 1 < 2 ^ 31 by omega), nI_clamp (show d < 2 ^ 31 by omega), D.1.2 d hd, vpn (by omega)]
  have D1 := D.put (j := j) (e - 1) (nI (48 + d % 10))
  have hl1 : qln (qu σ 63 j (e - 1) (nI (48 + d % 10)) 63 j) = cap := by
    have hq : qLI = 2147483648 := rfl
    unfold qln
    rw [qu_at, if_neg (by omega)]
    exact hl
  unfold tlw
  by_cases h : 10 ≤ d
  · rw [if_pos h] at he
    rw [if_neg (fun h2 => by have := k2.mp h2; omega), if_pos (by rw [D1.2.1]; exact n_in hd (by decide)), n_pre (show 1 ≤ e - 1 by omega), if_pos (by rw [hl1]; exact n_in (by omega) (by omega)), qlet_eq, if_pos trivial, nI_clamp (show e - 1 - 1 < 2 ^ 31 by omega), D1.2.2 d hd, vpn (by omega), if_pos h, show e - 1 - 1 = e - 2 by omega]
    exact ⟨_, rfl⟩
  · rw [if_pos (k2.mpr (by omega)), if_pos trivial, if_neg h]
    exact ⟨_, rfl⟩
theorem big_key : ∀ d : Fin 100, ¬ (-100 : Int32) < -(nI (100 + d.val)) ∧ -(nI (100 + d.val)) / (100 : Int32) = -(nI 1) ∧ (-(nI (100 + d.val)) / (100 : Int32)) * (100 : Int32) - -(nI (100 + d.val)) = nI d := by decide +kernel
/-- a number's signs, written before place e -/
def chw (σ : qS) (j n e : Nat) : qS := if 100 ≤ n then qu (qu (qu σ 63 j (e - 1) (nI (48 + n % 10))) 63 j (e - 2) (nI (48 + n / 10 % 10))) 63 j (e - 3) (nI (48 + n / 100 % 10)) else tlw σ j n e
theorem i_chars (D : Dig σ) (hl : qln (σ 63 j) = cap) (hcap : cap ≤ 2000) {n e : Nat} (hn : n < 200) (he : dsz n ≤ e) (hc : e ≤ cap) : ∃ r, f_J6_getChars_ba4f3 (nI n) (nI e) j σ = qan r (chw σ j n e) := by
  obtain ⟨m, hm⟩ : ∃ m, qFU = m + 2 := ⟨qFU - 2, by unfold qFU; omega⟩
  unfold f_J6_getChars_ba4f3 chw
  rw [if_pos (nI_pos' (by omega)), if_pos rfl, hm]
  unfold dsz at he
  by_cases h : 100 ≤ n
  · rw [if_pos h] at he
    obtain ⟨d, rfl⟩ : ∃ d, n = 100 + d := ⟨n - 100, by omega⟩
    have hd : d < 100 := by omega
    obtain ⟨k1, k2, k3⟩ := big_key ⟨d, hd⟩
    dsimp only at k1 k2 k3
    have D1 := D.put (j := j) (e - 1) (nI (48 + d % 10))
    have D2 := D1.put (j := j) (e - 2) (nI (48 + d / 10))
    have hq : qLI = 2147483648 := rfl
    have hl1 : qln (qu σ 63 j (e - 1) (nI (48 + d % 10)) 63 j) = cap := by
      unfold qln
      rw [qu_at, if_neg (by omega)]
      exact hl
    have hl2 : qln (qu (qu σ 63 j (e - 1) (nI (48 + d % 10))) 63 j (e - 2) (nI (48 + d / 10)) 63 j) = cap := by
      unfold qln
      rw [qu_at, if_neg (by omega)]
      exact hl1
    obtain ⟨r, hr⟩ := i_tail (m := m) (d := 1) (e := e - 2) D2 hl2 hcap (by decide) (by rw [if_neg (by decide)]; omega) (by omega)
    refine ⟨r, ?_⟩
    rw [l_J6_getChars_ba4f3_22]
    unfold b_J6_getChars_ba4f3_22
    rw [if_neg k1, k3, k2, if_pos (by rw [D.1.1]; exact n_in hd (by decide)), n_pre (show 1 ≤ e by omega), if_pos (by rw [hl]; exact n_in (by omega) (by omega)), qlet_eq, nI_clamp (show e - 1 < 2 ^ 31 by omega), nI_clamp (show d < 2 ^ 31 by omega), D.1.2 d hd, vpn (by omega), if_pos (by rw [D1.2.1]; exact n_in hd (by decide)), n_pre (show 1 ≤ e - 1 by omega), show e - 1 - 1 = e - 2 by omega, if_pos (by rw [hl1]; exact n_in (by omega) (by omega)), qlet_eq, nI_clamp (show e - 2 < 2 ^ 31 by omega), D1.2.2 d hd, vpn (by omega), hr]
    unfold tlw
    rw [if_neg (by decide), if_pos (show 100 ≤ 100 + d by omega), show (100 + d) % 10 = d % 10 by omega, show (100 + d) / 10 % 10 = d / 10 by omega, show (100 + d) / 100 % 10 = 1 % 10 by omega, show e - 2 - 1 = e - 3 by omega]
  · rw [if_neg h] at he
    rw [if_neg h]
    exact i_tail D hl hcap (by omega) he hc
end INT
