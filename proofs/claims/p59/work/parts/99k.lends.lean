/-! beyond the last day nothing is used -/
section EN
variable {P : qP}
theorem pUf_end (W : PW P) {r d : Nat} (hd : pend P (pn P) ≤ d) : pUf P r d = 0 := pU_none (B := pend P (pn P)) (fun u hu => (pend_le W (pn P) (Nat.le_refl _) _).mp (Nat.le_refl _) u hu) hd
theorem gsum_tail {f : Nat → Nat} {n : Nat} (h : ∀ i, n ≤ i → f i = 0) : ∀ k, n ≤ k → gsum f k = gsum f n
  | 0, hk => by rw [show n = 0 by omega]
  | k + 1, hk => by
    rcases Nat.lt_or_ge k n with h2 | h2
    · rw [show n = k + 1 by omega]
    · rw [gsum_last, h k h2, gsum_tail h k h2, Nat.add_zero]
theorem sum_end (W : PW P) {r : Nat} (hr : r < 3) : nI (gsum (pUf P r) (pend P (pn P))) = pwork P (nI r) := by
  rw [← gsum_tail (fun i hi => pUf_end W hi) 138 (pend_bd W), pdays W, pwork_n W hr]
theorem pkf_ge (P : qP) (r : Nat) : ∀ i, (0 : Int32) ≤ pkf P r i
  | 0 => Int32.le_refl _
  | i + 1 => by
    rw [pkf_s]
    have h1 := pkf_ge P r i
    have h2 := qmax_l (pkf P r i) (nI (pUf P r i))
    rw [i_le] at h1 h2 ⊢
    omega
theorem fo_zero {f : Nat → Nat} : ∀ (d i : Nat) (a : Int32), 0 ≤ a → (∀ u, i ≤ u → f u = 0) → fo (fun d a => qmax a (nI (f d))) d i a = a
  | 0, _, _, _, _ => rfl
  | d + 1, i, a, ha, h => by
    rw [fo, h i (Nat.le_refl _)]
    have e : qmax a (nI 0) = a := by
      apply i_eq
      rw [i_le, show (0 : Int32).toInt = 0 from rfl] at ha
      rw [i_max, show (nI 0).toInt = 0 from rfl]
      omega
    rw [e]
    exact fo_zero d (i + 1) a ha (fun u hu => h u (by omega))
theorem pk_end (W : PW P) (r : Nat) : pkf P r (pend P (pn P)) = ppk P r := by
  have hE := pend_bd W
  have h := fo_app (g := fun d a => qmax a (nI (pUf P r d))) (pend P (pn P)) (138 - pend P (pn P)) 0 0
  rw [show pend P (pn P) + (138 - pend P (pn P)) = 138 by omega, Nat.zero_add] at h
  have h2 := fo_zero (f := pUf P r) (138 - pend P (pn P)) (pend P (pn P)) (pkf P r (pend P (pn P))) (pkf_ge P r _) (fun u hu => pUf_end W hu)
  exact (h.trans h2).symm
end EN
