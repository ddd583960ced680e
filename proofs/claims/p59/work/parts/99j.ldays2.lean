/-! ALL THE DAYS of a resource -/
section DZ
variable {P : qP} {hs : List qP}
def pkf (P : qP) (r i : Nat) : Int32 := fo (fun d a => qmax a (nI (pUf P r d))) i 0 0
theorem pkf_s (P : qP) (r i : Nat) : pkf P r (i + 1) = qmax (pkf P r i) (nI (pUf P r i)) := by
  unfold pkf
  rw [fo_last, Nat.zero_add]
theorem l_days {r day : Nat} (hr : r < 3) {rk : Int32 → Int32 → Int32 → Int32 → Int32 → Int32 → qS → Option qO} {v4 v6 : Int32} (hE : pend P (pn P) ≤ 138) : ∀ (e i m kt : Nat) (σ : qS), i + e = pend P (pn P) → m + i = 139 → (kt = 42 ∨ kt = 60) → TS σ P hs → Use σ (pUf P) → TX σ kt 0 (utx P r i) →
    ∃ (σ' : qS) (kt' m' : Nat), l_L_areLevelsRight_195 rk m (nI day) v4 (nI (pend P (pn P))) v6 1 (nI r) (pkf P r i) (nI (gsum (pUf P r) i)) kt (nI i) σ = l_L_areLevelsRight_195 rk (m' + 1) (nI day) v4 (nI (pend P (pn P))) v6 1 (nI r) (pkf P r (pend P (pn P))) (nI (gsum (pUf P r) (pend P (pn P)))) kt' (nI (pend P (pn P))) σ' ∧ (kt' = 42 ∨ kt' = 60) ∧ TS σ' P hs ∧ Use σ' (pUf P) ∧ TX σ' kt' 0 (utx P r (pend P (pn P))) := by
  intro e
  induction e with
  | zero =>
    intro i m kt σ hi hm hkt h U X
    obtain ⟨m, rfl⟩ : ∃ m', m = m' + 1 := ⟨m - 1, by omega⟩
    have hi : i = pend P (pn P) := by omega
    subst hi
    exact ⟨σ, kt, m, rfl, hkt, h, U, X⟩
  | succ e ih =>
    intro i m kt σ hi hm hkt h U X
    obtain ⟨m, rfl⟩ : ∃ m', m = m' + 1 := ⟨m - 1, by omega⟩
    have hmi : 138 - m = i := by omega
    obtain ⟨σ1, e1, h1, U1, X1⟩ := l_day (rk := rk) (rk2 := l_L_areLevelsRight_195 rk m) (v3 := nI day) (v4 := v4) (v5 := nI (pend P (pn P))) (v6 := v6) (v7 := 1) (v9 := pkf P r (i + 1)) (v10 := nI (gsum (pUf P r) (i + 1))) h U hr (show i < 138 by omega) hkt X
    obtain ⟨σ2, kt2, m2, e2, k2, h2, U2, X2⟩ := ih (i + 1) m 60 σ1 (by omega) (by omega) (Or.inr rfl) h1 U1 X1
    refine ⟨σ2, kt2, m2, ?_, k2, h2, U2, X2⟩
    rw [← e2, ← e1]
    have hq : qin (nI i) (qln (σ 50 (4 + r))) := by rw [U.len hr]; exact n_in (by omega) (by decide)
    rw [l_L_areLevelsRight_195]
    unfold b_L_areLevelsRight_195
    rw [if_neg (nI_ge (by omega) (by omega)), if_pos (n_in hr (by decide)), nI_clamp (show r < 2 ^ 31 by omega), if_pos hq, if_pos (n_in hr (by decide)), if_pos hq, nI_clamp (show i < 2 ^ 31 by omega), (U r hr).2 i (by omega), ← pkf_s, nI_add, ← gsum_last (pUf P r) i, hmi]
end DZ
