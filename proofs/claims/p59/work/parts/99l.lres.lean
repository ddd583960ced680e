/-! A RESOURCE, as the law checks it -/
section RE
variable {P : qP} {hs : List qP} {σ : qS}
theorem fcmp_self {x : UInt32} (h : Jvm.FP.Core.fIsNaN x = false) : Jvm.FP.fcmp x x = some .eq := by
  rw [Jvm.FP.Core.notNaN_iff32] at h
  show Jvm.FP.Core.order (Jvm.FP.Core.val32 x) (Jvm.FP.Core.val32 x) = _
  cases e : Jvm.FP.Core.val32 x with
  | nan => exact absurd e h
  | inf s => cases s <;> rfl
  | fin s c q => simp [Jvm.FP.Core.order]
def TSU (σ : qS) (P : qP) (hs : List qP) : Prop := TS σ P hs ∧ Use σ (pUf P)
theorem TSU.qt {σ' : qS} (h : TSU σ P hs) (q : Qt σ σ') (I : InvB σ' P hs) (S : PlanSt P σ') : TSU σ' P hs := ⟨h.1.qt q I S, fun r hr => by
  rw [q.wk 50 (4 + r) (by omega)]
  exact h.2 r hr⟩
theorem l_366 (h : TSU σ P hs) {r : Nat} (hr : r < 3) {rk : Int32 → Int32 → Int32 → Int32 → Int32 → Int32 → qS → Option qO} {v3 v6 : Int32} : ∃ σ', j_L_areLevelsRight_366 rk v3 (nI (pn P)) (nI (pend P (pn P))) v6 (nI r) (pwork P (nI r)) 1 σ = rk v3 (nI (pn P)) (nI (pend P (pn P))) v6 1 (nI (r + 1)) σ' ∧ TSU σ' P hs := by
  have W := h.1.1.1.1
  have hn := W.1
  unfold j_L_areLevelsRight_366
  rw [if_neg (by decide), nI_1]
  by_cases h0 : pn P = 0
  · rw [if_pos (by rw [h0]; rfl)]
    exact ⟨σ, rfl, h⟩
  · obtain ⟨σ1, e1, Q1, I1, S1, hnn⟩ := m_util h.1.1.1 h.1.1.2 (by omega) hr
    rw [if_neg (fun h2 => by rw [show (0 : Int32) = nI 0 from rfl, n_eq (by omega) (by omega)] at h2; omega), e1, qb_F, m_limit I1 hr, qb_I, if_pos (qn32_of hnn), fcmp_self hnn, if_pos (by rfl)]
    exact ⟨σ1, rfl, h.qt Q1 I1 S1⟩
theorem l_res (h : TSU σ P hs) {r day kt m : Nat} (hr : r < 3) (hd : day < 200) (hkt : kt = 42 ∨ kt = 60) (X : TX σ kt 0 (utx P r (pend P (pn P)))) {rk : Int32 → Int32 → Int32 → Int32 → Int32 → Int32 → qS → Option qO} {v6 : Int32} :
    ∃ σ', l_L_areLevelsRight_195 rk (m + 1) (nI day) (nI (pn P)) (nI (pend P (pn P))) v6 1 (nI r) (pkf P r (pend P (pn P))) (nI (gsum (pUf P r) (pend P (pn P)))) kt (nI (pend P (pn P))) σ = rk (nI day) (nI (pn P)) (nI (pend P (pn P))) v6 1 (nI (r + 1)) σ' ∧ TSU σ' P hs := by
  have W := h.1.1.1.1
  have hn := W.1
  obtain ⟨σ1, e1, Q1, I1, S1⟩ := m_usage h.1.1.1 h.1.1.2 hr (show day < 2 ^ 31 by omega)
  have h1 := h.qt Q1 I1 S1
  obtain ⟨σ2, e2, Q2, I2, S2⟩ := m_byTasks h1.1.1.1 h1.1.1.2 hr (show day < 2 ^ 31 by omega)
  have h2 := h1.qt Q2 I2 S2
  obtain ⟨σ3, e3, Q3, I3, S3⟩ := m_peak h2.1.1.1 h2.1.1.2 hr
  have h3 := h2.qt Q3 I3 S3
  obtain ⟨σ4, e4, Q4, I4, S4⟩ := m_days h3.1.1.1 h3.1.1.2 hr
  have h4 := h3.qt Q4 I4 S4
  obtain ⟨σ5, e5, Q5, I5, S5, O5⟩ := m_renderUsage h4.1.1.1 h4.1.1.2 hr
  have h5 := h4.qt Q5 I5 S5
  have QQ := (((Q1.trans Q2).trans Q3).trans Q4).trans Q5
  have X5 : TX σ5 kt 0 (utx P r (pend P (pn P))) := X.tr (QQ.wk kt 0 (by omega)) (QQ.wk (qvk kt) 0 (by rcases hkt with rfl | rfl <;> simp [qvk]))
  obtain ⟨σ6, e6, h6⟩ := l_366 (rk := rk) (v3 := nI day) (v6 := v6) h5 hr
  refine ⟨σ6, ?_, h6⟩
  rw [l_L_areLevelsRight_195]
  unfold b_L_areLevelsRight_195
  rw [if_pos (Int32.le_refl _), if_neg (by decide), e1, qb_I, if_pos (n_in hr (by decide)), nI_clamp (show r < 2 ^ 31 by omega), if_pos (by rw [h1.2.len hr]; exact n_in (by omega) (by decide)), nI_clamp (show day < 2 ^ 31 by omega), (h1.2 r hr).2 day hd, if_pos rfl, e2, qb_I, if_pos (n_in hr (by decide)), if_pos (by rw [h2.2.len hr]; exact n_in (by omega) (by decide)), (h2.2 r hr).2 day hd, if_pos rfl, e3, qb_I, if_pos (pk_end W r).symm, m_workload h3.1.1.1 hr, qb_I, sum_end W hr, if_pos rfl, e4, qb_I, if_pos rfl, e5, qb_I, l_line X5 O5, qb_I, if_neg (by decide)]
  exact e6
end RE
