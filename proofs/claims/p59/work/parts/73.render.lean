/-! renderTask, renderUsage -/
section QR3
variable {P : qP} {hs : List qP} {sv : qP} {σ σ1 σ3 σ7 : qS}
/-! the needed tasks -/
def ntx (P : qP) (t : Nat) : Nat → Nat → List Int32 → List Int32
  | 0, _, T => T
  | d + 1, u, T => ntx P t d (u + 1) (if ped P t u = true then T ++ [nI 60] ++ dgs u else T)
theorem ntx_len (P : qP) (t : Nat) : ∀ d u T, (ntx P t d u T).length ≤ T.length + 4 * d
  | 0, _, _ => Nat.le_refl _
  | d + 1, u, T => by
    have h := ntx_len P t d (u + 1) (if ped P t u = true then T ++ [nI 60] ++ dgs u else T)
    have g := dgs_len u
    unfold ntx
    by_cases e : ped P t u = true
    · rw [if_pos e] at h ⊢
      simp only [List.length_append, List.length_cons, List.length_nil] at h
      omega
    · rw [if_neg e] at h ⊢
      omega
theorem ntx_ok (P : qP) (t : Nat) : ∀ d u T, okt T → okt (ntx P t d u T)
  | 0, _, _, h => h
  | d + 1, u, T, h => by
    unfold ntx
    refine ntx_ok P t d (u + 1) _ ?_
    split
    · exact okt_app (okt_app h (okt_one (by decide))) (okt_dgs u)
    · exact h
theorem c_nt_loop (W : PW P) {t : Nat} (ht : t < pn P) : ∀ (d i m : Nat) (T : List Int32) (σ : qS), i + d = pn P → d < m → Rep σ 0 P → CT σ T → T.length + 4 * d ≤ 414 → ∃ σ', l_X7_renderTask_149 m (nI t) (nI i) σ = qan (nI (ntx P t d i T).length) σ' ∧ CT σ' (ntx P t d i T) ∧ qsm [23, 24] σ σ' := by
  have hn := W.1
  intro d
  induction d with
  | zero =>
    intro i m T σ hi hm H C hT
    obtain ⟨m, rfl⟩ : ∃ m', m = m' + 1 := ⟨m - 1, by omega⟩
    refine ⟨σ, ?_, C, qsm.refl _ σ⟩
    simp only [l_X7_renderTask_149, b_X7_renderTask_149]
    rw [if_pos (by rw [H.1]; exact nI_le (by omega) (by omega)), C.1]
    rfl
  | succ d ih =>
    intro i m T σ hi hm H C hT
    obtain ⟨m, rfl⟩ : ∃ m', m = m' + 1 := ⟨m - 1, by omega⟩
    have g := dgs_len i
    have hx : ntx P t (d + 1) i T = ntx P t d (i + 1) (if ped P t i = true then T ++ [nI 60] ++ dgs i else T) := rfl
    rw [l_X7_renderTask_149]
    unfold b_X7_renderTask_149
    rw [if_neg (by rw [H.1]; exact nI_ge (by omega) (by omega)), c_linked H W ht (by omega), qb_I, nI_1, hx]
    by_cases e : ped P t i = true
    · obtain ⟨σ1, e1, C1, q1⟩ := c_wr C (by omega) (show 60 ≤ 126 by decide)
      obtain ⟨σ2, e2, C2, q2⟩ := c_wn C1 (k := i) (by simp only [List.length_append, List.length_cons, List.length_nil]; omega) (by omega)
      obtain ⟨σ3, e3, C3, q3⟩ := ih (i + 1) m _ σ2 (by omega) (by omega) ((H.same q1 (by simp)).same q2 (by simp)) C2 (by simp only [List.length_append, List.length_cons, List.length_nil]; omega)
      rw [e, if_neg (by decide), if_pos rfl]
      refine ⟨σ3, ?_, C3, (q1.trans q2).trans q3⟩
      show qbind (f_X3_write (nI 60) σ) _ _ = _
      rw [e1, qb_V, e2, qb_V]
      exact e3
    · rw [if_neg e]
      have e : ped P t i = false := by simpa using e
      rw [e, if_pos (by rfl)]
      exact ih (i + 1) m T σ (by omega) (by omega) H C (by omega)
/-! a task -/
def tt1 (P : qP) (t : Nat) : List Int32 := [] ++ dgs t ++ [nI 58] ++ dgs (pdn P t) ++ [nI 120] ++ dgs (pmn P t) ++ [nI 114] ++ dgs (prn P t) ++ [nI 64] ++ dgs (pV P t)
def tt2 (P : qP) (t : Nat) : List Int32 := if pL P t = pE P t then tt1 P t ++ [nI 33] else tt1 P t
theorem tt1_len (P : qP) (t : Nat) : (tt1 P t).length ≤ 19 := by
  have g1 := dgs_len t
  have g2 := dgs_len (pdn P t)
  have g3 := dgs_len (pmn P t)
  have g4 := dgs_len (prn P t)
  have g5 := dgs_len (pV P t)
  unfold tt1
  simp only [List.length_append, List.length_cons, List.length_nil]
  omega
theorem tt2_len (P : qP) (t : Nat) : (tt2 P t).length ≤ 20 := by
  have := tt1_len P t
  unfold tt2
  split
  · rw [List.length_append]; exact Nat.succ_le_succ this
  · omega
theorem tt2_ok (P : qP) (t : Nat) : okt (tt2 P t) := by
  have h : okt (tt1 P t) := by
    unfold tt1
    exact okt_app (okt_app (okt_app (okt_app (okt_app (okt_app (okt_app (okt_app (okt_app okt_nil (okt_dgs _)) (okt_one (by decide))) (okt_dgs _)) (okt_one (by decide))) (okt_dgs _)) (okt_one (by decide))) (okt_dgs _)) (okt_one (by decide))) (okt_dgs _)
  unfold tt2
  split
  · exact okt_app h (okt_one (by decide))
  · exact h
theorem c_renderTask (W : PW P) (H : Rep σ1 0 P) (p1 : PlanOK P σ1) {t : Nat} (ht : t < pn P) : ∃ σ', qbind (f_X3_clear σ1) (qvV (fun s3 =>
  qbind (f_X3_writeNumber (nI t) s3) (qvV (fun s4 =>
  qbind (f_X3_write (58 : Int32) s4) (qvV (fun s5 =>
  qbind (f_X7_at 2 0 (nI t) s5) (qvI (fun r1 s6 =>
  qbind (f_X3_writeNumber r1 s6) (qvV (fun s7 =>
  qbind (f_X3_write (120 : Int32) s7) (qvV (fun s8 =>
  qbind (f_X7_at 4 0 (nI t) s8) (qvI (fun r2 s9 =>
  qbind (f_X3_writeNumber r2 s9) (qvV (fun s10 =>
  qbind (f_X3_write (114 : Int32) s10) (qvV (fun s11 =>
  qbind (f_X7_at 3 0 (nI t) s11) (qvI (fun r3 s12 =>
  qbind (f_X3_writeNumber r3 s12) (qvV (fun s13 =>
  qbind (f_X3_write (64 : Int32) s13) (qvV (fun s14 =>
  qbind (f_X7_at 17 0 (nI t) s14) (qvI (fun r4 s15 =>
  qbind (f_X3_writeNumber r4 s15) (qvV (fun s16 =>
  qbind (f_X4_slackOf (nI t) s16) (qvI (fun r5 s17 =>
  (if r5 = 0 then qbind (f_X3_write (33 : Int32) s17) (qvV (fun s18 =>
  l_X7_renderTask_149  qFU (nI t) (0 : Int32) s18)) qE0 else
  l_X7_renderTask_149  qFU (nI t) (0 : Int32) s17))) qE0)) qE0)) qE0)) qE0)) qE0)) qE0)) qE0)) qE0)) qE0)) qE0)) qE0)) qE0)) qE0)) qE0)) qE0 = qan (nI (ntx P t (pn P) 0 (tt2 P t)).length) σ' ∧ CT σ' (ntx P t (pn P) 0 (tt2 P t)) ∧ qsm [23, 24] σ1 σ' := by
  have hn := W.1
  have hv := pV_le W ht
  have g1 := dgs_len t
  have g2 := dgs_len (pdn P t)
  have g3 := dgs_len (pmn P t)
  have g4 := dgs_len (prn P t)
  have g5 := dgs_len (pV P t)
  have b2 := (W.dn ht).2
  have b3 := (W.mn ht).2
  have b4 := (W.rn ht).2
  have q0 : qsm [23, 24] σ1 (qu σ1 23 0 1 0) := (qsm_qu σ1 23 0 1 0).mono (by simp)
  have C0 : CT (qu σ1 23 0 1 0) [] := ⟨by rw [qu_at, if_pos ⟨rfl, rfl, rfl⟩]; rfl, fun i v h => by simp at h⟩
  obtain ⟨s1, e1, C1, r1⟩ := c_wn C0 (k := t) (by simp only [List.length_nil]; omega) (by omega)
  obtain ⟨s2, e2, C2, r2⟩ := c_wr C1 (k := 58) (by simp only [List.length_append, List.length_cons, List.length_nil]; omega) (by decide)
  obtain ⟨s3, e3, C3, r3⟩ := c_wn C2 (k := pdn P t) (by simp only [List.length_append, List.length_cons, List.length_nil]; omega) (by omega)
  obtain ⟨s4, e4, C4, r4⟩ := c_wr C3 (k := 120) (by simp only [List.length_append, List.length_cons, List.length_nil]; omega) (by decide)
  obtain ⟨s5, e5, C5, r5⟩ := c_wn C4 (k := pmn P t) (by simp only [List.length_append, List.length_cons, List.length_nil]; omega) (by omega)
  obtain ⟨s6, e6, C6, r6⟩ := c_wr C5 (k := 114) (by simp only [List.length_append, List.length_cons, List.length_nil]; omega) (by decide)
  obtain ⟨s7, e7, C7, r7⟩ := c_wn C6 (k := prn P t) (by simp only [List.length_append, List.length_cons, List.length_nil]; omega) (by omega)
  obtain ⟨s8, e8, C8, r8⟩ := c_wr C7 (k := 64) (by simp only [List.length_append, List.length_cons, List.length_nil]; omega) (by decide)
  obtain ⟨s9, e9, C9, r9⟩ := c_wn C8 (k := pV P t) (by simp only [List.length_append, List.length_cons, List.length_nil]; omega) (by omega)
  have q2 := (q0.trans r1).trans r2
  have q4 := (q2.trans r3).trans r4
  have q6 := (q4.trans r5).trans r6
  have q8 := (q6.trans r7).trans r8
  have q9 := q8.trans r9
  have C9' : CT s9 (tt1 P t) := C9
  have l1 := tt1_len P t
  have f1 : f_X7_at 2 0 (nI t) s2 = qan (nI (pdn P t)) s2 := by rw [c_dur (H.same q2 (by simp)) W ht, (W.dn ht).1]
  have f2 : f_X7_at 4 0 (nI t) s4 = qan (nI (pmn P t)) s4 := by rw [c_dem (H.same q4 (by simp)) W ht, (W.mn ht).1]
  have f3 : f_X7_at 3 0 (nI t) s6 = qan (nI (prn P t)) s6 := by rw [c_res (H.same q6 (by simp)) W ht, (W.rn ht).1]
  have f4 : f_X7_at 17 0 (nI t) s8 = qan (nI (pV P t)) s8 := by rw [e_at (show t < 12 by omega) (by decide), (p1.same q8 (by simp)).2.2.2.2.2.1.1 t ht (pst_full W ht)]; rfl
  unfold f_X3_clear
  rw [qlet_eq, qb_V, e1, qb_V]
  erw [e2]
  rw [qb_V, f1, qb_I, e3, qb_V]
  erw [e4]
  rw [qb_V, f2, qb_I, e5, qb_V]
  erw [e6]
  rw [qb_V, f3, qb_I, e7, qb_V]
  erw [e8]
  rw [qb_V, f4, qb_I, e9, qb_V, e_slack (p1.same q9 (by simp)) W ht, qb_I]
  have H9 := H.same q9 (by simp)
  unfold tt2
  by_cases hc : pL P t = pE P t
  · rw [if_pos (i_sub0.mpr hc), if_pos hc]
    obtain ⟨s10, e10, C10, r10⟩ := c_wr C9' (k := 33) (by omega) (by decide)
    obtain ⟨s11, e11, C11, r11⟩ := c_nt_loop W ht (pn P) 0 qFU _ s10 (by omega) (by unfold qFU; omega) (H9.same r10 (by simp)) C10 (by simp only [List.length_append, List.length_cons, List.length_nil]; omega)
    refine ⟨s11, ?_, C11, (q9.trans r10).trans r11⟩
    erw [e10]
    exact e11
  · rw [if_neg (fun h => hc (i_sub0.mp h)), if_neg hc]
    obtain ⟨s11, e11, C11, r11⟩ := c_nt_loop W ht (pn P) 0 qFU _ s9 (by omega) (by unfold qFU; omega) H9 C9' (by omega)
    exact ⟨s11, e11, C11, q9.trans r11⟩
/-! the use of a resource -/
def utx (P : qP) (r : Nat) : Nat → List Int32
  | 0 => []
  | d + 1 => if d = 0 then utx P r d ++ dgs (pUf P r d) else utx P r d ++ [nI 44] ++ dgs (pUf P r d)
theorem utx_len (W : PW P) (r : Nat) : ∀ d, (utx P r d).length ≤ 3 * d
  | 0 => Nat.le_refl _
  | d + 1 => by
    have h := utx_len W r d
    have g := dgs_len2 (k := pUf P r d) (by have := pUf_le W (r := r) (d := d); omega)
    unfold utx
    split <;> simp only [List.length_append, List.length_cons, List.length_nil] <;> omega
theorem utx_ok (r : Nat) : ∀ d, okt (utx P r d)
  | 0 => okt_nil
  | d + 1 => by
    unfold utx
    split
    · exact okt_app (utx_ok r d) (okt_dgs _)
    · exact okt_app (okt_app (utx_ok r d) (okt_one (by decide))) (okt_dgs _)
theorem c_ru_loop (W : PW P) {r : Nat} (hr : r < 3) (hE : pend P (pn P) ≤ 138) : ∀ (e i m : Nat) (σ : qS), i + e = pend P (pn P) → e < m → PlanOK P σ → CT σ (utx P r i) → ∃ σ', l_X7_renderUsage_18 m (nI r) (nI i) σ = qan (nI (utx P r (pend P (pn P))).length) σ' ∧ CT σ' (utx P r (pend P (pn P))) ∧ qsm [23, 24] σ σ' := by
  intro e
  induction e with
  | zero =>
    intro i m σ hi hm p1 C
    obtain ⟨m, rfl⟩ : ∃ m', m = m' + 1 := ⟨m - 1, by omega⟩
    have hi : i = pend P (pn P) := by omega
    refine ⟨σ, ?_, hi ▸ C, qsm.refl _ σ⟩
    simp only [l_X7_renderUsage_18, b_X7_renderUsage_18]
    rw [if_pos (by rw [p1.2.2.2.2.2.2.2, hi]; exact Int32.le_refl _), C.1, hi]
  | succ e ih =>
    intro i m σ hi hm p1 C
    obtain ⟨m, rfl⟩ : ∃ m', m = m' + 1 := ⟨m - 1, by omega⟩
    have hl := utx_len W r i
    have hu := pUf_le W (r := r) (d := i)
    have g := dgs_len2 (k := pUf P r i) (by omega)
    have hx : utx P r (i + 1) = if i = 0 then utx P r i ++ dgs (pUf P r i) else utx P r i ++ [nI 44] ++ dgs (pUf P r i) := rfl
    rw [l_X7_renderUsage_18]
    unfold b_X7_renderUsage_18
    rw [if_neg (by rw [p1.2.2.2.2.2.2.2]; exact nI_ge (by omega) (by omega)), nI_1]
    by_cases h0 : i = 0
    · rw [if_pos h0] at hx
      obtain ⟨σ2, e2, C2, q2⟩ := c_wn C (k := pUf P r i) (by omega) (by omega)
      obtain ⟨σ3, e3, C3, q3⟩ := ih (i + 1) m σ2 (by omega) (by omega) (p1.same q2 (by simp)) (by rw [hx]; exact C2)
      refine ⟨σ3, ?_, C3, q2.trans q3⟩
      rw [if_pos (by rw [h0]; decide), c_usedOn W p1 hr (by omega), qb_I, e2, qb_V]
      exact e3
    · rw [if_neg h0] at hx
      obtain ⟨σ1, e1, C1, q1⟩ := c_wr C (k := 44) (by omega) (by decide)
      obtain ⟨σ2, e2, C2, q2⟩ := c_wn C1 (k := pUf P r i) (by simp only [List.length_append, List.length_cons, List.length_nil]; omega) (by omega)
      obtain ⟨σ3, e3, C3, q3⟩ := ih (i + 1) m σ2 (by omega) (by omega) ((p1.same q1 (by simp)).same q2 (by simp)) (by rw [hx]; exact C2)
      refine ⟨σ3, ?_, C3, (q1.trans q2).trans q3⟩
      rw [if_neg (by rw [show (0 : Int32) = nI 0 from rfl, n_le (by omega) (by omega)]; omega)]
      show qbind (f_X3_write (nI 44) σ) _ _ = _
      rw [e1, qb_V, c_usedOn W (p1.same q1 (by simp)) hr (by omega), qb_I, e2, qb_V]
      exact e3
end QR3

