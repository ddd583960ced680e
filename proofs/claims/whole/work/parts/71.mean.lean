/-! the mean slack, the utilization -/
section QM2
variable {P : qP} {hs : List qP} {sv : qP} {σ : qS}
/-- a question's case whose answer is a double -/
def CaseDD (w : qS → Option qO) (q : qS → Option qO) (σ : qS) : Prop := ∃ (k : Nat) (σ1 : qS) (x : UInt64) (σ2 : qS), k < 9 ∧ w σ = qan (nI k) σ1 ∧ q σ1 = some (.inl (some (.inl (.double x))), σ2) ∧ σ2 26 0 17 = nI k ∧ (k = 0 → qdb (σ2 39 0 0) (σ2 39 0 1) = x ∧ Jvm.FP.Core.dIsNaN x = false) ∧ Inv σ2
def CaseDF (w : qS → Option qO) (q : qS → Option qO) (σ : qS) : Prop := ∃ (k : Nat) (σ1 : qS) (y : UInt32) (σ2 : qS), k < 9 ∧ w σ = qan (nI k) σ1 ∧ q σ1 = some (.inl (some (.inl (.float y))), σ2) ∧ σ2 26 0 17 = nI k ∧ (k = 0 → qdb (σ2 39 0 0) (σ2 39 0 1) = FP.f2d y ∧ Jvm.FP.Core.fIsNaN y = false) ∧ Inv σ2
theorem qsd_at (σ : qS) (x : UInt64) : qdb (qsd σ x 39 0 0) (qsd σ x 39 0 1) = x := by
  rw [show qsd σ x 39 0 0 = qhi x by rw [qsd, qu_at, if_neg (by decide), qu_at, if_pos (by decide)], show qsd σ x 39 0 1 = qlo x by rw [qsd, qu_at, if_pos (by decide)], qdb_hl]
theorem Qt.sd (σ : qS) (x : UInt64) : Qt σ (qsd σ x) := (Qt.of (qsm_qu σ 39 0 0 (qhi x)) (by simp)).trans (Qt.of (qsm_qu _ 39 0 1 (qlo x)) (by simp))
theorem PlanSt.sd {σ1 : qS} (S : PlanSt P σ1) (x : UInt64) : PlanSt P (qsd σ1 x) := by
  have q : qsm [39] σ1 (qsd σ1 x) := (qsm_qu σ1 39 0 0 (qhi x)).trans (qsm_qu _ 39 0 1 (qlo x))
  unfold PlanSt
  rw [q 0 0 (by simp)]
  exact S.elim Or.inl (fun h => Or.inr ⟨h.1, h.2.same q (by simp)⟩)
theorem qb_D {x : UInt64} {s : qS} {k : UInt64 → qS → Option qO} {ke : String → qS → Option qO} : qbind (some (.inl (some (.inl (.double x))), s)) (qvD k) ke = k x s := rfl
theorem qb_F {x : UInt32} {s : qS} {k : UInt32 → qS → Option qO} {ke : String → qS → Option qO} : qbind (some (.inl (some (.inl (.float x))), s)) (qvF k) ke = k x s := rfl
def pslk (P : qP) (d i : Nat) (a : Int32) : Int32 := fo (fun t a => a + (pL P t - pE P t)) d i a
theorem c_mean_loop (W : PW P) (p1 : PlanOK P σ) (h0 : 0 < pn P) : ∀ (d i m : Nat) (a : Int32), i + d = pn P → d < m → l_X7_meanSlack_32 m (nI (pn P)) a (nI i) σ = some (.inl (some (.inl (.double (FP.ddiv (FP.i2d (pslk P d i a)) (FP.i2d (nI (pn P))))))), σ) := by
  have hn := W.1
  intro d
  induction d with
  | zero =>
    intro i m a hi hm
    obtain ⟨m, rfl⟩ : ∃ m', m = m' + 1 := ⟨m - 1, by omega⟩
    simp only [l_X7_meanSlack_32, b_X7_meanSlack_32]
    rw [if_pos (nI_le (by omega) (by omega)), if_pos (qn64_div a (fun h => by rw [show (0 : Int32) = nI 0 from rfl, n_eq (by omega) (by omega)] at h; omega))]
    rfl
  | succ d ih =>
    intro i m a hi hm
    obtain ⟨m, rfl⟩ : ∃ m', m = m' + 1 := ⟨m - 1, by omega⟩
    simp only [l_X7_meanSlack_32, b_X7_meanSlack_32]
    rw [if_neg (nI_ge (by omega) (by omega)), e_slack p1 W (by omega), qb_I, nI_1]
    exact ih (i + 1) m _ (by omega) (by omega)
theorem r_mean_loop (W : PW P) (H : RepR σ 27 0 P) (h31 : ∀ t, t < pn P → σ 31 0 t = pE P t) (h32 : ∀ t, t < pn P → σ 32 0 t = pL P t) : ∀ (d i m : Nat) (a : Int32), i + d = pn P → d < m → l_X8_meanSlack_8 m a (nI i) σ = some (.inl (some (.inl (.double (if pn P = 0 then 0 else FP.ddiv (FP.i2d (pslk P d i a)) (FP.i2d (nI (pn P))))))), qu σ 26 0 17 (if pn P = 0 then 1 else 0)) := by
  have hn := W.1
  intro d
  induction d with
  | zero =>
    intro i m a hi hm
    obtain ⟨m, rfl⟩ : ∃ m', m = m' + 1 := ⟨m - 1, by omega⟩
    simp only [l_X8_meanSlack_8, b_X8_meanSlack_8]
    rw [if_pos (by rw [H.1]; exact nI_le (by omega) (by omega)), show σ 27 0 0 = nI (pn P) from H.1]
    by_cases h : pn P = 0
    · rw [if_pos h, if_pos h, if_pos (by rw [h]; decide)]
      show qbind (f_X8_goes (qb1 false) σ) _ _ = _
      rw [r_goes, qb_I, if_pos (by decide)]
      rfl
    · have hz : ¬ nI (pn P) = 0 := fun h2 => by rw [show (0 : Int32) = nI 0 from rfl, n_eq (by omega) (by omega)] at h2; omega
      rw [if_neg h, if_neg h, if_neg (by rw [show (0 : Int32) = nI 0 from rfl, n_le (by omega) (by omega)]; omega)]
      show qbind (f_X8_goes (qb1 true) σ) _ _ = _
      rw [r_goes, qb_I, if_neg (by decide)]
      have e27 : (qu σ 26 0 17 (nI (thrc true true true))) 27 0 0 = nI (pn P) := by rw [qu_at, if_neg (by decide)]; exact H.1
      rw [e27, if_pos (qn64_div a hz)]
      rfl
  | succ d ih =>
    intro i m a hi hm
    obtain ⟨m, rfl⟩ : ∃ m', m = m' + 1 := ⟨m - 1, by omega⟩
    have hq : qin (nI i) 12 := n_in (by omega) (by decide)
    simp only [l_X8_meanSlack_8, b_X8_meanSlack_8]
    rw [if_neg (by rw [H.1]; exact nI_ge (by omega) (by omega)), if_pos hq, if_pos hq, nI_clamp (by omega), h31 i (by omega), h32 i (by omega), nI_1]
    exact ih (i + 1) m _ (by omega) (by omega)
theorem k_meanSlack (h : Inv σ) : CaseDD f_L_meanSlack f_X8_meanSlack σ := by
  obtain ⟨P, hs, sv, I, S⟩ := h
  have W := I.1
  have H := I.2.1
  have hn := W.1
  by_cases h0 : pn P = 0
  · obtain ⟨σ2, e2, q2, a2, b2⟩ := r_starts W I.2.2.1
    have R2 := I.2.2.1.same q2 (by simp)
    have l3 := r_mean_loop W R2 a2 b2 (pn P) 0 qFU 0 (by omega) (by unfold qFU; omega)
    rw [if_pos h0, if_pos h0] at l3
    have Q := (Qr.of q2 (by simp)).trans (Qr.thr σ2 1)
    exact ⟨1, σ, 0, _, by decide, by unfold f_L_meanSlack f_X7_meanSlack; rw [H.1, h0, if_pos (by decide)]; rfl, by unfold f_X8_meanSlack; rw [e2, qb_V]; exact l3, thr_at _ _, fun h => absurd h (by decide), P, hs, sv, I.qt Q.qt, S.qr Q⟩
  · have hz : ¬ nI (pn P) = 0 := fun h2 => by rw [show (0 : Int32) = nI 0 from rfl, n_eq (by omega) (by omega)] at h2; omega
    obtain ⟨σ1, c1, q1, I1, s8, p1⟩ := c_plan I S
    obtain ⟨X, hX⟩ : ∃ X, X = FP.ddiv (FP.i2d (pslk P (pn P) 0 0)) (FP.i2d (nI (pn P))) := ⟨_, rfl⟩
    have c2 := c_mean_loop W p1 (by omega) (pn P) 0 qFU 0 (by omega) (by unfold qFU; omega)
    rw [← hX] at c2
    have I2 := I1.qt (Qt.sd σ1 X)
    have S2 : PlanSt P (qsd σ1 X) := PlanSt.sd (Or.inr ⟨s8, p1⟩) X
    obtain ⟨σ2, e2, q2, a2, b2⟩ := r_starts W I2.2.2.1
    have R2 := I2.2.2.1.same q2 (by simp)
    have l3 := r_mean_loop W R2 a2 b2 (pn P) 0 qFU 0 (by omega) (by unfold qFU; omega)
    rw [if_neg h0, if_neg h0, ← hX] at l3
    have Q := (Qr.of q2 (by simp)).trans (Qr.thr σ2 0)
    refine ⟨0, qsd σ1 X, X, _, by decide, ?_, by unfold f_X8_meanSlack; rw [e2, qb_V]; exact l3, thr_at _ _, fun _ => ⟨?_, ?_⟩, P, hs, sv, I2.qt Q.qt, S2.qr Q⟩
    · unfold f_L_meanSlack f_X7_meanSlack
      rw [H.1, if_neg hz, c1, qb_P]
      erw [c2]
      rfl
    · show qdb (qu σ2 26 0 17 (0 : Int32) 39 0 0) (qu σ2 26 0 17 (0 : Int32) 39 0 1) = X
      rw [Q.1 39 0 (by simp)]
      exact qsd_at σ1 X
    · rw [hX]
      exact Jvm.FP.Core.ddiv_out (d_nn (Jvm.FP.Core.i2d_fin _)) (Jvm.FP.Core.i2d_fin _) (d_zero hz)
theorem pend_pos (W : PW P) (h0 : 0 < pn P) : 0 < pend P (pn P) ∧ pend P (pn P) ≤ 138 := by
  have hn := W.1
  constructor
  · have h1 := (pend_le W (pn P) (Nat.le_refl _) (pend P (pn P))).mp (Nat.le_refl _) 0 (pst_full W h0)
    have h2 := (W.dn h0).2.1
    omega
  · rw [pend_le W (pn P) (Nat.le_refl _)]
    intro u hu
    have := ((pst_spec W (pn P) (Nat.le_refl _)).2 u hu).2.1
    omega
theorem k_utilization (a : Int32) (h : Inv σ) : CaseDF (f_L_utilization a) (f_X8_utilization a) σ := by
  obtain ⟨P, hs, sv, I, S⟩ := h
  have W := I.1
  have H := I.2.1
  have hn := W.1
  -- the reference up to its quotient
  have ref : ∀ σ4 : qS, RepR σ4 27 0 P → ∃ σ2, Qr σ4 σ2 ∧ RepR σ2 27 0 P ∧ LvR P σ2 (pst P (pn P)).1 (pst P (pn P)).2 ∧ f_X8_utilization a σ4 = j_X8_utilization_29 a (if isR a = true then pwork P a else 0) (qb1 (isR a)) (qb1 (decide (0 < pn P))) σ2 := by
    intro σ4 R1
    have R2 := R1.qt (Qt.thr σ4 (if isR a = true then 0 else 1)) (Or.inl rfl)
    obtain ⟨σ2, e2, q2, a2, b2, l2⟩ := r_levels W R2
    have R3 := R2.same q2 (by simp)
    refine ⟨σ2, (Qr.thr _ _).trans (Qr.of q2 (by simp)), R3, l2, ?_⟩
    unfold f_X8_utilization
    rw [r_work W R1, qb_I, e2, qb_V, r_isR, qb_I, show σ2 27 0 0 = nI (pn P) from R3.1]
    by_cases h : pn P = 0
    · rw [if_pos (by rw [h]; decide), decide_eq_false (by omega)]; rfl
    · rw [if_neg (by rw [show (0 : Int32) = nI 0 from rfl, n_le (by omega) (by omega)]; omega), decide_eq_true (by omega)]; rfl
  cases hx : isR a
  · obtain ⟨σ2, Q, R3, l2, e⟩ := ref σ I.2.2.1
    have Q2 := Q.trans (Qr.thr σ2 1)
    refine ⟨1, σ, 0, qu σ2 26 0 17 1, by decide, by unfold f_L_utilization f_X7_utilization; rw [c_reqR, hx, if_neg (by decide)]; rfl, ?_, thr_at _ _, fun h => absurd h (by decide), P, hs, sv, I.qt Q2.qt, S.qr Q2⟩
    rw [e, hx]
    unfold j_X8_utilization_29
    show qbind (f_X8_holds (qb1 false) _ (qb1 true) σ2) _ _ = _
    rw [r_holds, qb_I, if_pos (by simp [qb1])]
    rfl
  · obtain ⟨r, hr, rfl⟩ := isR_iff.mp hx
    obtain ⟨σ1, c1, q1, I1, s8, p1⟩ := c_plan I S
    have hl := W.ln hr
    by_cases h0 : pn P = 0
    · obtain ⟨σ2, Q, R3, l2, e⟩ := ref σ1 I1.2.2.1
      have Q2 := Q.trans (Qr.thr σ2 2)
      refine ⟨2, σ1, 0, qu σ2 26 0 17 2, by decide, ?_, ?_, thr_at _ _, fun h => absurd h (by decide), P, hs, sv, I1.qt Q2.qt, PlanSt.qr Q2 (Or.inr ⟨s8, p1⟩)⟩
      · unfold f_L_utilization f_X7_utilization
        rw [c_reqR, hx, if_pos rfl, qb_V, c_lim H hr, qb_I, c1, qb_P, if_pos (by rw [p1.2.2.2.2.2.2.2, h0, show pend P 0 = 0 from rfl, show nI 0 = (0 : Int32) from rfl, Int32.mul_zero])]
        rfl
      · rw [e, hx, decide_eq_false (by omega)]
        unfold j_X8_utilization_29
        show qbind (f_X8_holds (qb1 true) (qb1 false) (qb1 true) σ2) _ _ = _
        rw [r_holds, qb_I, if_pos (by decide)]
        rfl
    · obtain ⟨b1, b2⟩ := pend_pos W (show 0 < pn P by omega)
      have hc : pl P r * nI (pend P (pn P)) = nI (pln P r * pend P (pn P)) := by rw [hl.1, n_mul]
      have hb : pln P r * pend P (pn P) ≤ 20 * 138 := Nat.mul_le_mul hl.2.2 b2
      have hb0 : 0 < pln P r * pend P (pn P) := Nat.mul_pos (by omega) b1
      have hz : ¬ nI (pln P r * pend P (pn P)) = 0 := fun h2 => by rw [show (0 : Int32) = nI 0 from rfl, n_eq (by omega) (by omega)] at h2; omega
      have hnat : (nI (pln P r * pend P (pn P))).toInt.natAbs ≤ 2 ^ 24 := by rw [nI_toInt (by omega)]; omega
      have hw := c_work W I1.2.1 (nI r)
      obtain ⟨Y, hY⟩ : ∃ Y, Y = FP.fdiv (FP.i2f (pwork P (nI r))) (FP.i2f (nI (pln P r * pend P (pn P)))) := ⟨_, rfl⟩
      have hny : Jvm.FP.Core.fIsNaN Y = false := by rw [hY]; exact nn32_div _ hz hnat
      have I2 := I1.qt (Qt.sd σ1 (FP.f2d Y))
      have S2 : PlanSt P (qsd σ1 (FP.f2d Y)) := PlanSt.sd (Or.inr ⟨s8, p1⟩) _
      obtain ⟨σ2, Q, R3, l2, e⟩ := ref _ I2.2.2.1
      have Q2 := Q.trans (Qr.thr σ2 0)
      refine ⟨0, qsd σ1 (FP.f2d Y), Y, qu σ2 26 0 17 0, by decide, ?_, ?_, thr_at _ _, fun _ => ⟨?_, hny⟩, P, hs, sv, I2.qt Q2.qt, S2.qr Q2⟩
      · unfold f_L_utilization f_X7_utilization
        rw [c_reqR, hx, if_pos rfl, qb_V, c_lim H hr, qb_I, c1, qb_P, p1.2.2.2.2.2.2.2, hc, if_neg hz, hw, qb_I, ← hY, if_pos (qn32_of hny), qb_F, if_pos (qn64_of (f2d_nn hny))]
        rfl
      · rw [e, hx, decide_eq_true (show 0 < pn P by omega), if_pos rfl]
        unfold j_X8_utilization_29
        show qbind (f_X8_holds (qb1 true) (qb1 true) (qb1 true) σ2) _ _ = _
        rw [r_holds, qb_I, if_neg (by decide)]
        show (if qin ((2 : Int32) + nI r) 77 then qbind (f_X8_lastOf 33 0 (qu σ2 26 0 17 0)) (qvI (fun r4 s5 => (if qn32 (FP.fdiv (FP.i2f (pwork P (nI r))) (FP.i2f ((qu σ2 26 0 17 0) 27 0 (((2 : Int32) + nI r)).toNatClampNeg * r4))) then (some (.inl (some (.inl (.float (FP.fdiv (FP.i2f (pwork P (nI r))) (FP.i2f ((qu σ2 26 0 17 0) 27 0 (((2 : Int32) + nI r)).toNatClampNeg * r4)))))), s5)) else none))) qE0 else none) = _
        have R4 : RepR (qu σ2 26 0 17 0) 27 0 P := R3.qt (Qt.thr _ _) (Or.inl rfl)
        have h33 : ∀ u, u < pn P → (qu σ2 26 0 17 0) 33 0 u = nI (pV P u) := fun u hu => by rw [qu_at, if_neg (by simp)]; exact l2.1 u hu (pst_full W hu)
        rw [show (2 : Int32) = nI 2 from rfl, nI_add, if_pos (n_in (by omega) (by decide)), nI_clamp (by omega), r_lim R4 hr, r_lastOf W R4 rfl, qb_I, plast_congr h33, pend_last W b2, hc, ← hY, if_pos (qn32_of hny)]
      · rw [Q2.1 39 0 (by simp)]
        exact qsd_at σ1 _
end QM2
