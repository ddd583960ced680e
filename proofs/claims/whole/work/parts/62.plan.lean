/-! questions of the plan -/
section QP2
variable {P : qP} {hs : List qP} {sv : qP} {σ : qS}
theorem qb_P {s : qS} {k : qS → Option qO} {ke : String → qS → Option qO} : qbind (some (.inl (some (qR 11 0)), s)) (qvS 11 k) ke = k s := by
  simp [qbind, qvS]
theorem r_isBehind (H : RepR σ 27 0 P) (W : PW P) (a b : Int32) : (isT P a && isT P b) = false ∧ f_X8_isBehind a b σ = qan 0 (qu σ 26 0 17 1) ∨ ∃ t u, t < pn P ∧ u < pn P ∧ a = nI t ∧ b = nI u ∧ f_X8_isBehind a b σ = qan (qb1 (prea P t u)) (qu σ 26 0 17 0) := by
  have hn := W.1
  have no : j_X8_isBehind_21 a b σ = qan 0 (qu σ 26 0 17 1) := by
    unfold j_X8_isBehind_21
    rw [show (0 : Int32) = qb1 false from rfl, r_goes, qb_I, if_pos (by decide)]
    rfl
  unfold f_X8_isBehind
  rw [r_isT H, qb_I]
  cases hx : isT P a
  · exact Or.inl ⟨rfl, by rw [if_pos (by rfl)]; exact no⟩
  · rw [if_neg (by decide), r_isT H, qb_I]
    cases hy : isT P b
    · exact Or.inl ⟨rfl, by rw [if_pos (by rfl)]; exact no⟩
    · obtain ⟨t, ht, rfl⟩ := (isT_iff W).mp hx
      obtain ⟨u, hu, rfl⟩ := (isT_iff W).mp hy
      refine Or.inr ⟨t, u, ht, hu, rfl, rfl, ?_⟩
      rw [if_neg (by decide), show (1 : Int32) = qb1 true from rfl, r_goes, qb_I, if_neg (by decide)]
      rw [r_doesDepend (H.qt (Qt.thr _ _) (Or.inl rfl)) W ht (by omega), qb_I]
      cases prea P t u <;> rfl
theorem c_two {F : qS → Option qO} {a b : Int32} (H : Rep σ 0 P) : qbind (f_X7_requireTask a σ) (qvV (fun s1 => qbind (f_X7_requireTask b s1) (qvV F) qE1)) qE1 = if (isT P a && isT P b) = true then F σ else qth qIOE σ := by
  rw [c_reqT H]
  cases isT P a
  · rfl
  · rw [if_pos rfl, qb_V, c_reqT H]
    cases isT P b <;> rfl
theorem k_depends (a b : Int32) (h : Inv σ) : CaseB (f_L_depends a b) (f_X8_depends a b) σ := by
  obtain ⟨P, hs, sv, I, S⟩ := h
  have W := I.1
  have H := I.2.1
  have hn := W.1
  rcases r_isBehind I.2.2.1 W a b with ⟨hf, e⟩ | ⟨t, u, ht, hu, rfl, rfl, -⟩
  · exact casekb (k := 1) (b := 0) (Or.inl rfl) (by decide) (by decide) (by unfold f_L_depends f_X7_depends; rw [c_two H, hf, if_neg (by decide)]; rfl) I S (by unfold f_X8_depends; rw [e, qb_I, if_pos (Or.inl rfl)]; try rfl) (thr_at _ _) (Qr.thr _ _)
  · have R1 := (I.out (qb1 (prea P t u))).2.2.1
    rcases r_isBehind R1 W (nI t) (nI u) with ⟨hf, e⟩ | ⟨t', u', ht', hu', e1, e2, e⟩
    · rw [isT_n W ht, isT_n W hu] at hf; cases hf
    · rw [n_eq (by omega) (by omega)] at e1 e2
      subst e1; subst e2
      refine case0b (r := qb1 (prea P t u)) (qb1_bo _) ?_ I S (by unfold f_X8_depends; rw [e, qb_I, if_pos (qb1_bo _)]) (thr_at _ _) (Qr.thr _ _)
      unfold f_L_depends f_X7_depends
      rw [c_two H, isT_n W ht, isT_n W hu, if_pos (show (true && true) = true from rfl), c_reaches H W ht (by omega), qb_I, if_pos (qb1_bo _), qb_I]
      cases prea P t u <;> rfl
theorem k_dependsByClosure (a b : Int32) (h : Inv σ) : CaseB (f_L_dependsByClosure a b) (f_X8_dependsByClosure a b) σ := by
  obtain ⟨P, hs, sv, I, S⟩ := h
  have W := I.1
  have H := I.2.1
  have hn := W.1
  rcases r_isBehind I.2.2.1 W a b with ⟨hf, e⟩ | ⟨t, u, ht, hu, rfl, rfl, -⟩
  · exact casekb (k := 1) (b := 0) (Or.inl rfl) (by decide) (by decide) (by unfold f_L_dependsByClosure f_X7_dependsByClosure; rw [c_two H, hf, if_neg (by decide)]; rfl) I S (by unfold f_X8_dependsByClosure; rw [e, qb_I, if_pos (Or.inl rfl)]; try rfl) (thr_at _ _) (Qr.thr _ _)
  · obtain ⟨σ1, c1, q1, I1, s8, p1⟩ := c_plan I S
    have R1 := (I1.out (qb1 (prea P t u))).2.2.1
    rcases r_isBehind R1 W (nI t) (nI u) with ⟨hf, e⟩ | ⟨t', u', ht', hu', e1, e2, e⟩
    · rw [isT_n W ht, isT_n W hu] at hf; cases hf
    · rw [n_eq (by omega) (by omega)] at e1 e2
      subst e1; subst e2
      refine case0b (r := qb1 (prea P t u)) (qb1_bo _) ?_ I1 (Or.inr ⟨s8, p1⟩) (by unfold f_X8_dependsByClosure; rw [e, qb_I, if_pos (qb1_bo _)]) (thr_at _ _) (Qr.thr _ _)
      unfold f_L_dependsByClosure f_X7_dependsByClosure
      rw [c_two H, isT_n W ht, isT_n W hu, if_pos (show (true && true) = true from rfl), c1, qb_P, e_at (show t < 12 by omega) (by decide), qb_I, e_hasBit (by omega), qb_I, p1.2.1 t ht u, if_pos (qb1_bo _), qb_I]
      cases prea P t u <;> rfl
theorem e_bc (x : Int32) (s s' : qS) : ∃ r, f_J6_bitCount_0f7a4 x s = qan r s ∧ f_J6_bitCount_0f7a4 x s' = qan r s' := ⟨_, rfl, rfl⟩
theorem k_neededCount (a : Int32) (h : Inv σ) : CaseL (f_L_neededCount a) (f_X8_neededCount a) σ := by
  obtain ⟨P, hs, sv, I, S⟩ := h
  have W := I.1
  have H := I.2.1
  cases hx : isT P a
  · obtain ⟨r, e1, e2⟩ := e_bc 0 (qu σ 26 0 17 1) σ
    exact casek (k := 1) (b := r) (by decide) (by decide) (by unfold f_L_neededCount f_X7_neededCount; rw [c_reqT H, hx, if_neg (by decide)]; rfl) I S (by unfold f_X8_neededCount; rw [r_asks0 I.2.2.1 hx, qb_I, e1, qb_I]; try rfl) (thr_at _ _) (Qr.thr _ _)
  · obtain ⟨t, ht, rfl⟩ := (isT_iff W).mp hx
    obtain ⟨r, e1, -⟩ := e_bc (pf P 4 t) σ σ
    obtain ⟨r', e2, e3⟩ := e_bc (pf P 4 t) (qu (qu σ 38 0 0 r) 26 0 17 0) σ
    have : r' = r := by
      rw [e1] at e3
      injection e3 with e3; injection e3 with e3; injection e3 with e3; injection e3 with e3; injection e3 with e3; injection e3 with e3
      exact e3.symm
    subst this
    exact case0 (r := r') (by unfold f_L_neededCount f_X7_neededCount; rw [c_reqT H, hx, if_pos rfl, qb_V, c_need H W ht, qb_I, e1]; rfl) I S (by unfold f_X8_neededCount; rw [show (4 : Int32) = nI 4 from rfl, r_asks (I.out _).2.2.1 W (by decide) ht, qb_I, e2, qb_I]) (thr_at _ _) (Qr.thr _ _)
/-- the reference's ends of a question of a task after its starts or levels -/
theorem r_end {σ2 : qS} {x : Int32} (R : RepR σ2 27 0 P) {F : qS → Option qO} : qbind (f_X8_isTask x σ2) (qvI (fun r1 s2 => qbind (f_X8_goes r1 s2) (qvI (fun r2 s3 => if r2 = 0 then (some (.inl (some (qI (0 : Int32))), s3)) else F s3)) qE0)) qE0 = if isT P x = true then F (qu σ2 26 0 17 0) else qan 0 (qu σ2 26 0 17 1) := by
  rw [r_isT R, qb_I, r_goes, qb_I]
  cases isT P x <;> rfl
theorem k_earliestStart (a : Int32) (h : Inv σ) : CaseL (f_L_earliestStart a) (f_X8_earliestStart a) σ := by
  obtain ⟨P, hs, sv, I, S⟩ := h
  have W := I.1
  have H := I.2.1
  have hn := W.1
  cases hx : isT P a
  · have R1 := I.2.2.1
    obtain ⟨σ2, e2, q2, a2, b2⟩ := r_starts W R1
    have R2 := R1.same q2 (by simp)
    refine casek (k := 1) (b := 0) (σ1 := σ) (σ2 := qu σ2 26 0 17 1) (by decide) (by decide) (by unfold f_L_earliestStart f_X7_earliestStart; rw [c_reqT H, hx, if_neg (by decide)]; rfl) I S ?_ (thr_at _ _) ((Qr.of q2 (by simp)).trans (Qr.thr _ _))
    unfold f_X8_earliestStart f_X8_early
    rw [e2, qb_V, r_end R2, hx, if_neg (by decide)]; rfl
  · obtain ⟨t, ht, rfl⟩ := (isT_iff W).mp hx
    obtain ⟨σ1, c1, q1, I1, s8, p1⟩ := c_plan I S
    have R1 := (I1.out (pE P t)).2.2.1
    obtain ⟨σ2, e2, q2, a2, b2⟩ := r_starts W R1
    have R2 := R1.same q2 (by simp)
    refine case0 (r := (pE P t)) (σ1 := σ1) (σ2 := qu σ2 26 0 17 0) ?_ I1 (Or.inr ⟨s8, p1⟩) ?_ (thr_at _ _) ((Qr.of q2 (by simp)).trans (Qr.thr _ _))
    · unfold f_L_earliestStart f_X7_earliestStart
      rw [c_reqT H, hx, if_pos rfl, qb_V, c1, qb_P, e_at (show t < 12 by omega) (by decide), qb_I, p1.2.2.1 t ht]; rfl
    · unfold f_X8_earliestStart f_X8_early
      rw [e2, qb_V, r_end R2, hx, if_pos rfl, if_pos (n_in (by omega) (by decide)), nI_clamp (by omega), qu_at, if_neg (by simp), a2 t ht]; rfl
theorem k_earliestStartByRounds (a : Int32) (h : Inv σ) : CaseL (f_L_earliestStartByRounds a) (f_X8_earliestStartByRounds a) σ := by
  obtain ⟨P, hs, sv, I, S⟩ := h
  have W := I.1
  have H := I.2.1
  have hn := W.1
  cases hx : isT P a
  · have R1 := I.2.2.1
    obtain ⟨σ2, e2, q2, a2, b2⟩ := r_starts W R1
    have R2 := R1.same q2 (by simp)
    refine casek (k := 1) (b := 0) (σ1 := σ) (σ2 := qu σ2 26 0 17 1) (by decide) (by decide) (by unfold f_L_earliestStartByRounds f_X7_earliestStartByRounds; rw [c_reqT H, hx, if_neg (by decide)]; rfl) I S ?_ (thr_at _ _) ((Qr.of q2 (by simp)).trans (Qr.thr _ _))
    unfold f_X8_earliestStartByRounds f_X8_early
    rw [e2, qb_V, r_end R2, hx, if_neg (by decide)]; rfl
  · obtain ⟨t, ht, rfl⟩ := (isT_iff W).mp hx
    obtain ⟨σ1, c1, q1, I1, s8, p1⟩ := c_plan I S
    have R1 := (I1.out (pE P t)).2.2.1
    obtain ⟨σ2, e2, q2, a2, b2⟩ := r_starts W R1
    have R2 := R1.same q2 (by simp)
    refine case0 (r := (pE P t)) (σ1 := σ1) (σ2 := qu σ2 26 0 17 0) ?_ I1 (Or.inr ⟨s8, p1⟩) ?_ (thr_at _ _) ((Qr.of q2 (by simp)).trans (Qr.thr _ _))
    · unfold f_L_earliestStartByRounds f_X7_earliestStartByRounds
      rw [c_reqT H, hx, if_pos rfl, qb_V, c1, qb_P, e_at (show t < 12 by omega) (by decide), qb_I, p1.2.2.2.1 t ht]; rfl
    · unfold f_X8_earliestStartByRounds f_X8_early
      rw [e2, qb_V, r_end R2, hx, if_pos rfl, if_pos (n_in (by omega) (by decide)), nI_clamp (by omega), qu_at, if_neg (by simp), a2 t ht]; rfl
theorem k_latestStart (a : Int32) (h : Inv σ) : CaseL (f_L_latestStart a) (f_X8_latestStart a) σ := by
  obtain ⟨P, hs, sv, I, S⟩ := h
  have W := I.1
  have H := I.2.1
  have hn := W.1
  cases hx : isT P a
  · have R1 := I.2.2.1
    obtain ⟨σ2, e2, q2, a2, b2⟩ := r_starts W R1
    have R2 := R1.same q2 (by simp)
    refine casek (k := 1) (b := 0) (σ1 := σ) (σ2 := qu σ2 26 0 17 1) (by decide) (by decide) (by unfold f_L_latestStart f_X7_latestStart; rw [c_reqT H, hx, if_neg (by decide)]; rfl) I S ?_ (thr_at _ _) ((Qr.of q2 (by simp)).trans (Qr.thr _ _))
    unfold f_X8_latestStart
    rw [e2, qb_V, r_end R2, hx, if_neg (by decide)]
  · obtain ⟨t, ht, rfl⟩ := (isT_iff W).mp hx
    obtain ⟨σ1, c1, q1, I1, s8, p1⟩ := c_plan I S
    have R1 := (I1.out (pL P t)).2.2.1
    obtain ⟨σ2, e2, q2, a2, b2⟩ := r_starts W R1
    have R2 := R1.same q2 (by simp)
    refine case0 (r := (pL P t)) (σ1 := σ1) (σ2 := qu σ2 26 0 17 0) ?_ I1 (Or.inr ⟨s8, p1⟩) ?_ (thr_at _ _) ((Qr.of q2 (by simp)).trans (Qr.thr _ _))
    · unfold f_L_latestStart f_X7_latestStart
      rw [c_reqT H, hx, if_pos rfl, qb_V, c1, qb_P, e_at (show t < 12 by omega) (by decide), qb_I, p1.2.2.2.2.1 t ht]; rfl
    · unfold f_X8_latestStart
      rw [e2, qb_V, r_end R2, hx, if_pos rfl, if_pos (n_in (by omega) (by decide)), nI_clamp (by omega), qu_at, if_neg (by simp), b2 t ht]
theorem k_levelledStart (a : Int32) (h : Inv σ) : CaseL (f_L_levelledStart a) (f_X8_levelledStart a) σ := by
  obtain ⟨P, hs, sv, I, S⟩ := h
  have W := I.1
  have H := I.2.1
  have hn := W.1
  cases hx : isT P a
  · have R1 := I.2.2.1
    obtain ⟨σ2, e2, q2, a2, b2, l2⟩ := r_levels W R1
    have R2 := R1.same q2 (by simp)
    refine casek (k := 1) (b := 0) (σ1 := σ) (σ2 := qu σ2 26 0 17 1) (by decide) (by decide) (by unfold f_L_levelledStart f_X7_levelledStart; rw [c_reqT H, hx, if_neg (by decide)]; rfl) I S ?_ (thr_at _ _) ((Qr.of q2 (by simp)).trans (Qr.thr _ _))
    unfold f_X8_levelledStart
    rw [e2, qb_V, r_end R2, hx, if_neg (by decide)]
  · obtain ⟨t, ht, rfl⟩ := (isT_iff W).mp hx
    obtain ⟨σ1, c1, q1, I1, s8, p1⟩ := c_plan I S
    have R1 := (I1.out (nI (pV P t))).2.2.1
    obtain ⟨σ2, e2, q2, a2, b2, l2⟩ := r_levels W R1
    have R2 := R1.same q2 (by simp)
    refine case0 (r := (nI (pV P t))) (σ1 := σ1) (σ2 := qu σ2 26 0 17 0) ?_ I1 (Or.inr ⟨s8, p1⟩) ?_ (thr_at _ _) ((Qr.of q2 (by simp)).trans (Qr.thr _ _))
    · unfold f_L_levelledStart f_X7_levelledStart
      rw [c_reqT H, hx, if_pos rfl, qb_V, c1, qb_P, e_at (show t < 12 by omega) (by decide), qb_I, p1.2.2.2.2.2.1.1 t ht (pst_full W ht)]; rfl
    · unfold f_X8_levelledStart
      rw [e2, qb_V, r_end R2, hx, if_pos rfl, if_pos (n_in (by omega) (by decide)), nI_clamp (by omega), qu_at, if_neg (by simp), l2.1 t ht (pst_full W ht)]; rfl
theorem e_slack {σ1 : qS} (p1 : PlanOK P σ1) (W : PW P) {t : Nat} (ht : t < pn P) : f_X4_slackOf (nI t) σ1 = qan (pL P t - pE P t) σ1 := by
  have hn := W.1
  unfold f_X4_slackOf
  rw [e_at (show t < 12 by omega) (by decide), qb_I, e_at (show t < 12 by omega) (by decide), qb_I, p1.2.2.1 t ht, p1.2.2.2.2.1 t ht]
theorem i_sub0 {a b : Int32} : a - b = 0 ↔ a = b := by
  constructor
  · intro h
    have := congrArg (fun z => z + b) h
    simpa using this
  · rintro rfl
    exact Int32.sub_self a
theorem k_slack (a : Int32) (h : Inv σ) : CaseL (f_L_slack a) (f_X8_slack a) σ := by
  obtain ⟨P, hs, sv, I, S⟩ := h
  have W := I.1
  have H := I.2.1
  have hn := W.1
  cases hx : isT P a
  · have R1 := I.2.2.1
    obtain ⟨σ2, e2, q2, a2, b2⟩ := r_starts W R1
    have R2 := R1.same q2 (by simp)
    refine casek (k := 1) (b := 0) (σ1 := σ) (σ2 := qu σ2 26 0 17 1) (by decide) (by decide) (by unfold f_L_slack f_X7_slack; rw [c_reqT H, hx, if_neg (by decide)]; rfl) I S ?_ (thr_at _ _) ((Qr.of q2 (by simp)).trans (Qr.thr _ _))
    unfold f_X8_slack
    rw [e2, qb_V, r_end R2, hx, if_neg (by decide)]
  · obtain ⟨t, ht, rfl⟩ := (isT_iff W).mp hx
    obtain ⟨σ1, c1, q1, I1, s8, p1⟩ := c_plan I S
    have R1 := (I1.out (pL P t - pE P t)).2.2.1
    obtain ⟨σ2, e2, q2, a2, b2⟩ := r_starts W R1
    have R2 := R1.same q2 (by simp)
    refine case0 (r := (pL P t - pE P t)) (σ1 := σ1) (σ2 := qu σ2 26 0 17 0) ?_ I1 (Or.inr ⟨s8, p1⟩) ?_ (thr_at _ _) ((Qr.of q2 (by simp)).trans (Qr.thr _ _))
    · unfold f_L_slack f_X7_slack
      rw [c_reqT H, hx, if_pos rfl, qb_V, c1, qb_P, e_slack p1 W ht, qb_I]; rfl
    · unfold f_X8_slack
      rw [e2, qb_V, r_end R2, hx, if_pos rfl, if_pos (n_in (by omega) (by decide)), if_pos (n_in (by omega) (by decide)), nI_clamp (by omega), qu_at, if_neg (by simp), qu_at, if_neg (by simp), a2 t ht, b2 t ht]
theorem k_isCritical (a : Int32) (h : Inv σ) : CaseB (f_L_isCritical a) (f_X8_isCritical a) σ := by
  obtain ⟨P, hs, sv, I, S⟩ := h
  have W := I.1
  have H := I.2.1
  have hn := W.1
  cases hx : isT P a
  · have R1 := I.2.2.1
    obtain ⟨σ2, e2, q2, a2, b2⟩ := r_starts W R1
    have R2 := R1.same q2 (by simp)
    refine casekb (k := 1) (b := 0) (σ1 := σ) (σ2 := qu σ2 26 0 17 1) (Or.inl rfl) (by decide) (by decide) (by unfold f_L_isCritical f_X7_isCritical; rw [c_reqT H, hx, if_neg (by decide)]; rfl) I S ?_ (thr_at _ _) ((Qr.of q2 (by simp)).trans (Qr.thr _ _))
    unfold f_X8_isCritical
    rw [e2, qb_V, r_end R2, hx, if_neg (by decide)]
  · obtain ⟨t, ht, rfl⟩ := (isT_iff W).mp hx
    obtain ⟨σ1, c1, q1, I1, s8, p1⟩ := c_plan I S
    have R1 := (I1.out (qb1 (decide (pL P t - pE P t = 0)))).2.2.1
    obtain ⟨σ2, e2, q2, a2, b2⟩ := r_starts W R1
    have R2 := R1.same q2 (by simp)
    refine case0b (r := (qb1 (decide (pL P t - pE P t = 0)))) (qb1_bo _) (σ1 := σ1) (σ2 := qu σ2 26 0 17 0) ?_ I1 (Or.inr ⟨s8, p1⟩) ?_ (thr_at _ _) ((Qr.of q2 (by simp)).trans (Qr.thr _ _))
    · unfold f_L_isCritical f_X7_isCritical
      rw [c_reqT H, hx, if_pos rfl, qb_V, c1, qb_P, e_slack p1 W ht, qb_I]
      by_cases hz : pL P t - pE P t = 0
      · rw [if_pos hz, decide_eq_true hz]; rfl
      · rw [if_neg hz, decide_eq_false hz]; rfl
    · have z31 : qu σ2 26 0 17 0 31 0 t = pE P t := by rw [qu_at, if_neg (by simp), a2 t ht]
      have z32 : qu σ2 26 0 17 0 32 0 t = pL P t := by rw [qu_at, if_neg (by simp), b2 t ht]
      unfold f_X8_isCritical
      rw [e2, qb_V, r_end R2, hx, if_pos rfl, if_pos (n_in (by omega) (by decide)), if_pos (n_in (by omega) (by decide)), nI_clamp (by omega), z32, z31]
      by_cases hz : pL P t = pE P t
      · rw [if_pos hz, decide_eq_true (i_sub0.mpr hz)]; rfl
      · rw [if_neg hz, decide_eq_false (fun h => hz (i_sub0.mp h))]; rfl
end QP2
