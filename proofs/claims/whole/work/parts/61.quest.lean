/-! questions of a task, a resource -/
section QU
variable {P : qP} {hs : List qP} {sv : qP} {σ : qS}
theorem InvB.out {σ1 : qS} (I : InvB σ1 P hs sv) (r : Int32) : InvB (qu σ1 38 0 0 r) P hs sv := I.qt (Qt.of (qsm_qu σ1 38 0 0 r) (by simp))
theorem PlanSt.out {σ1 : qS} (S : PlanSt P σ1) (r : Int32) : PlanSt P (qu σ1 38 0 0 r) := by
  unfold PlanSt
  rw [qu_at, if_neg (by simp)]
  exact S.elim Or.inl (fun h => Or.inr ⟨h.1, h.2.same (qsm_qu σ1 38 0 0 r) (by simp)⟩)
theorem case0 {w q : qS → Option qO} {σ1 σ2 : qS} {r : Int32} (hw : w σ = qan 0 (qu σ1 38 0 0 r)) (I : InvB σ1 P hs sv) (S : PlanSt P σ1) (hq : q (qu σ1 38 0 0 r) = qan r σ2) (ht : σ2 26 0 17 = 0) (hr : Qr (qu σ1 38 0 0 r) σ2) : CaseL w q σ :=
  ⟨0, _, r, σ2, by decide, hw, hq, ht, fun _ => by rw [hr.1 38 0 (by simp), qu_at, if_pos ⟨rfl, rfl, rfl⟩], P, hs, sv, (I.out r).qt hr.qt, (S.out r).qr hr⟩
theorem casek {w q : qS → Option qO} {σ1 σ2 : qS} {b : Int32} {k : Nat} (hk : k < 9) (hk0 : k ≠ 0) (hw : w σ = qan (nI k) σ1) (I : InvB σ1 P hs sv) (S : PlanSt P σ1) (hq : q σ1 = qan b σ2) (ht : σ2 26 0 17 = nI k) (hr : Qr σ1 σ2) : CaseL w q σ :=
  ⟨k, σ1, b, σ2, hk, hw, hq, ht, fun h => absurd h hk0, P, hs, sv, I.qt hr.qt, S.qr hr⟩
/-- a case whose answer is 0 or 1 -/
def CaseB (w : qS → Option qO) (q : qS → Option qO) (σ : qS) : Prop := ∃ (k : Nat) (σ1 : qS) (b : Int32) (σ2 : qS), k < 9 ∧ w σ = qan (nI k) σ1 ∧ q σ1 = qan b σ2 ∧ σ2 26 0 17 = nI k ∧ (k = 0 → σ2 38 0 0 = b) ∧ Inv σ2 ∧ (b = 0 ∨ b = 1)
theorem case0b {w q : qS → Option qO} {σ1 σ2 : qS} {r : Int32} (hb : r = 0 ∨ r = 1) (hw : w σ = qan 0 (qu σ1 38 0 0 r)) (I : InvB σ1 P hs sv) (S : PlanSt P σ1) (hq : q (qu σ1 38 0 0 r) = qan r σ2) (ht : σ2 26 0 17 = 0) (hr : Qr (qu σ1 38 0 0 r) σ2) : CaseB w q σ :=
  ⟨0, _, r, σ2, by decide, hw, hq, ht, fun _ => by rw [hr.1 38 0 (by simp), qu_at, if_pos ⟨rfl, rfl, rfl⟩], ⟨P, hs, sv, (I.out r).qt hr.qt, (S.out r).qr hr⟩, hb⟩
theorem casekb {w q : qS → Option qO} {σ1 σ2 : qS} {b : Int32} {k : Nat} (hb : b = 0 ∨ b = 1) (hk : k < 9) (hk0 : k ≠ 0) (hw : w σ = qan (nI k) σ1) (I : InvB σ1 P hs sv) (S : PlanSt P σ1) (hq : q σ1 = qan b σ2) (ht : σ2 26 0 17 = nI k) (hr : Qr σ1 σ2) : CaseB w q σ :=
  ⟨k, σ1, b, σ2, hk, hw, hq, ht, fun h => absurd h hk0, ⟨P, hs, sv, I.qt hr.qt, S.qr hr⟩, hb⟩
theorem thr_at (σ : qS) (v : Int32) : qu σ 26 0 17 v 26 0 17 = v := by rw [qu_at, if_pos ⟨rfl, rfl, rfl⟩]
theorem r_isT (H : RepR σ 27 0 P) (x : Int32) : f_X8_isTask x σ = qan (qb1 (isT P x)) σ := r_isTask H x
theorem r_asks (H : RepR σ 27 0 P) (W : PW P) {f t : Nat} (hf : f < 6) (ht : t < pn P) : f_X8_asks (nI t) (nI f) σ = qan (pf P f t) (qu σ 26 0 17 0) := by
  unfold f_X8_asks
  rw [r_isT H, isT_n W ht, qb_I, r_goes, qb_I, if_neg (by decide), r_of (H.qt (Qt.thr σ _) (Or.inl rfl)) W ht hf, qb_I]
  rfl
theorem r_asks0 (H : RepR σ 27 0 P) {f : Int32} {x : Int32} (hx : isT P x = false) : f_X8_asks x f σ = qan 0 (qu σ 26 0 17 1) := by
  unfold f_X8_asks
  rw [r_isT H, hx, qb_I, r_goes, qb_I, if_pos (by decide)]
  rfl
theorem k_duration (a : Int32) (h : Inv σ) : CaseL (f_L_duration a) (f_X8_duration a) σ := by
  obtain ⟨P, hs, sv, I, S⟩ := h
  have W := I.1
  have H := I.2.1
  cases hx : isT P a
  · exact casek (k := 1) (b := 0) (by decide) (by decide) (by unfold f_L_duration f_X7_duration; rw [c_reqT H, hx, if_neg (by decide)]; rfl) I S (by unfold f_X8_duration; rw [r_asks0 I.2.2.1 hx, qb_I]; try rfl) (thr_at _ _) (Qr.thr _ _)
  · obtain ⟨t, ht, rfl⟩ := (isT_iff W).mp hx
    exact case0 (r := pf P 0 t) (by unfold f_L_duration f_X7_duration; rw [c_reqT H, hx, if_pos rfl, qb_V, c_dur H W ht]; rfl) I S (by unfold f_X8_duration; rw [show (0 : Int32) = nI 0 from rfl, r_asks (I.out _).2.2.1 W (by decide) ht, qb_I]; try rfl) (thr_at _ _) (Qr.thr _ _)
theorem k_resource (a : Int32) (h : Inv σ) : CaseL (f_L_resource a) (f_X8_resource a) σ := by
  obtain ⟨P, hs, sv, I, S⟩ := h
  have W := I.1
  have H := I.2.1
  cases hx : isT P a
  · exact casek (k := 1) (b := 0) (by decide) (by decide) (by unfold f_L_resource f_X7_resource; rw [c_reqT H, hx, if_neg (by decide)]; rfl) I S (by unfold f_X8_resource; rw [r_asks0 I.2.2.1 hx, qb_I]; try rfl) (thr_at _ _) (Qr.thr _ _)
  · obtain ⟨t, ht, rfl⟩ := (isT_iff W).mp hx
    exact case0 (r := pf P 1 t) (by unfold f_L_resource f_X7_resource; rw [c_reqT H, hx, if_pos rfl, qb_V, c_res H W ht]; rfl) I S (by unfold f_X8_resource; rw [show (1 : Int32) = nI 1 from rfl, r_asks (I.out _).2.2.1 W (by decide) ht, qb_I]; try rfl) (thr_at _ _) (Qr.thr _ _)
theorem k_demand (a : Int32) (h : Inv σ) : CaseL (f_L_demand a) (f_X8_demand a) σ := by
  obtain ⟨P, hs, sv, I, S⟩ := h
  have W := I.1
  have H := I.2.1
  cases hx : isT P a
  · exact casek (k := 1) (b := 0) (by decide) (by decide) (by unfold f_L_demand f_X7_demand; rw [c_reqT H, hx, if_neg (by decide)]; rfl) I S (by unfold f_X8_demand; rw [r_asks0 I.2.2.1 hx, qb_I]; try rfl) (thr_at _ _) (Qr.thr _ _)
  · obtain ⟨t, ht, rfl⟩ := (isT_iff W).mp hx
    exact case0 (r := pf P 2 t) (by unfold f_L_demand f_X7_demand; rw [c_reqT H, hx, if_pos rfl, qb_V, c_dem H W ht]; rfl) I S (by unfold f_X8_demand; rw [show (2 : Int32) = nI 2 from rfl, r_asks (I.out _).2.2.1 W (by decide) ht, qb_I]; try rfl) (thr_at _ _) (Qr.thr _ _)
theorem k_release (a : Int32) (h : Inv σ) : CaseL (f_L_release a) (f_X8_release a) σ := by
  obtain ⟨P, hs, sv, I, S⟩ := h
  have W := I.1
  have H := I.2.1
  cases hx : isT P a
  · exact casek (k := 1) (b := 0) (by decide) (by decide) (by unfold f_L_release f_X7_release; rw [c_reqT H, hx, if_neg (by decide)]; rfl) I S (by unfold f_X8_release; rw [r_asks0 I.2.2.1 hx, qb_I]; try rfl) (thr_at _ _) (Qr.thr _ _)
  · obtain ⟨t, ht, rfl⟩ := (isT_iff W).mp hx
    exact case0 (r := pf P 3 t) (by unfold f_L_release f_X7_release; rw [c_reqT H, hx, if_pos rfl, qb_V, c_rel H W ht]; rfl) I S (by unfold f_X8_release; rw [show (3 : Int32) = nI 3 from rfl, r_asks (I.out _).2.2.1 W (by decide) ht, qb_I]; try rfl) (thr_at _ _) (Qr.thr _ _)
def isR (x : Int32) : Bool := decide ((0 : Int32) ≤ x ∧ x ≤ 2)
theorem isR_iff {x : Int32} : isR x = true ↔ ∃ r, r < 3 ∧ x = nI r := by
  have := e_task (n := 3) (by decide) x
  rw [show nI 3 - 1 = (2 : Int32) from by decide] at this
  exact this
theorem c_reqR (x : Int32) (σ : qS) : f_X7_requireResource x σ = if isR x = true then qdo σ else qth qIAE σ := by
  unfold f_X7_requireResource isR
  rw [e_isWithin, qb_I]
  cases decide ((0 : Int32) ≤ x ∧ x ≤ 2) <;> rfl
theorem r_isR (x : Int32) (σ : qS) : f_X8_isResource x σ = qan (qb1 (isR x)) σ := by
  unfold f_X8_isResource isR
  rw [r_isIn, qb_I, if_pos (qb1_bo _)]
theorem r_lim (H : RepR σ 27 0 P) {r : Nat} (hr : r < 3) : σ 27 0 (2 + r) = pl P r := by
  have := H.2.2.1 r hr
  rw [Nat.zero_add] at this
  exact this
theorem k_limit (a : Int32) (h : Inv σ) : CaseL (f_L_limit a) (f_X8_limit a) σ := by
  obtain ⟨P, hs, sv, I, S⟩ := h
  have W := I.1
  have H := I.2.1
  cases hx : isR a
  · exact casek (k := 1) (b := 0) (by decide) (by decide) (by unfold f_L_limit f_X7_limit; rw [c_reqR, hx, if_neg (by decide)]; rfl) I S (by unfold f_X8_limit; rw [r_isR, hx, qb_I, r_goes, qb_I, if_pos (by decide)]; try rfl) (thr_at _ _) (Qr.thr _ _)
  · obtain ⟨r, hr, rfl⟩ := isR_iff.mp hx
    exact case0 (r := pl P r) (by unfold f_L_limit f_X7_limit; rw [c_reqR, hx, if_pos rfl, qb_V, c_lim H hr]; rfl) I S (by unfold f_X8_limit; rw [r_isR, hx, qb_I, r_goes, qb_I, if_neg (by decide), show (2 : Int32) = nI 2 from rfl, nI_add, if_pos (n_in (by omega) (by decide)), nI_clamp (by omega), r_lim ((I.out _).2.2.1.qt (Qt.thr _ _) (Or.inl rfl)) hr]; try rfl) (thr_at _ _) (Qr.thr _ _)
/-! two tasks -/
theorem k_dependsDirectly (a b : Int32) (h : Inv σ) : CaseB (f_L_dependsDirectly a b) (f_X8_dependsDirectly a b) σ := by
  obtain ⟨P, hs, sv, I, S⟩ := h
  have W := I.1
  have H := I.2.1
  have hn := W.1
  have no : f_X7_dependsDirectly a b σ = qth qIOE σ → f_X8_dependsDirectly a b σ = j_X8_dependsDirectly_21 a b σ → CaseB (f_L_dependsDirectly a b) (f_X8_dependsDirectly a b) σ := fun h1 h2 =>
    casekb (k := 1) (b := 0) (Or.inl rfl) (by decide) (by decide) (by unfold f_L_dependsDirectly; rw [h1]; rfl) I S (by rw [h2]; unfold j_X8_dependsDirectly_21; rw [show (0 : Int32) = qb1 false from rfl, r_goes, qb_I, if_pos (by decide)]; try rfl) (thr_at _ _) (Qr.thr _ _)
  cases hx : isT P a
  · exact no (by unfold f_X7_dependsDirectly; rw [c_reqT H, hx, if_neg (by decide)]; rfl) (by unfold f_X8_dependsDirectly; rw [r_isT I.2.2.1, hx, qb_I, if_pos (by decide)])
  · cases hy : isT P b
    · exact no (by unfold f_X7_dependsDirectly; rw [c_reqT H, hx, if_pos rfl, qb_V, c_reqT H, hy, if_neg (by decide)]; rfl) (by unfold f_X8_dependsDirectly; rw [r_isT I.2.2.1, hx, qb_I, if_neg (by decide), r_isT I.2.2.1, hy, qb_I, if_pos (by decide)])
    · obtain ⟨t, ht, rfl⟩ := (isT_iff W).mp hx
      obtain ⟨u, hu, rfl⟩ := (isT_iff W).mp hy
      have hc : f_X7_dependsDirectly (nI t) (nI u) σ = qan (qb1 (ped P t u)) σ := by
        unfold f_X7_dependsDirectly
        rw [c_reqT H, hx, if_pos rfl, qb_V, c_reqT H, hy, if_pos rfl, qb_V, c_linked H W ht (by omega), qb_I, if_pos (qb1_bo _)]
      refine case0b (r := qb1 (ped P t u)) (qb1_bo _) ?_ I S ?_ (thr_at _ _) (Qr.thr _ 0)
      · unfold f_L_dependsDirectly
        rw [hc, qb_I]
        cases ped P t u <;> rfl
      · have R1 := (I.out (qb1 (ped P t u))).2.2.1
        have R2 : RepR (qu (qu σ 38 0 0 (qb1 (ped P t u))) 26 0 17 0) 27 0 P := R1.qt (Qt.thr _ _) (Or.inl rfl)
        unfold f_X8_dependsDirectly
        rw [r_isT R1, hx, qb_I, if_neg (by decide), r_isT R1, hy, qb_I, if_neg (by decide), show (1 : Int32) = qb1 true from rfl, r_goes, qb_I, if_neg (by decide)]
        show qbind (f_X8_isNeeded (nI t) (nI u) (qu (qu σ 38 0 0 (qb1 (ped P t u))) 26 0 17 0)) _ _ = _
        rw [r_needed R2 W ht (by omega), qb_I]
        cases ped P t u <;> rfl
end QU
