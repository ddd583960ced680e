/-! WHAT THE LAW ASKS: answers, and what stands for the exceptions -/
section LA
variable {P : qP} {hs : List qP} {σ σ' : qS}
theorem ask_of {w a b r : Int32} (h : f_L_asked w a b σ = qan r σ') : f_L_ask w a b σ = qan r σ' := by
  unfold f_L_ask
  rw [h, qb_I]
theorem ask_ix {w a b : Int32} (h : f_L_asked w a b σ = qth qIOE σ') : f_L_ask w a b σ = qan (-2002) σ' := by
  unfold f_L_ask
  rw [h, qb_E, if_pos rfl]
theorem ask_il {w a b : Int32} (h : f_L_asked w a b σ = qth qIAE σ') : f_L_ask w a b σ = qan (-2003) σ' := by
  unfold f_L_ask
  rw [h, qb_E, if_neg (by decide), if_pos rfl]
theorem ask_no {w a b : Int32} (h : f_L_asked w a b σ = qth qNSE σ') : f_L_ask w a b σ = qan (-2004) σ' := by
  unfold f_L_ask
  rw [h, qb_E, if_neg (by decide), if_neg (by decide), if_pos rfl]
theorem isT_many (W : PW P) : isT P (nI (pn P)) = false := by
  have hn := W.1
  cases h : isT P (nI (pn P))
  · rfl
  · obtain ⟨t, ht, e⟩ := (isT_iff W).mp h
    rw [n_eq (by omega) (by omega)] at e
    omega
theorem isT_m1 (W : PW P) : isT P (-1) = false := by
  have hn := W.1
  cases h : isT P (-1)
  · rfl
  · obtain ⟨t, ht, e⟩ := (isT_iff W).mp h
    exact absurd e.symm (n_ne t (by omega))
theorem a_duration (I : InvB σ P hs) : f_L_ask 0 (-1) 0 σ = qan (-2002) σ := by
  refine ask_ix ?_
  show qbind (f_X7_duration (-1) σ) (qvI (fun r1 s1 => (some (.inl (some (qI r1)), s1)))) qE1 = _
  unfold f_X7_duration
  rw [c_reqT I.2.1, isT_m1 I.1, if_neg (by decide)]
  rfl
theorem a_depends (I : InvB σ P hs) (b : Int32) : f_L_ask 1 (nI (pn P)) b σ = qan (-2002) σ := by
  refine ask_ix ?_
  show qbind (f_X7_depends (nI (pn P)) b σ) _ qE1 = _
  unfold f_X7_depends
  rw [c_reqT I.2.1, isT_many I.1, if_neg (by decide)]
  rfl
theorem a_order (I : InvB σ P hs) {x : Int32} (hx : isT P x = false) (b : Int32) : f_L_ask 2 x b σ = qan (-2004) σ := by
  refine ask_no ?_
  show qbind (f_X7_taskInOrder x σ) _ qE1 = _
  unfold f_X7_taskInOrder
  rw [e_isWithin, qb_I, I.2.1.1, show decide ((0 : Int32) ≤ x ∧ x ≤ nI (pn P) - 1) = false from hx]
  rfl
theorem a_early (I : InvB σ P hs) (b : Int32) : f_L_ask 3 (nI (pn P)) b σ = qan (-2002) σ := by
  refine ask_ix ?_
  show qbind (f_X7_earliestStart (nI (pn P)) σ) _ qE1 = _
  unfold f_X7_earliestStart
  rw [c_reqT I.2.1, isT_many I.1, if_neg (by decide)]
  rfl
theorem a_level (I : InvB σ P hs) (b : Int32) : f_L_ask 5 (nI (pn P)) b σ = qan (-2002) σ := by
  refine ask_ix ?_
  show qbind (f_X7_levelledStart (nI (pn P)) σ) _ qE1 = _
  unfold f_X7_levelledStart
  rw [c_reqT I.2.1, isT_many I.1, if_neg (by decide)]
  rfl
theorem a_usage1 (σ : qS) (b : Int32) : f_L_ask 6 3 b σ = qan (-2003) σ := by
  refine ask_il ?_
  show qbind (f_X7_usage 3 b σ) (qvI (fun r1 s1 => (some (.inl (some (qI r1)), s1)))) qE1 = _
  unfold f_X7_usage
  rw [c_reqR, show isR 3 = false from rfl, if_neg (by decide)]
  rfl
theorem a_usage2 (σ : qS) : f_L_ask 6 0 (-1) σ = qan (-2003) σ := by
  refine ask_il ?_
  show qbind (f_X7_usage 0 (-1) σ) (qvI (fun r1 s1 => (some (.inl (some (qI r1)), s1)))) qE1 = _
  unfold f_X7_usage
  rw [c_reqR, show isR 0 = true from rfl, if_pos rfl, qb_V, c_reqD, show isD (-1) = false from rfl, if_neg (by decide)]
  rfl
theorem a_tasksOn (σ : qS) (b : Int32) : f_L_ask 15 (-1) b σ = qan (-2003) σ := by
  refine ask_il ?_
  show qbind (f_X7_tasksOn (-1) σ) (qvI (fun r1 s1 => (some (.inl (some (qI r1)), s1)))) qE1 = _
  unfold f_X7_tasksOn
  rw [c_reqD, show isD (-1) = false from rfl, if_neg (by decide)]
  rfl
/-- the last task: the first that ends with the project -/
theorem a_last (I : InvB σ P hs) (S : PlanSt P σ) : An P hs (f_L_ask 4 0 0 σ) (if gfs (plc P) (pn P) 0 = pn P then -2004 else nI (gfs (plc P) (pn P) 0)) σ := by
  obtain ⟨σ1, c1, q1, I1, s8, p1⟩ := c_plan I S
  have hn := I.1.1
  refine ⟨σ1, ?_, q1, I1, Or.inr ⟨s8, p1⟩⟩
  have cl := c_last_loop I.1 I1.2.1 p1 (pn P) 0 qFU (by omega) (by unfold qFU; omega)
  have hl : f_X7_lastTask σ = if gfs (plc P) (pn P) 0 = pn P then qth qNSE σ1 else qan (nI (gfs (plc P) (pn P) 0)) σ1 := by
    unfold f_X7_lastTask
    rw [c1, qb_P]
    exact cl
  by_cases h : gfs (plc P) (pn P) 0 = pn P
  · rw [if_pos h] at hl ⊢
    refine ask_no ?_
    show qbind (f_X7_lastTask σ) _ qE1 = _
    rw [hl]
    rfl
  · rw [if_neg h] at hl ⊢
    refine ask_of ?_
    show qbind (f_X7_lastTask σ) _ qE1 = _
    rw [hl, qb_I]
/-! ranks beyond the last -/
theorem rb_self (A B : Nat → Int) (t : Nat) : rb A B t t = false := by
  unfold rb
  refine decide_eq_false ?_
  rintro (h | ⟨-, h | ⟨-, h⟩⟩) <;> omega
theorem rkc_small {A B : Nat → Int} {n t : Nat} (ht : t < n) : rkc A B n t < n := by
  have h := gcnt_lt (p := fun w => rb A B w t) (q := fun _ => true) (fun _ _ => rfl) (rb_self A B t) rfl n ht
  exact Nat.lt_of_lt_of_le h (gcnt_le _ n)
theorem rank_many (W : PW P) {A B : Nat → Int} : gfs (rkq P A B (nI (pn P))) (pn P) 0 = pn P := by
  have hn := W.1
  rcases gfs_spec (rkq P A B (nI (pn P))) (pn P) 0 with ⟨h, -⟩ | ⟨h1, h2, h3⟩
  · omega
  · exfalso
    have h4 := rkc_small (A := A) (B := B) (n := pn P) (t := gfs (rkq P A B (nI (pn P))) (pn P) 0) (by omega)
    unfold rkq at h3
    have h5 := of_decide_eq_true h3
    rw [n_eq (by unfold rkq at h4; omega) (by omega)] at h5
    unfold rkq at h4
    omega
theorem a_bySlack (I : InvB σ P hs) (S : PlanSt P σ) (b : Int32) : An P hs (f_L_ask 9 (nI (pn P)) b σ) (-2004) σ := by
  have W := I.1
  have hn := W.1
  obtain ⟨σ1, c1, q1, I1, s8, p1⟩ := c_plan I S
  obtain ⟨σ3, q3, c3, K3, H3, p3⟩ := c_bySlack_loop W (nI (pn P)) (pn P) 0 qFU σ1 (by omega) (by unfold qFU; omega) I1.2.1 p1 (fun t ht => by omega)
  have Q3 : Qt σ1 σ3 := Qt.of q3 (by simp)
  have cr := c_rank W H3 K3 (fun t ht => by have := (W.2.1 t ht).1; show 0 ≤ (pf P 0 t).toInt ∧ (pf P 0 t).toInt ≤ 9; omega) (nI (pn P))
  rw [if_pos (rank_many W)] at cr
  refine ⟨σ3, ask_no ?_, q1.trans Q3, I1.qt Q3, Or.inr ⟨by rw [q3 0 0 (by simp)]; exact s8, p3⟩⟩
  have hc : f_X7_taskBySlack (nI (pn P)) σ = qth qNSE σ3 := by
    unfold f_X7_taskBySlack
    rw [c1, qb_P]
    have c4 := c3
    rw [cr] at c4
    exact c4
  show qbind (f_X7_taskBySlack (nI (pn P)) σ) _ qE1 = _
  rw [hc]
  rfl
theorem a_byStart (I : InvB σ P hs) (S : PlanSt P σ) (b : Int32) : An P hs (f_L_ask 10 (nI (pn P)) b σ) (-2004) σ := by
  have W := I.1
  have hn := W.1
  obtain ⟨σ1, c1, q1, I1, s8, p1⟩ := c_plan I S
  obtain ⟨σ3, q3, c3, K3, H3, p3⟩ := c_byStart_loop W (nI (pn P)) (pn P) 0 qFU σ1 (by omega) (by unfold qFU; omega) I1.2.1 p1 (fun t ht => by omega)
  have Q3 : Qt σ1 σ3 := Qt.of q3 (by simp)
  have cr := c_rank W H3 K3 (fun t ht => by have := (W.2.1 t ht).2.2.1; show 0 ≤ (pf P 2 t).toInt ∧ (pf P 2 t).toInt ≤ 9; omega) (nI (pn P))
  rw [if_pos (rank_many W)] at cr
  refine ⟨σ3, ask_no ?_, q1.trans Q3, I1.qt Q3, Or.inr ⟨by rw [q3 0 0 (by simp)]; exact s8, p3⟩⟩
  have hc : f_X7_taskByStart (nI (pn P)) σ = qth qNSE σ3 := by
    unfold f_X7_taskByStart
    rw [c1, qb_P]
    have c4 := c3
    rw [cr] at c4
    exact c4
  show qbind (f_X7_taskByStart (nI (pn P)) σ) _ qE1 = _
  rw [hc]
  rfl
/-! the baseline -/
theorem a_base0 (I : InvB σ P hs) (b : Int32) : f_L_ask 7 (nI (pn P)) b σ = qan (-2002) σ := by
  refine ask_ix ?_
  show qbind (f_X7_baselineStart (nI (pn P)) σ) _ qE1 = _
  unfold f_X7_baselineStart
  rw [c_reqT I.2.1, isT_many I.1, if_neg (by decide)]
  rfl
/-- a baseline's start, or that there is none -/
def pbs (P : qP) (t : Nat) : Int32 := if phs P t = true then pf P 5 t else -2004
theorem a_base (I : InvB σ P hs) {t : Nat} (ht : t < pn P) (b : Int32) : f_L_ask 7 (nI t) b σ = qan (pbs P t) σ := by
  have h : f_X7_baselineStart (nI t) σ = if phs P t = true then qan (pf P 5 t) σ else qth qNSE σ := by
    unfold f_X7_baselineStart
    rw [c_reqT I.2.1, isT_n I.1 ht, if_pos rfl, qb_V, c_reqB I.1 I.2.1 ht]
    cases phs P t
    · rfl
    · rw [if_pos rfl, if_pos rfl, qb_V, c_base I.2.1 I.1 ht, qb_I]
  unfold pbs
  cases hp : phs P t
  · rw [hp] at h
    rw [if_neg (by decide)] at h ⊢
    refine ask_no ?_
    show qbind (f_X7_baselineStart (nI t) σ) _ qE1 = _
    rw [h]
    rfl
  · rw [hp, if_pos rfl] at h
    rw [if_pos rfl]
    refine ask_of ?_
    show qbind (f_X7_baselineStart (nI t) σ) _ qE1 = _
    rw [h, qb_I]
theorem a_drift (I : InvB σ P hs) (S : PlanSt P σ) {t : Nat} (ht : t < pn P) (b : Int32) : An P hs (f_L_ask 14 (nI t) b σ) (if phs P t = true then pdr P t + 5000 else -2004) σ := by
  obtain ⟨σ1, c1, q1, I1, S1⟩ := c_drift I S ht
  cases hp : phs P t
  · refine ⟨σ, ?_, Qt.refl σ, I, S⟩
    rw [if_neg (by decide)]
    refine ask_no ?_
    show qbind (f_X7_drift (nI t) σ) _ qE1 = _
    unfold f_X7_drift
    rw [c_reqT I.2.1, isT_n I.1 ht, if_pos rfl, qb_V, c_reqB I.1 I.2.1 ht, hp]
    rfl
  · refine ⟨σ1, ?_, q1, I1, S1⟩
    rw [if_pos rfl]
    refine ask_of ?_
    show qbind (f_X7_drift (nI t) σ) _ qE1 = _
    unfold f_X7_drift
    rw [c_reqT I.2.1, isT_n I.1 ht, if_pos rfl, qb_V, c_reqB I.1 I.2.1 ht, hp, if_pos rfl, qb_V, c1, qb_I, qb_I]
theorem a_total (I : InvB σ P hs) (S : PlanSt P σ) : An P hs (f_L_ask 8 0 0 σ) (if ph P = 0 then -2004 else fo (fun t a => if phs P t = true then a + qabs (pdr P t) else a) (pn P) 0 0) σ := by
  have hn := I.1.1
  by_cases h : ph P = 0
  · refine ⟨σ, ?_, Qt.refl σ, I, S⟩
    rw [if_pos h]
    refine ask_no ?_
    show qbind (f_X7_totalDrift σ) _ qE1 = _
    unfold f_X7_totalDrift
    rw [I.2.1.2.2.2, if_pos h]
    rfl
  · obtain ⟨σ1, c1, q1, I1, S1⟩ := c_td_loop (P := P) (pn P) 0 qFU 0 σ (by omega) (by unfold qFU; omega) I S
    refine ⟨σ1, ?_, q1, I1, S1⟩
    rw [if_neg h]
    refine ask_of ?_
    show qbind (f_X7_totalDrift σ) _ qE1 = _
    unfold f_X7_totalDrift
    rw [I.2.1.2.2.2, if_neg h]
    erw [c1]
    rw [qb_I]
theorem m_hasBase (I : InvB σ P hs) : f_X7_hasBaseline σ = qan (ph P) σ := by
  have hp : qbo (ph P) := by
    rcases I.1.2.2.2.2.1 with h | h
    · rw [h]; exact qb1_bo false
    · rw [h]; exact qb1_bo true
  unfold f_X7_hasBaseline
  rw [I.2.1.2.2.2, if_pos hp]
end LA
