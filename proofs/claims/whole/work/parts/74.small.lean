/-! parts of the invariant, moved -/
section TR
variable {P : qP} {hs : List qP} {sv : qP} {σ σ' : qS}
theorem Rep.tr {j : Nat} (H : Rep σ j P) (k : ∀ a, 1 ≤ a → a ≤ 8 → σ' a j = σ a j) : Rep σ' j P :=
  ⟨by rw [k 1 (by omega) (by omega)]; exact H.1, fun f t hf ht => by rw [k (2 + f) (by omega) (by omega)]; exact H.2.1 f t hf ht, fun r hr => by rw [k 8 (by omega) (by omega)]; exact H.2.2.1 r hr, by rw [k 1 (by omega) (by omega)]; exact H.2.2.2⟩
theorem RepR.tr {k o : Nat} (H : RepR σ k o P) (e : σ' k 0 = σ k 0) : RepR σ' k o P := by
  unfold RepR
  rw [e]
  exact H
theorem SaveOK.tr (h : SaveOK σ sv) (z9 : σ' 0 0 9 = σ 0 0 9) (y4 : σ' 26 0 4 = σ 26 0 4) (k29 : σ' 29 0 = σ 29 0) (k : ∀ a, 1 ≤ a → a ≤ 8 → σ' a 2 = σ a 2) : SaveOK σ' sv := by
  refine ⟨by rw [z9, y4]; exact h.1, ?_⟩
  rw [z9]
  rcases h.2 with b2 | ⟨b2, b3, b4, b5⟩
  · exact Or.inl b2
  · exact Or.inr ⟨b2, b3, b4.tr k, b5.tr k29⟩
theorem TextOK.tr {n : Nat} (h : TextOK σ n) (k19 : σ' 19 0 3 = σ 19 0 3) (y14 : σ' 26 0 14 = σ 26 0 14) (k20 : σ' 20 0 = σ 20 0) (k35 : σ' 35 0 = σ 35 0) : TextOK σ' n :=
  ⟨h.1, by rw [k19]; exact h.2.1, by rw [y14]; exact h.2.2.1, fun i hi => by rw [k20, k35]; exact h.2.2.2 i hi⟩
theorem ErrOK.tr (h : ErrOK σ) (z : ∀ x, 10 ≤ x → x ≤ 12 → σ' 0 0 x = σ 0 0 x) (y : ∀ x, 6 ≤ x → x ≤ 8 → σ' 26 0 x = σ 26 0 x) : ErrOK σ' :=
  ⟨by rw [z 10 (by omega) (by omega), y 6 (by omega) (by omega)]; exact h.1, by rw [z 11 (by omega) (by omega), y 7 (by omega) (by omega)]; exact h.2.1, by rw [z 11 (by omega) (by omega), z 12 (by omega) (by omega), y 8 (by omega) (by omega)]; exact h.2.2⟩
theorem OutOK.tr {n : Nat} (h : OutOK σ n) (k23 : σ' 23 0 1 = σ 23 0 1) (y16 : σ' 26 0 16 = σ 26 0 16) (k24 : σ' 24 0 = σ 24 0) (k36 : σ' 36 0 = σ 36 0) : OutOK σ' n :=
  ⟨h.1, by rw [k23]; exact h.2.1, by rw [y16]; exact h.2.2.1, fun i hi => by rw [k24, k36]; exact h.2.2.2 i hi⟩
end TR
/-! outputAt, type, the last script's failure -/
section SM
variable {P : qP} {hs : List qP} {sv : qP} {σ : qS}
theorem i_char {x : Int32} (h : 0 ≤ x.toInt ∧ x.toInt ≤ 126) : ∃ k, k ≤ 126 ∧ x = nI k := ⟨x.toInt.toNat, by omega, i_nI (by omega) (by omega)⟩
theorem qch_n {k : Nat} (h : k ≤ 126) : qch (nI k) := ⟨nI_pos' (by omega), by rw [show (65535 : Int32) = nI 65535 from rfl]; exact nI_le (by omega) (by omega)⟩
theorem k_outputAt (a : Int32) (h : Inv σ) : CaseL (f_L_outputAt a) (f_X8_outputAt a) σ := by
  obtain ⟨P, hs, sv, I, S⟩ := h
  obtain ⟨n, o1, o2, o3, o4⟩ := I.2.2.2.2.2.2.2
  have hi := i_in (x := a) (n := n) (by omega)
  by_cases hx : (0 : Int32) ≤ a ∧ a ≤ nI n - 1
  · obtain ⟨i, hlt, rfl⟩ := hi.mp hx
    obtain ⟨e1, e2⟩ := o4 i hlt
    obtain ⟨k, hk, ek⟩ := i_char e2
    have hc : f_X7_charAt 24 0 (nI i) σ = qan (nI k) σ := by
      unfold f_X7_charAt
      rw [if_neg (n_ge0 (by omega)), if_neg (by rw [show Int32.ofNat (qlen 24) = nI 414 from rfl, n_le (by omega) (by omega)]; omega), if_pos (n_in (show i < qlen 24 by show i < 414; omega) (by decide)), nI_clamp (by omega), ek, if_pos (qch_n hk)]
    have R1 := I.out (nI k)
    refine case0 (r := nI k) (σ1 := σ) (by unfold f_L_outputAt f_X7_outputAt; rw [e_isWithin, qb_I, o2, decide_eq_true hx, if_neg (by decide), hc, qb_I, if_pos (qch_n hk)]; rfl) I S (σ2 := qu (qu σ 38 0 0 (nI k)) 26 0 17 0) ?_ (thr_at _ _) (Qr.thr _ _)
    unfold f_X8_outputAt
    rw [r_isIn, qb_I, show (qu σ 38 0 0 (nI k)) 26 0 16 = nI n by rw [qu_at, if_neg (by decide)]; exact o3, decide_eq_true hx, r_goes, qb_I, if_neg (by decide), if_pos (n_in (show i < 600 by omega) (by decide)), nI_clamp (by omega)]
    have e3 : (qu (qu σ 38 0 0 (nI k)) 26 0 17 (nI (thrc true true true))) 36 0 i = nI k := by rw [qu_at, if_neg (by simp), qu_at, if_neg (by simp), ← e1, ek]
    rw [e3, n_cast (by omega), if_pos (qch_n hk)]
    rfl
  · exact casek (k := 1) (b := 0) (by decide) (by decide) (by unfold f_L_outputAt f_X7_outputAt; rw [e_isWithin, qb_I, o2, decide_eq_false hx, if_pos (by rfl)]; rfl) I S (by unfold f_X8_outputAt; rw [r_isIn, qb_I, o3, decide_eq_false hx, r_goes, qb_I, if_pos (by decide)]; try rfl) (thr_at _ _) (Qr.thr _ _)
theorem k_errorPosition (h : Inv σ) : CaseL f_L_errorPosition f_X8_errorPosition σ := by
  obtain ⟨P, hs, sv, I, S⟩ := h
  obtain ⟨d1, d2, d3⟩ := I.2.2.2.2.2.2.1
  by_cases hx : σ 0 0 10 = -1
  · exact casek (k := 1) (b := 0) (by decide) (by decide) (by unfold f_L_errorPosition f_X7_errorPosition; rw [if_pos hx]; rfl) I S (by unfold f_X8_errorPosition; rw [if_pos (d1 ▸ hx), show (0 : Int32) = qb1 false from rfl, r_goes, qb_I, if_pos (by decide)]; try rfl) (thr_at _ _) (Qr.thr _ _)
  · refine case0 (r := σ 0 0 10) (σ1 := σ) (by unfold f_L_errorPosition f_X7_errorPosition; rw [if_neg hx]; rfl) I S (σ2 := qu (qu σ 38 0 0 (σ 0 0 10)) 26 0 17 0) ?_ (thr_at _ _) (Qr.thr _ _)
    have e : (qu σ 38 0 0 (σ 0 0 10)) 26 0 6 = σ 0 0 10 := by rw [qu_at, if_neg (by decide), d1]
    unfold f_X8_errorPosition
    rw [e, if_neg hx]
    show qbind (f_X8_goes (qb1 true) _) _ _ = _
    rw [r_goes, qb_I, if_neg (by decide)]
    show qan ((qu (qu σ 38 0 0 (σ 0 0 10)) 26 0 17 0) 26 0 6) _ = _
    rw [qu_at, if_neg (by decide), e]
    rfl
theorem k_failedCommand (h : Inv σ) : CaseL f_L_failedCommand f_X8_failedCommand σ := by
  obtain ⟨P, hs, sv, I, S⟩ := h
  obtain ⟨d1, d2, d3⟩ := I.2.2.2.2.2.2.1
  by_cases hx : σ 0 0 11 = -1
  · exact casek (k := 1) (b := 0) (by decide) (by decide) (by unfold f_L_failedCommand f_X7_failedCommand f_X7_requireFailure; rw [if_pos hx]; rfl) I S (by unfold f_X8_failedCommand; rw [if_pos (d2 ▸ hx), show (0 : Int32) = qb1 false from rfl, r_goes, qb_I, if_pos (by decide)]; try rfl) (thr_at _ _) (Qr.thr _ _)
  · refine case0 (r := σ 0 0 11) (σ1 := σ) (by unfold f_L_failedCommand f_X7_failedCommand f_X7_requireFailure; rw [if_neg hx]; rfl) I S (σ2 := qu (qu σ 38 0 0 (σ 0 0 11)) 26 0 17 0) ?_ (thr_at _ _) (Qr.thr _ _)
    have e : (qu σ 38 0 0 (σ 0 0 11)) 26 0 7 = σ 0 0 11 := by rw [qu_at, if_neg (by decide), d2]
    unfold f_X8_failedCommand
    rw [e, if_neg hx]
    show qbind (f_X8_goes (qb1 true) _) _ _ = _
    rw [r_goes, qb_I, if_neg (by decide)]
    show qan ((qu (qu σ 38 0 0 (σ 0 0 11)) 26 0 17 0) 26 0 7) _ = _
    rw [qu_at, if_neg (by decide), e]
    rfl
theorem k_failureReason (h : Inv σ) : CaseL f_L_failureReason f_X8_failureReason σ := by
  obtain ⟨P, hs, sv, I, S⟩ := h
  obtain ⟨d1, d2, d3⟩ := I.2.2.2.2.2.2.1
  by_cases hx : σ 0 0 11 = -1
  · exact casek (k := 1) (b := 0) (by decide) (by decide) (by unfold f_L_failureReason f_X7_failureReason f_X7_requireFailure; rw [if_pos hx]; rfl) I S (by unfold f_X8_failureReason; rw [if_pos (d2 ▸ hx)]; show qbind (f_X8_goes (qb1 false) σ) _ _ = _; rw [r_goes, qb_I, if_pos (by decide)]; try rfl) (thr_at _ _) (Qr.thr _ _)
  · obtain ⟨d4, d5⟩ := d3 hx
    obtain ⟨k, hk, ek⟩ := i_char d5
    refine case0 (r := nI k) (σ1 := σ) (by unfold f_L_failureReason f_X7_failureReason f_X7_requireFailure; rw [if_neg hx, qb_V, ek, if_pos (qch_n hk)]; rfl) I S (σ2 := qu (qu σ 38 0 0 (nI k)) 26 0 17 0) ?_ (thr_at _ _) (Qr.thr _ _)
    have e : (qu σ 38 0 0 (nI k)) 26 0 7 = σ 0 0 11 := by rw [qu_at, if_neg (by decide), d2]
    have e8 : (qu (qu σ 38 0 0 (nI k)) 26 0 17 0) 26 0 8 = nI k := by rw [qu_at, if_neg (by decide), qu_at, if_neg (by decide), ← d4, ek]
    unfold f_X8_failureReason
    rw [e, if_neg hx]
    show qbind (f_X8_goes (qb1 true) _) _ _ = _
    rw [r_goes, qb_I, if_neg (by decide)]
    rw [show (qu (qu σ 38 0 0 (nI k)) 26 0 17 (nI (thrc true true true))) 26 0 8 = nI k from e8, n_cast (by omega), if_pos (qch_n hk)]
    rfl
/-- type -/
theorem k_type (a : Int32) (h : Inv σ) : CaseL (f_L_type a) (f_X8_type a) σ := by
  obtain ⟨P, hs, sv, I, S⟩ := h
  obtain ⟨n, t1, t2, t3, t4⟩ := I.2.2.2.2.2.1
  obtain ⟨W, H, R, HH, SS, -, EE, OO⟩ := I
  have I : InvB σ P hs sv := ⟨W, H, R, HH, SS, ⟨n, t1, t2, t3, t4⟩, EE, OO⟩
  by_cases hx : (32 : Int32) ≤ a ∧ a ≤ 126
  · have ha : 32 ≤ a.toInt ∧ a.toInt ≤ 126 := by
      rw [i_le, i_le] at hx
      exact hx
    obtain ⟨k, hk, ek⟩ := i_char (x := a) (by omega)
    by_cases hf : n = 60
    · refine casek (k := 2) (b := 0) (σ1 := σ) (σ2 := qu σ 26 0 17 2) (by decide) (by decide) (by unfold f_L_type f_X7_type; rw [e_isWithin, qb_I, decide_eq_true hx, if_neg (by decide), t2, if_neg (by rw [hf]; decide)]; rfl) I S ?_ (thr_at _ _) (Qr.thr _ _)
      unfold f_X8_type
      rw [r_isIn, qb_I, decide_eq_true hx, t3, if_pos (by rw [hf]; decide)]
      unfold j_X8_type_23
      show qbind (f_X8_holds (qb1 true) (qb1 false) (qb1 true) σ) _ _ = _
      rw [r_holds, qb_I, if_pos (by decide)]
      rfl
    · obtain ⟨τ, hτ⟩ : ∃ τ, τ = qu (qu σ 20 0 n a) 19 0 3 (nI (n + 1)) := ⟨_, rfl⟩
      have hc : f_X7_type a σ = qan (nI (n + 1)) τ := by
        unfold f_X7_type f_X6_append
        rw [e_isWithin, qb_I, decide_eq_true hx, if_neg (by decide), t2, if_pos (by rw [show (60 : Int32) = nI 60 from rfl, n_lt (by omega) (by omega)]; omega), if_neg (n_ge0 (by omega)), if_neg (by rw [show Int32.ofNat 60 = nI 60 from rfl, n_le (by omega) (by omega)]; omega), if_pos ⟨n_in (by omega) (by decide), by rw [ek]; exact qch_n hk⟩, nI_clamp (by omega), qlet_eq, qlet_eq, qb_V]
        rw [show (qu σ 20 0 n a) 19 0 3 = nI n by rw [qu_at, if_neg (by simp)]; exact t2, nI_1, ← hτ]
        rw [show τ 19 0 3 = nI (n + 1) by rw [hτ, qu_at, if_pos ⟨rfl, rfl, rfl⟩]]
      obtain ⟨σ2, hσ2⟩ : ∃ σ2, σ2 = qu (qu (qu (qu τ 38 0 0 (nI (n + 1))) 26 0 17 0) 35 0 n a) 26 0 14 (nI (n + 1)) := ⟨_, rfl⟩
      have e14 : (qu (qu τ 38 0 0 (nI (n + 1))) 26 0 17 0) 26 0 14 = nI n := by rw [qu_at, if_neg (by decide), qu_at, if_neg (by decide), hτ, qu_at, if_neg (by simp), qu_at, if_neg (by simp)]; exact t3
      have hq : f_X8_type a (qu τ 38 0 0 (nI (n + 1))) = qan (nI (n + 1)) σ2 := by
        unfold f_X8_type
        rw [r_isIn, qb_I, decide_eq_true hx, show (qu τ 38 0 0 (nI (n + 1))) 26 0 14 = nI n by rw [qu_at, if_neg (by decide), hτ, qu_at, if_neg (by simp), qu_at, if_neg (by simp)]; exact t3, if_neg (by rw [show (60 : Int32) = nI 60 from rfl, n_le (by omega) (by omega)]; omega)]
        unfold j_X8_type_23
        show qbind (f_X8_holds (qb1 true) (qb1 true) (qb1 true) (qu τ 38 0 0 (nI (n + 1)))) _ _ = _
        rw [r_holds, qb_I, if_neg (by decide)]
        rw [show nI (thrc true true true) = (0 : Int32) from rfl]
        rw [e14, if_pos (n_in (by omega) (by decide)), nI_clamp (by omega), qlet_eq, qlet_eq]
        have e15 : (qu (qu (qu τ 38 0 0 (nI (n + 1))) 26 0 17 0) 35 0 n a) 26 0 14 = nI n := by rw [qu_at, if_neg (by simp), e14]
        rw [e15, nI_1, ← hσ2]
        rw [show σ2 26 0 14 = nI (n + 1) by rw [hσ2, qu_at, if_pos ⟨rfl, rfl, rfl⟩]]
      have o : ∀ a' b x, a' ≠ 19 → a' ≠ 20 → a' ≠ 26 → a' ≠ 35 → a' ≠ 38 → σ2 a' b x = σ a' b x := fun a' b x h1 h2 h3 h4 h5 => by
        rw [hσ2, qu_at, if_neg (fun h => h3 h.1), qu_at, if_neg (fun h => h4 h.1), qu_at, if_neg (fun h => h3 h.1), qu_at, if_neg (fun h => h5 h.1), hτ, qu_at, if_neg (fun h => h1 h.1), qu_at, if_neg (fun h => h2 h.1)]
      have o2 : ∀ a' b, a' ≠ 19 → a' ≠ 20 → a' ≠ 26 → a' ≠ 35 → a' ≠ 38 → σ2 a' b = σ a' b := fun a' b h1 h2 h3 h4 h5 => funext (fun x => o a' b x h1 h2 h3 h4 h5)
      have o26 : ∀ x, x ≠ 14 → x ≠ 17 → σ2 26 0 x = σ 26 0 x := fun x h1 h2 => by
        rw [hσ2, qu_at, if_neg (fun h => h1 h.2.2), qu_at, if_neg (by simp), qu_at, if_neg (fun h => h2 h.2.2), qu_at, if_neg (by simp), hτ, qu_at, if_neg (by simp), qu_at, if_neg (by simp)]
      have o20 : ∀ x, σ2 20 0 x = if x = n then a else σ 20 0 x := fun x => by
        rw [hσ2, qu_at, if_neg (by simp), qu_at, if_neg (by simp), qu_at, if_neg (by simp), qu_at, if_neg (by simp), hτ, qu_at, if_neg (by simp), qu_at]
        simp
      have o35 : ∀ x, σ2 35 0 x = if x = n then a else σ 35 0 x := fun x => by
        rw [hσ2, qu_at, if_neg (by simp), qu_at]
        by_cases hxn : x = n
        · rw [if_pos ⟨rfl, rfl, hxn⟩, if_pos hxn]
        · rw [if_neg (fun h => hxn h.2.2), if_neg hxn, qu_at, if_neg (by simp), qu_at, if_neg (by simp), hτ, qu_at, if_neg (by simp), qu_at, if_neg (by simp)]
      have q2 : qsm [19, 20, 26, 35, 38] σ σ2 := fun a' b h => by
        simp only [List.mem_cons, List.not_mem_nil, or_false] at h
        exact o2 a' b (by omega) (by omega) (by omega) (by omega) (by omega)
      refine ⟨0, qu τ 38 0 0 (nI (n + 1)), nI (n + 1), σ2, by decide, by unfold f_L_type; rw [hc]; rfl, hq, ?_, fun _ => ?_, P, hs, sv, ⟨W, H.same q2 (by simp), R.same q2 (by simp), ?_, SS.tr (o 0 0 9 (by decide) (by decide) (by decide) (by decide) (by decide)) (o26 4 (by decide) (by decide)) (o2 29 0 (by decide) (by decide) (by decide) (by decide) (by decide)) (fun a' h1 h2 => o2 a' 2 (by omega) (by omega) (by omega) (by omega) (by omega)), ⟨n + 1, by omega, ?_, ?_, fun i hi => ?_⟩, EE.tr (fun x _ _ => o 0 0 x (by decide) (by decide) (by decide) (by decide) (by decide)) (fun x h1 h2 => o26 x (by omega) (by omega)), ?_⟩, ?_⟩
      · rw [hσ2, qu_at, if_neg (by decide), qu_at, if_neg (by simp)]; exact thr_at _ _
      · rw [hσ2, qu_at, if_neg (by decide), qu_at, if_neg (by simp), qu_at, if_neg (by decide), qu_at, if_pos ⟨rfl, rfl, rfl⟩]
      · obtain ⟨a1, a2, a3, a4, nx, a5, a6, a7⟩ := HH
        exact ⟨a1, by rw [o 9 0 1 (by decide) (by decide) (by decide) (by decide) (by decide)]; exact a2, by rw [o26 5 (by decide) (by decide)]; exact a3, fun i Q hQ => ⟨(a4 i Q hQ).1, (a4 i Q hQ).2.same q2 (by simp)⟩, nx, a5, by rw [o 9 0 2 (by decide) (by decide) (by decide) (by decide) (by decide)]; exact a6, fun i Q hQ => (a7 i Q hQ).same q2 (by simp)⟩
      · rw [hσ2, qu_at, if_neg (by simp), qu_at, if_neg (by simp), qu_at, if_neg (by simp), qu_at, if_neg (by simp), hτ, qu_at, if_pos ⟨rfl, rfl, rfl⟩]
      · rw [hσ2, qu_at, if_pos ⟨rfl, rfl, rfl⟩]
      · rw [o20, o35]
        by_cases hin : i = n
        · rw [if_pos hin, if_pos hin]; exact ⟨rfl, ha⟩
        · rw [if_neg hin, if_neg hin]; exact t4 i (by omega)
      · obtain ⟨m, hm⟩ := OO
        exact ⟨m, hm.tr (o 23 0 1 (by decide) (by decide) (by decide) (by decide) (by decide)) (o26 16 (by decide) (by decide)) (o2 24 0 (by decide) (by decide) (by decide) (by decide) (by decide)) (o2 36 0 (by decide) (by decide) (by decide) (by decide) (by decide))⟩
      · unfold PlanSt
        rw [o 0 0 8 (by decide) (by decide) (by decide) (by decide) (by decide)]
        exact S.elim Or.inl (fun h => Or.inr ⟨h.1, h.2.same q2 (by simp)⟩)
  · refine casek (k := 1) (b := 0) (σ1 := σ) (σ2 := qu σ 26 0 17 1) (by decide) (by decide) (by unfold f_L_type f_X7_type; rw [e_isWithin, qb_I, decide_eq_false hx, if_pos (by rfl)]; rfl) I S ?_ (thr_at _ _) (Qr.thr _ _)
    unfold f_X8_type
    rw [r_isIn, qb_I, decide_eq_false hx]
    split
    · unfold j_X8_type_23
      show qbind (f_X8_holds (qb1 false) (qb1 false) (qb1 true) σ) _ _ = _
      rw [r_holds, qb_I, if_pos (by decide)]
      rfl
    · unfold j_X8_type_23
      show qbind (f_X8_holds (qb1 false) (qb1 true) (qb1 true) σ) _ _ = _
      rw [r_holds, qb_I, if_pos (by decide)]
      rfl
end SM
