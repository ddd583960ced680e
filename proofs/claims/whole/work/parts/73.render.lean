/-! renderTask, renderUsage -/
section QR3
variable {P : qP} {hs : List qP} {sv : qP} {σ σ1 σ3 σ7 : qS}
/-- what rendering moves -/
def Qw (σ σ' : qS) : Prop := (∀ a b, a ∉ [23, 24, 26, 28, 31, 32, 33, 34, 36, 37, 38, 39] → σ' a b = σ a b) ∧ ∀ x, ¬ x = 17 → ¬ x = 16 → σ' 26 0 x = σ 26 0 x
/-- the reference's part -/
def Qx (σ σ' : qS) : Prop := (∀ a b, a ∉ [26, 28, 31, 32, 33, 34, 36, 37] → σ' a b = σ a b) ∧ ∀ x, ¬ x = 17 → σ' 26 0 x = σ 26 0 x
theorem Qx.trans {σ σ' σ'' : qS} (h : Qx σ σ') (h2 : Qx σ' σ'') : Qx σ σ'' := ⟨fun a b ha => (h2.1 a b ha).trans (h.1 a b ha), fun x hx => (h2.2 x hx).trans (h.2 x hx)⟩
theorem Qx.of {ks : List Nat} {σ σ' : qS} (h : qsm ks σ σ') (hk : ∀ k ∈ ks, k ∈ [28, 31, 32, 33, 34, 36, 37]) : Qx σ σ' := by
  have e : ∀ a, a ∉ [28, 31, 32, 33, 34, 36, 37] → ∀ b, σ' a b = σ a b := fun a ha b => h a b (fun h2 => ha (hk a h2))
  refine ⟨fun a b ha => e a (fun h2 => ha ?_) b, fun x _ => by rw [e 26 (by simp)]⟩
  simp only [List.mem_cons, List.not_mem_nil, or_false] at h2 ⊢
  omega
theorem Qx.thr (σ : qS) (v : Int32) : Qx σ (qu σ 26 0 17 v) := ⟨fun a b ha => qu_other σ (fun h => ha (by rw [h.1]; simp)), fun x hx => by rw [qu_at, if_neg (fun h => hx h.2.2)]⟩
theorem InvB.qw {σ σ' : qS} (I : InvB σ P hs sv) (h : Qw σ σ') (o : ∃ m, OutOK σ' m) : InvB σ' P hs sv := by
  obtain ⟨h1, h2, h3, ⟨a1, a2, a3, a4, nx, a5, a6, a7⟩, ⟨b1, b2⟩, ⟨n, c1, c2, c3, c4⟩, ⟨d1, d2, d3⟩, -⟩ := I
  have k0 : σ' 0 0 = σ 0 0 := h.1 0 0 (by simp)
  have k9 : σ' 9 0 = σ 9 0 := h.1 9 0 (by simp)
  have k19 : σ' 19 0 = σ 19 0 := h.1 19 0 (by simp)
  have k20 : σ' 20 0 = σ 20 0 := h.1 20 0 (by simp)
  have k35 : σ' 35 0 = σ 35 0 := h.1 35 0 (by simp)
  have y : ∀ x, ¬ x = 17 → ¬ x = 16 → σ' 26 0 x = σ 26 0 x := h.2
  have q : qsm [23, 24, 26, 28, 31, 32, 33, 34, 36, 37, 38, 39] σ σ' := fun a b ha => h.1 a b ha
  refine ⟨h1, h2.same q (by simp), h3.same q (by simp), ⟨a1, by rw [k9]; exact a2, by rw [y 5 (by decide) (by decide)]; exact a3, fun i Q hQ => ⟨(a4 i Q hQ).1, (a4 i Q hQ).2.same q (by simp)⟩, nx, a5, by rw [k9]; exact a6, fun i Q hQ => (a7 i Q hQ).same q (by simp)⟩,
    ⟨by rw [k0, y 4 (by decide) (by decide)]; exact b1, ?_⟩, ⟨n, c1, by rw [k19]; exact c2, by rw [y 14 (by decide) (by decide)]; exact c3, fun i hi => by rw [k20, k35]; exact c4 i hi⟩, ⟨by rw [k0, y 6 (by decide) (by decide)]; exact d1, by rw [k0, y 7 (by decide) (by decide)]; exact d2, by rw [k0, y 8 (by decide) (by decide)]; exact d3⟩, o⟩
  rw [k0]
  rcases b2 with b2 | ⟨b2, b3, b4, b5⟩
  · exact Or.inl b2
  · exact Or.inr ⟨b2, b3, b4.same q (by simp), b5.same q (by simp)⟩
theorem txt_end {w q : qS → Option qO} (I : InvB σ1 P hs sv) (S : PlanSt P σ1) (T : List Int32) (hT : T.length ≤ 414) (ok : okt T) (hw : w σ = qan 0 (qu σ3 38 0 0 (nI T.length))) (q3 : qsm [23, 24] σ1 σ3) (C3 : CT σ3 T) (hq : q (qu σ3 38 0 0 (nI T.length)) = qan (nI T.length) (qu σ7 26 0 16 (nI T.length))) (R7 : RT σ7 T) (t7 : σ7 26 0 17 = 0) (Q7 : Qx (qu σ3 38 0 0 (nI T.length)) σ7) : CaseL w q σ := by
  have e38 : ∀ a b x, ¬ a = 38 → (qu σ3 38 0 0 (nI T.length)) a b x = σ3 a b x := fun a b x ha => by rw [qu_at, if_neg (fun h => ha h.1)]
  have QW : Qw σ1 (qu σ7 26 0 16 (nI T.length)) := by
    refine ⟨fun a b ha => ?_, fun x h1 h2 => ?_⟩
    · simp only [List.mem_cons, List.not_mem_nil, or_false] at ha
      rw [qu_other σ7 (fun h => ha (by omega)), Q7.1 a b (by simp only [List.mem_cons, List.not_mem_nil, or_false]; omega), qu_other σ3 (fun h => ha (by omega)), q3 a b (by simp only [List.mem_cons, List.not_mem_nil, or_false]; omega)]
    · rw [qu_at, if_neg (fun h => h2 h.2.2), Q7.2 x h1, e38 26 0 x (by decide), q3 26 0 (by simp)]
  refine ⟨0, _, nI T.length, _, by decide, hw, hq, ?_, fun _ => ?_, P, hs, sv, I.qw QW ⟨T.length, hT, ?_, ?_, fun i hi => ?_⟩, ?_⟩
  · rw [qu_at, if_neg (by decide)]; exact t7
  · rw [qu_at, if_neg (by decide), Q7.1 38 0 (by simp), qu_at, if_pos ⟨rfl, rfl, rfl⟩]
  · rw [qu_at, if_neg (by decide), Q7.1 23 0 (by simp), e38 23 0 1 (by decide)]; exact C3.1
  · rw [qu_at, if_pos ⟨rfl, rfl, rfl⟩]
  · obtain ⟨v, hv⟩ : ∃ v, T[i]? = some v := ⟨T[i], List.getElem?_eq_getElem hi⟩
    have e1 : (qu σ7 26 0 16 (nI T.length)) 24 0 i = v := by
      rw [qu_at, if_neg (by simp), Q7.1 24 0 (by simp), e38 24 0 i (by decide)]; exact C3.2 i v hv
    have e2 : (qu σ7 26 0 16 (nI T.length)) 36 0 i = v := by
      rw [qu_at, if_neg (by simp)]; exact R7 i v hv
    have := ok v (List.mem_of_getElem? hv)
    rw [e1, e2]
    exact ⟨rfl, this⟩
  · have e0 : (qu σ7 26 0 16 (nI T.length)) 0 0 = σ1 0 0 := QW.1 0 0 (by simp)
    unfold PlanSt
    rw [e0]
    exact S.elim Or.inl (fun h => Or.inr ⟨h.1, h.2.same (ks := [23, 24, 26, 28, 31, 32, 33, 34, 36, 37, 38, 39]) (fun a b ha => QW.1 a b ha) (by simp)⟩)
/-! the needed tasks -/
def ntx (P : qP) (t : Nat) : Nat → Nat → List Int32 → List Int32
  | 0, _, T => T
  | d + 1, u, T => ntx P t d (u + 1) (if ped P t u = true then T ++ [nI 60] ++ dgs u else T)
theorem ntx_len (P : qP) (t : Nat) : ∀ d u T, (ntx P t d u T).length ≤ T.length + 4 * d
  | 0, _, _ => Nat.le_refl _
  | d + 1, u, T => by
    have h := ntx_len P t d (u + 1) (if ped P t u = true then T ++ [nI 60] ++ dgs u else T)
    have g := dgs_len u
    unfold ntx
    by_cases e : ped P t u = true
    · rw [if_pos e] at h ⊢
      simp only [List.length_append, List.length_cons, List.length_nil] at h
      omega
    · rw [if_neg e] at h ⊢
      omega
theorem ntx_ok (P : qP) (t : Nat) : ∀ d u T, okt T → okt (ntx P t d u T)
  | 0, _, _, h => h
  | d + 1, u, T, h => by
    unfold ntx
    refine ntx_ok P t d (u + 1) _ ?_
    split
    · exact okt_app (okt_app h (okt_one (by decide))) (okt_dgs u)
    · exact h
theorem c_nt_loop (W : PW P) {t : Nat} (ht : t < pn P) : ∀ (d i m : Nat) (T : List Int32) (σ : qS), i + d = pn P → d < m → Rep σ 0 P → CT σ T → T.length + 4 * d ≤ 414 → ∃ σ', l_X7_renderTask_149 m (nI t) (nI i) σ = qan (nI (ntx P t d i T).length) σ' ∧ CT σ' (ntx P t d i T) ∧ qsm [23, 24] σ σ' := by
  have hn := W.1
  intro d
  induction d with
  | zero =>
    intro i m T σ hi hm H C hT
    obtain ⟨m, rfl⟩ : ∃ m', m = m' + 1 := ⟨m - 1, by omega⟩
    refine ⟨σ, ?_, C, qsm.refl _ σ⟩
    simp only [l_X7_renderTask_149, b_X7_renderTask_149]
    rw [if_pos (by rw [H.1]; exact nI_le (by omega) (by omega)), C.1]
    rfl
  | succ d ih =>
    intro i m T σ hi hm H C hT
    obtain ⟨m, rfl⟩ : ∃ m', m = m' + 1 := ⟨m - 1, by omega⟩
    have g := dgs_len i
    have hx : ntx P t (d + 1) i T = ntx P t d (i + 1) (if ped P t i = true then T ++ [nI 60] ++ dgs i else T) := rfl
    rw [l_X7_renderTask_149]
    unfold b_X7_renderTask_149
    rw [if_neg (by rw [H.1]; exact nI_ge (by omega) (by omega)), c_linked H W ht (by omega), qb_I, nI_1, hx]
    by_cases e : ped P t i = true
    · obtain ⟨σ1, e1, C1, q1⟩ := c_wr C (by omega) (show 60 ≤ 126 by decide)
      obtain ⟨σ2, e2, C2, q2⟩ := c_wn C1 (k := i) (by simp only [List.length_append, List.length_cons, List.length_nil]; omega) (by omega)
      obtain ⟨σ3, e3, C3, q3⟩ := ih (i + 1) m _ σ2 (by omega) (by omega) ((H.same q1 (by simp)).same q2 (by simp)) C2 (by simp only [List.length_append, List.length_cons, List.length_nil]; omega)
      rw [e, if_neg (by decide), if_pos rfl]
      refine ⟨σ3, ?_, C3, (q1.trans q2).trans q3⟩
      show qbind (f_X3_write (nI 60) σ) _ _ = _
      rw [e1, qb_V, e2, qb_V]
      exact e3
    · rw [if_neg e]
      have e : ped P t i = false := by simpa using e
      rw [e, if_pos (by rfl)]
      exact ih (i + 1) m T σ (by omega) (by omega) H C (by omega)
theorem r_nt_loop (W : PW P) {t : Nat} (ht : t < pn P) : ∀ (d i m : Nat) (T : List Int32) (σ : qS), i + d = pn P → d < m → RepR σ 27 0 P → RT σ T → T.length + 4 * d ≤ 414 → ∃ σ', l_X8_renderTask_126 m (nI t) (nI T.length) (nI i) σ = qan (nI (ntx P t d i T).length) (qu σ' 26 0 16 (nI (ntx P t d i T).length)) ∧ RT σ' (ntx P t d i T) ∧ qsm [36] σ σ' := by
  have hn := W.1
  intro d
  induction d with
  | zero =>
    intro i m T σ hi hm H C hT
    obtain ⟨m, rfl⟩ : ∃ m', m = m' + 1 := ⟨m - 1, by omega⟩
    refine ⟨σ, ?_, C, qsm.refl _ σ⟩
    simp only [l_X8_renderTask_126, b_X8_renderTask_126]
    rw [if_pos (by rw [H.1]; exact nI_le (by omega) (by omega))]
    rfl
  | succ d ih =>
    intro i m T σ hi hm H C hT
    obtain ⟨m, rfl⟩ : ∃ m', m = m' + 1 := ⟨m - 1, by omega⟩
    have g := dgs_len i
    have hx : ntx P t (d + 1) i T = ntx P t d (i + 1) (if ped P t i = true then T ++ [nI 60] ++ dgs i else T) := rfl
    rw [l_X8_renderTask_126]
    unfold b_X8_renderTask_126
    rw [if_neg (by rw [H.1]; exact nI_ge (by omega) (by omega)), r_needed H W ht (by omega), qb_I, nI_1, hx]
    by_cases e : ped P t i = true
    · obtain ⟨σ1, e1, C1, q1⟩ := r_pt C (by omega) (nI 60)
      obtain ⟨σ2, e2, C2, q2⟩ := r_wn C1 (k := i) (by simp only [List.length_append, List.length_cons, List.length_nil]; omega) (by omega)
      obtain ⟨σ3, e3, C3, q3⟩ := ih (i + 1) m _ σ2 (by omega) (by omega) ((H.same q1 (by simp)).same q2 (by simp)) C2 (by simp only [List.length_append, List.length_cons, List.length_nil]; omega)
      rw [e, if_neg (by decide), if_pos rfl]
      refine ⟨σ3, ?_, C3, (q1.trans q2).trans q3⟩
      show qbind (f_X8_put (nI T.length) (nI 60) σ) _ _ = _
      rw [e1, qb_I, e2, qb_I]
      exact e3
    · rw [if_neg e]
      have e : ped P t i = false := by simpa using e
      rw [e, if_pos (by rfl)]
      exact ih (i + 1) m T σ (by omega) (by omega) H C (by omega)
/-! a task -/
def tt1 (P : qP) (t : Nat) : List Int32 := [] ++ dgs t ++ [nI 58] ++ dgs (pdn P t) ++ [nI 120] ++ dgs (pmn P t) ++ [nI 114] ++ dgs (prn P t) ++ [nI 64] ++ dgs (pV P t)
def tt2 (P : qP) (t : Nat) : List Int32 := if pL P t = pE P t then tt1 P t ++ [nI 33] else tt1 P t
theorem tt1_len (P : qP) (t : Nat) : (tt1 P t).length ≤ 19 := by
  have g1 := dgs_len t
  have g2 := dgs_len (pdn P t)
  have g3 := dgs_len (pmn P t)
  have g4 := dgs_len (prn P t)
  have g5 := dgs_len (pV P t)
  unfold tt1
  simp only [List.length_append, List.length_cons, List.length_nil]
  omega
theorem tt2_len (P : qP) (t : Nat) : (tt2 P t).length ≤ 20 := by
  have := tt1_len P t
  unfold tt2
  split
  · rw [List.length_append]; exact Nat.succ_le_succ this
  · omega
theorem tt2_ok (P : qP) (t : Nat) : okt (tt2 P t) := by
  have h : okt (tt1 P t) := by
    unfold tt1
    exact okt_app (okt_app (okt_app (okt_app (okt_app (okt_app (okt_app (okt_app (okt_app okt_nil (okt_dgs _)) (okt_one (by decide))) (okt_dgs _)) (okt_one (by decide))) (okt_dgs _)) (okt_one (by decide))) (okt_dgs _)) (okt_one (by decide))) (okt_dgs _)
  unfold tt2
  split
  · exact okt_app h (okt_one (by decide))
  · exact h
theorem c_renderTask (W : PW P) (H : Rep σ1 0 P) (p1 : PlanOK P σ1) {t : Nat} (ht : t < pn P) : ∃ σ', qbind (f_X3_clear σ1) (qvV (fun s3 =>
  qbind (f_X3_writeNumber (nI t) s3) (qvV (fun s4 =>
  qbind (f_X3_write (58 : Int32) s4) (qvV (fun s5 =>
  qbind (f_X7_at 2 0 (nI t) s5) (qvI (fun r1 s6 =>
  qbind (f_X3_writeNumber r1 s6) (qvV (fun s7 =>
  qbind (f_X3_write (120 : Int32) s7) (qvV (fun s8 =>
  qbind (f_X7_at 4 0 (nI t) s8) (qvI (fun r2 s9 =>
  qbind (f_X3_writeNumber r2 s9) (qvV (fun s10 =>
  qbind (f_X3_write (114 : Int32) s10) (qvV (fun s11 =>
  qbind (f_X7_at 3 0 (nI t) s11) (qvI (fun r3 s12 =>
  qbind (f_X3_writeNumber r3 s12) (qvV (fun s13 =>
  qbind (f_X3_write (64 : Int32) s13) (qvV (fun s14 =>
  qbind (f_X7_at 17 0 (nI t) s14) (qvI (fun r4 s15 =>
  qbind (f_X3_writeNumber r4 s15) (qvV (fun s16 =>
  qbind (f_X4_slackOf (nI t) s16) (qvI (fun r5 s17 =>
  (if r5 = 0 then qbind (f_X3_write (33 : Int32) s17) (qvV (fun s18 =>
  l_X7_renderTask_149  qFU (nI t) (0 : Int32) s18)) qE0 else
  l_X7_renderTask_149  qFU (nI t) (0 : Int32) s17))) qE0)) qE0)) qE0)) qE0)) qE0)) qE0)) qE0)) qE0)) qE0)) qE0)) qE0)) qE0)) qE0)) qE0)) qE0 = qan (nI (ntx P t (pn P) 0 (tt2 P t)).length) σ' ∧ CT σ' (ntx P t (pn P) 0 (tt2 P t)) ∧ qsm [23, 24] σ1 σ' := by
  have hn := W.1
  have hv := pV_le W ht
  have g1 := dgs_len t
  have g2 := dgs_len (pdn P t)
  have g3 := dgs_len (pmn P t)
  have g4 := dgs_len (prn P t)
  have g5 := dgs_len (pV P t)
  have b2 := (W.dn ht).2
  have b3 := (W.mn ht).2
  have b4 := (W.rn ht).2
  have q0 : qsm [23, 24] σ1 (qu σ1 23 0 1 0) := (qsm_qu σ1 23 0 1 0).mono (by simp)
  have C0 : CT (qu σ1 23 0 1 0) [] := ⟨by rw [qu_at, if_pos ⟨rfl, rfl, rfl⟩]; rfl, fun i v h => by simp at h⟩
  obtain ⟨s1, e1, C1, r1⟩ := c_wn C0 (k := t) (by simp only [List.length_nil]; omega) (by omega)
  obtain ⟨s2, e2, C2, r2⟩ := c_wr C1 (k := 58) (by simp only [List.length_append, List.length_cons, List.length_nil]; omega) (by decide)
  obtain ⟨s3, e3, C3, r3⟩ := c_wn C2 (k := pdn P t) (by simp only [List.length_append, List.length_cons, List.length_nil]; omega) (by omega)
  obtain ⟨s4, e4, C4, r4⟩ := c_wr C3 (k := 120) (by simp only [List.length_append, List.length_cons, List.length_nil]; omega) (by decide)
  obtain ⟨s5, e5, C5, r5⟩ := c_wn C4 (k := pmn P t) (by simp only [List.length_append, List.length_cons, List.length_nil]; omega) (by omega)
  obtain ⟨s6, e6, C6, r6⟩ := c_wr C5 (k := 114) (by simp only [List.length_append, List.length_cons, List.length_nil]; omega) (by decide)
  obtain ⟨s7, e7, C7, r7⟩ := c_wn C6 (k := prn P t) (by simp only [List.length_append, List.length_cons, List.length_nil]; omega) (by omega)
  obtain ⟨s8, e8, C8, r8⟩ := c_wr C7 (k := 64) (by simp only [List.length_append, List.length_cons, List.length_nil]; omega) (by decide)
  obtain ⟨s9, e9, C9, r9⟩ := c_wn C8 (k := pV P t) (by simp only [List.length_append, List.length_cons, List.length_nil]; omega) (by omega)
  have q2 := (q0.trans r1).trans r2
  have q4 := (q2.trans r3).trans r4
  have q6 := (q4.trans r5).trans r6
  have q8 := (q6.trans r7).trans r8
  have q9 := q8.trans r9
  have C9' : CT s9 (tt1 P t) := C9
  have l1 := tt1_len P t
  have f1 : f_X7_at 2 0 (nI t) s2 = qan (nI (pdn P t)) s2 := by rw [c_dur (H.same q2 (by simp)) W ht, (W.dn ht).1]
  have f2 : f_X7_at 4 0 (nI t) s4 = qan (nI (pmn P t)) s4 := by rw [c_dem (H.same q4 (by simp)) W ht, (W.mn ht).1]
  have f3 : f_X7_at 3 0 (nI t) s6 = qan (nI (prn P t)) s6 := by rw [c_res (H.same q6 (by simp)) W ht, (W.rn ht).1]
  have f4 : f_X7_at 17 0 (nI t) s8 = qan (nI (pV P t)) s8 := by rw [e_at (show t < 12 by omega) (by decide), (p1.same q8 (by simp)).2.2.2.2.2.1.1 t ht (pst_full W ht)]; rfl
  unfold f_X3_clear
  rw [qlet_eq, qb_V, e1, qb_V]
  erw [e2]
  rw [qb_V, f1, qb_I, e3, qb_V]
  erw [e4]
  rw [qb_V, f2, qb_I, e5, qb_V]
  erw [e6]
  rw [qb_V, f3, qb_I, e7, qb_V]
  erw [e8]
  rw [qb_V, f4, qb_I, e9, qb_V, e_slack (p1.same q9 (by simp)) W ht, qb_I]
  have H9 := H.same q9 (by simp)
  unfold tt2
  by_cases hc : pL P t = pE P t
  · rw [if_pos (i_sub0.mpr hc), if_pos hc]
    obtain ⟨s10, e10, C10, r10⟩ := c_wr C9' (k := 33) (by omega) (by decide)
    obtain ⟨s11, e11, C11, r11⟩ := c_nt_loop W ht (pn P) 0 qFU _ s10 (by omega) (by unfold qFU; omega) (H9.same r10 (by simp)) C10 (by simp only [List.length_append, List.length_cons, List.length_nil]; omega)
    refine ⟨s11, ?_, C11, (q9.trans r10).trans r11⟩
    erw [e10]
    exact e11
  · rw [if_neg (fun h => hc (i_sub0.mp h)), if_neg hc]
    obtain ⟨s11, e11, C11, r11⟩ := c_nt_loop W ht (pn P) 0 qFU _ s9 (by omega) (by unfold qFU; omega) H9 C9' (by omega)
    exact ⟨s11, e11, C11, q9.trans r11⟩
theorem r_renderTask (W : PW P) (H : RepR σ1 27 0 P) {t : Nat} (ht : t < pn P) : ∃ σ', f_X8_renderTask (nI t) σ1 = qan (nI (ntx P t (pn P) 0 (tt2 P t)).length) (qu σ' 26 0 16 (nI (ntx P t (pn P) 0 (tt2 P t)).length)) ∧ RT σ' (ntx P t (pn P) 0 (tt2 P t)) ∧ Qx σ1 σ' ∧ σ' 26 0 17 = 0 := by
  have hn := W.1
  have hv := pV_le W ht
  have g1 := dgs_len t
  have g2 := dgs_len (pdn P t)
  have g3 := dgs_len (pmn P t)
  have g4 := dgs_len (prn P t)
  have g5 := dgs_len (pV P t)
  have b2 := (W.dn ht).2
  have b3 := (W.mn ht).2
  have b4 := (W.rn ht).2
  have R1 : RepR (qu σ1 26 0 17 0) 27 0 P := H.qt (Qt.thr _ _) (Or.inl rfl)
  obtain ⟨s0, e0, r0, a2, bb2, l2⟩ := r_levels W R1
  have R0 := R1.same r0 (by simp)
  have C0 : RT s0 [] := fun i v h => by simp at h
  obtain ⟨s1, e1, C1, r1⟩ := r_wn C0 (k := t) (by simp only [List.length_nil]; omega) (by omega)
  obtain ⟨s2, e2, C2, r2⟩ := r_pt C1 (by simp only [List.length_append, List.length_cons, List.length_nil]; omega) (nI 58)
  obtain ⟨s3, e3, C3, r3⟩ := r_wn C2 (k := pdn P t) (by simp only [List.length_append, List.length_cons, List.length_nil]; omega) (by omega)
  obtain ⟨s4, e4, C4, r4⟩ := r_pt C3 (by simp only [List.length_append, List.length_cons, List.length_nil]; omega) (nI 120)
  obtain ⟨s5, e5, C5, r5⟩ := r_wn C4 (k := pmn P t) (by simp only [List.length_append, List.length_cons, List.length_nil]; omega) (by omega)
  obtain ⟨s6, e6, C6, r6⟩ := r_pt C5 (by simp only [List.length_append, List.length_cons, List.length_nil]; omega) (nI 114)
  obtain ⟨s7, e7, C7, r7⟩ := r_wn C6 (k := prn P t) (by simp only [List.length_append, List.length_cons, List.length_nil]; omega) (by omega)
  obtain ⟨s8, e8, C8, r8⟩ := r_pt C7 (by simp only [List.length_append, List.length_cons, List.length_nil]; omega) (nI 64)
  obtain ⟨s9, e9, C9, r9⟩ := r_wn C8 (k := pV P t) (by simp only [List.length_append, List.length_cons, List.length_nil]; omega) (by omega)
  have q2 := r1.trans r2
  have q4 := (q2.trans r3).trans r4
  have q6 := (q4.trans r5).trans r6
  have q8 := (q6.trans r7).trans r8
  have q9 := q8.trans r9
  have C9' : RT s9 (tt1 P t) := C9
  have l1 := tt1_len P t
  have f1 : f_X8_of (nI t) 0 s2 = qan (nI (pdn P t)) s2 := by rw [r_dur (R0.same q2 (by simp)) W ht, (W.dn ht).1]
  have f2 : f_X8_of (nI t) 2 s4 = qan (nI (pmn P t)) s4 := by rw [r_dem (R0.same q4 (by simp)) W ht, (W.mn ht).1]
  have f3 : f_X8_of (nI t) 1 s6 = qan (nI (prn P t)) s6 := by rw [r_res (R0.same q6 (by simp)) W ht, (W.rn ht).1]
  have h33 : s8 33 0 t = nI (pV P t) := by rw [q8 33 0 (by simp)]; exact l2.1 t ht (pst_full W ht)
  have h31 : s9 31 0 t = pE P t := by rw [q9 31 0 (by simp)]; exact a2 t ht
  have h32 : s9 32 0 t = pL P t := by rw [q9 32 0 (by simp)]; exact bb2 t ht
  have hq : qin (nI t) 12 := n_in (by omega) (by decide)
  have R9 := R0.same q9 (by simp)
  have Q0 : Qx σ1 s0 := (Qx.thr _ _).trans (Qx.of r0 (by simp))
  have t0 : s0 26 0 17 = 0 := by rw [r0 26 0 (by simp)]; exact thr_at _ _
  unfold f_X8_renderTask
  rw [r_isT H, isT_n W ht, qb_I, r_goes, qb_I, if_neg (by decide)]
  show ∃ σ', qbind (f_X8_levels (qu σ1 26 0 17 0)) _ _ = _ ∧ _
  rw [e0, qb_V]
  erw [e1]
  rw [qb_I]
  erw [e2]
  rw [qb_I, f1, qb_I, e3, qb_I]
  erw [e4]
  rw [qb_I, f2, qb_I, e5, qb_I]
  erw [e6]
  rw [qb_I, f3, qb_I, e7, qb_I]
  erw [e8]
  rw [qb_I, if_pos hq, nI_clamp (by omega), h33, e9, qb_I, if_pos hq, if_pos hq, h31, h32]
  unfold tt2
  by_cases hc : pL P t = pE P t
  · rw [if_pos hc, if_pos hc]
    obtain ⟨s10, e10, C10, r10⟩ := r_pt C9' (by omega) (nI 33)
    obtain ⟨s11, e11, C11, r11⟩ := r_nt_loop W ht (pn P) 0 qFU _ s10 (by omega) (by unfold qFU; omega) (R9.same r10 (by simp)) C10 (by simp only [List.length_append, List.length_cons, List.length_nil]; omega)
    refine ⟨s11, ?_, C11, Q0.trans (Qx.of ((q9.trans r10).trans r11) (by simp)), by rw [((q9.trans r10).trans r11) 26 0 (by simp)]; exact t0⟩
    erw [e10]
    exact e11
  · rw [if_neg hc, if_neg hc]
    obtain ⟨s11, e11, C11, r11⟩ := r_nt_loop W ht (pn P) 0 qFU _ s9 (by omega) (by unfold qFU; omega) R9 C9' (by omega)
    exact ⟨s11, e11, C11, Q0.trans (Qx.of (q9.trans r11) (by simp)), by rw [(q9.trans r11) 26 0 (by simp)]; exact t0⟩
theorem k_renderTask (a : Int32) (h : Inv σ) : CaseL (f_L_renderTask a) (f_X8_renderTask a) σ := by
  obtain ⟨P, hs, sv, I, S⟩ := h
  have W := I.1
  have H := I.2.1
  have hn := W.1
  cases hx : isT P a
  · exact casek (k := 1) (b := 0) (by decide) (by decide) (by unfold f_L_renderTask f_X7_renderTask; rw [c_reqT H, hx, if_neg (by decide)]; rfl) I S (by unfold f_X8_renderTask; rw [r_isT I.2.2.1, hx, qb_I, r_goes, qb_I, if_pos (by decide)]; try rfl) (thr_at _ _) (Qr.thr _ _)
  · obtain ⟨t, ht, rfl⟩ := (isT_iff W).mp hx
    obtain ⟨σ1, c1, q1, I1, s8, p1⟩ := c_plan I S
    obtain ⟨σ3, c3, C3, q3⟩ := c_renderTask W I1.2.1 p1 ht
    have l1 := ntx_len P t (pn P) 0 (tt2 P t)
    have l2 := tt2_len P t
    obtain ⟨σ7, r7, C7, Q7, t7⟩ := r_renderTask W (σ1 := qu σ3 38 0 0 (nI (ntx P t (pn P) 0 (tt2 P t)).length)) ((I1.2.2.1.same q3 (by simp)).same (qsm_qu σ3 38 0 0 _) (by simp)) ht
    refine txt_end I1 (Or.inr ⟨s8, p1⟩) (ntx P t (pn P) 0 (tt2 P t)) (by omega) (ntx_ok P t _ _ _ (tt2_ok P t)) ?_ q3 C3 r7 C7 t7 Q7
    unfold f_L_renderTask f_X7_renderTask
    rw [c_reqT H, hx, if_pos rfl, qb_V, c1, qb_P]
    erw [c3]
    rfl
/-! the use of a resource -/
def utx (P : qP) (r : Nat) : Nat → List Int32
  | 0 => []
  | d + 1 => if d = 0 then utx P r d ++ dgs (pUf P r d) else utx P r d ++ [nI 44] ++ dgs (pUf P r d)
theorem utx_len (W : PW P) (r : Nat) : ∀ d, (utx P r d).length ≤ 3 * d
  | 0 => Nat.le_refl _
  | d + 1 => by
    have h := utx_len W r d
    have g := dgs_len2 (k := pUf P r d) (by have := pUf_le W (r := r) (d := d); omega)
    unfold utx
    split <;> simp only [List.length_append, List.length_cons, List.length_nil] <;> omega
theorem utx_ok (r : Nat) : ∀ d, okt (utx P r d)
  | 0 => okt_nil
  | d + 1 => by
    unfold utx
    split
    · exact okt_app (utx_ok r d) (okt_dgs _)
    · exact okt_app (okt_app (utx_ok r d) (okt_one (by decide))) (okt_dgs _)
theorem c_ru_loop (W : PW P) {r : Nat} (hr : r < 3) (hE : pend P (pn P) ≤ 138) : ∀ (e i m : Nat) (σ : qS), i + e = pend P (pn P) → e < m → PlanOK P σ → CT σ (utx P r i) → ∃ σ', l_X7_renderUsage_18 m (nI r) (nI i) σ = qan (nI (utx P r (pend P (pn P))).length) σ' ∧ CT σ' (utx P r (pend P (pn P))) ∧ qsm [23, 24] σ σ' := by
  intro e
  induction e with
  | zero =>
    intro i m σ hi hm p1 C
    obtain ⟨m, rfl⟩ : ∃ m', m = m' + 1 := ⟨m - 1, by omega⟩
    have hi : i = pend P (pn P) := by omega
    refine ⟨σ, ?_, hi ▸ C, qsm.refl _ σ⟩
    simp only [l_X7_renderUsage_18, b_X7_renderUsage_18]
    rw [if_pos (by rw [p1.2.2.2.2.2.2.2, hi]; exact Int32.le_refl _), C.1, hi]
  | succ e ih =>
    intro i m σ hi hm p1 C
    obtain ⟨m, rfl⟩ : ∃ m', m = m' + 1 := ⟨m - 1, by omega⟩
    have hl := utx_len W r i
    have hu := pUf_le W (r := r) (d := i)
    have g := dgs_len2 (k := pUf P r i) (by omega)
    have hx : utx P r (i + 1) = if i = 0 then utx P r i ++ dgs (pUf P r i) else utx P r i ++ [nI 44] ++ dgs (pUf P r i) := rfl
    rw [l_X7_renderUsage_18]
    unfold b_X7_renderUsage_18
    rw [if_neg (by rw [p1.2.2.2.2.2.2.2]; exact nI_ge (by omega) (by omega)), nI_1]
    by_cases h0 : i = 0
    · rw [if_pos h0] at hx
      obtain ⟨σ2, e2, C2, q2⟩ := c_wn C (k := pUf P r i) (by omega) (by omega)
      obtain ⟨σ3, e3, C3, q3⟩ := ih (i + 1) m σ2 (by omega) (by omega) (p1.same q2 (by simp)) (by rw [hx]; exact C2)
      refine ⟨σ3, ?_, C3, q2.trans q3⟩
      rw [if_pos (by rw [h0]; decide), c_usedOn W p1 hr (by omega), qb_I, e2, qb_V]
      exact e3
    · rw [if_neg h0] at hx
      obtain ⟨σ1, e1, C1, q1⟩ := c_wr C (k := 44) (by omega) (by decide)
      obtain ⟨σ2, e2, C2, q2⟩ := c_wn C1 (k := pUf P r i) (by simp only [List.length_append, List.length_cons, List.length_nil]; omega) (by omega)
      obtain ⟨σ3, e3, C3, q3⟩ := ih (i + 1) m σ2 (by omega) (by omega) ((p1.same q1 (by simp)).same q2 (by simp)) (by rw [hx]; exact C2)
      refine ⟨σ3, ?_, C3, (q1.trans q2).trans q3⟩
      rw [if_neg (by rw [show (0 : Int32) = nI 0 from rfl, n_le (by omega) (by omega)]; omega)]
      show qbind (f_X3_write (nI 44) σ) _ _ = _
      rw [e1, qb_V, c_usedOn W (p1.same q1 (by simp)) hr (by omega), qb_I, e2, qb_V]
      exact e3
theorem r_ru_loop (W : PW P) {r : Nat} (hr : r < 3) (hE : pend P (pn P) ≤ 138) : ∀ (e i m : Nat) (σ : qS), i + e = pend P (pn P) → e < m → RepR σ 27 0 P → (∀ t, t < pn P → σ 33 0 t = nI (pV P t)) → (∀ d, d < 160 → σ 34 0 (160 * r + d) = nI (pUf P r d)) → RT σ (utx P r i) → ∃ σ', l_X8_renderUsage_21 m (nI r) (nI (utx P r i).length) (nI i) σ = qan (nI (utx P r (pend P (pn P))).length) (qu σ' 26 0 16 (nI (utx P r (pend P (pn P))).length)) ∧ RT σ' (utx P r (pend P (pn P))) ∧ qsm [36] σ σ' := by
  intro e
  induction e with
  | zero =>
    intro i m σ hi hm H h33 h34 C
    obtain ⟨m, rfl⟩ : ∃ m', m = m' + 1 := ⟨m - 1, by omega⟩
    have hi : i = pend P (pn P) := by omega
    refine ⟨σ, ?_, hi ▸ C, qsm.refl _ σ⟩
    simp only [l_X8_renderUsage_21, b_X8_renderUsage_21]
    rw [r_lastOf W H rfl, qb_I, plast_congr h33, pend_last W hE, hi, if_pos (Int32.le_refl _)]
    rfl
  | succ e ih =>
    intro i m σ hi hm H h33 h34 C
    obtain ⟨m, rfl⟩ : ∃ m', m = m' + 1 := ⟨m - 1, by omega⟩
    have hl := utx_len W r i
    have hu := pUf_le W (r := r) (d := i)
    have g := dgs_len2 (k := pUf P r i) (by omega)
    have hx : utx P r (i + 1) = if i = 0 then utx P r i ++ dgs (pUf P r i) else utx P r i ++ [nI 44] ++ dgs (pUf P r i) := rfl
    have hqi : qin (nI (160 * r + i)) 480 := n_in (by omega) (by decide)
    rw [l_X8_renderUsage_21]
    unfold b_X8_renderUsage_21
    rw [r_lastOf W H rfl, qb_I, plast_congr h33, pend_last W hE, if_neg (nI_ge (by omega) (by omega)), nI_1, show (160 : Int32) = nI 160 from rfl, n_mul, nI_add, nI_clamp (by omega)]
    by_cases h0 : i = 0
    · rw [if_pos h0] at hx
      obtain ⟨σ2, e2, C2, q2⟩ := r_wn C (k := pUf P r i) (by omega) (by omega)
      obtain ⟨σ3, e3, C3, q3⟩ := ih (i + 1) m σ2 (by omega) (by omega) (H.same q2 (by simp)) (fun t ht => by rw [q2 33 0 (by simp)]; exact h33 t ht) (fun d hd => by rw [q2 34 0 (by simp)]; exact h34 d hd) (by rw [hx]; exact C2)
      refine ⟨σ3, ?_, C3, q2.trans q3⟩
      rw [if_pos (by rw [h0]; rfl), if_pos hqi, h34 i (by omega), e2, qb_I]
      rw [hx] at e3
      exact e3
    · rw [if_neg h0] at hx
      obtain ⟨σ1, e1, C1, q1⟩ := r_pt C (by omega) (nI 44)
      obtain ⟨σ2, e2, C2, q2⟩ := r_wn C1 (k := pUf P r i) (by simp only [List.length_append, List.length_cons, List.length_nil]; omega) (by omega)
      obtain ⟨σ3, e3, C3, q3⟩ := ih (i + 1) m σ2 (by omega) (by omega) ((H.same q1 (by simp)).same q2 (by simp)) (fun t ht => by rw [q2 33 0 (by simp), q1 33 0 (by simp)]; exact h33 t ht) (fun d hd => by rw [q2 34 0 (by simp), q1 34 0 (by simp)]; exact h34 d hd) (by rw [hx]; exact C2)
      refine ⟨σ3, ?_, C3, (q1.trans q2).trans q3⟩
      rw [if_neg (fun h => h0 (by rw [show (0 : Int32) = nI 0 from rfl, n_eq (by omega) (by omega)] at h; exact h))]
      show qbind (f_X8_put (nI (utx P r i).length) (nI 44) σ) _ _ = _
      rw [e1, qb_I, if_pos hqi]
      show qbind (f_X8_writesNumber _ (σ1 34 0 (160 * r + i)) σ1) _ _ = _
      rw [q1 34 0 (by simp), h34 i (by omega), e2, qb_I]
      rw [hx] at e3
      exact e3
theorem k_renderUsage (a : Int32) (h : Inv σ) : CaseL (f_L_renderUsage a) (f_X8_renderUsage a) σ := by
  obtain ⟨P, hs, sv, I, S⟩ := h
  have W := I.1
  have H := I.2.1
  have hn := W.1
  cases hx : isR a
  · exact casek (k := 1) (b := 0) (by decide) (by decide) (by unfold f_L_renderUsage f_X7_renderUsage; rw [c_reqR, hx, if_neg (by decide)]; rfl) I S (by unfold f_X8_renderUsage; rw [r_isR, hx, qb_I, r_goes, qb_I, if_pos (by decide)]; try rfl) (thr_at _ _) (Qr.thr _ _)
  · obtain ⟨r, hr, rfl⟩ := isR_iff.mp hx
    obtain ⟨σ1, c1, q1, I1, s8, p1⟩ := c_plan I S
    have hE : pend P (pn P) ≤ 138 := by
      rw [pend_le W (pn P) (Nat.le_refl _)]
      intro u hu
      have := ((pst_spec W (pn P) (Nat.le_refl _)).2 u hu).2.1
      omega
    have q0 : qsm [23, 24] σ1 (qu σ1 23 0 1 0) := (qsm_qu σ1 23 0 1 0).mono (by simp)
    have C0 : CT (qu σ1 23 0 1 0) [] := ⟨by rw [qu_at, if_pos ⟨rfl, rfl, rfl⟩]; rfl, fun i v h => by simp at h⟩
    obtain ⟨σ3, c3, C3, q3⟩ := c_ru_loop W hr hE (pend P (pn P)) 0 qFU (qu σ1 23 0 1 0) (by omega) (by unfold qFU; omega) (p1.same q0 (by simp)) C0
    have q3 := q0.trans q3
    have l1 := utx_len W r (pend P (pn P))
    have R3 : RepR (qu σ3 38 0 0 (nI (utx P r (pend P (pn P))).length)) 27 0 P := (I1.2.2.1.same q3 (by simp)).same (qsm_qu σ3 38 0 0 _) (by simp)
    have R4 : RepR (qu (qu σ3 38 0 0 (nI (utx P r (pend P (pn P))).length)) 26 0 17 0) 27 0 P := R3.qt (Qt.thr _ _) (Or.inl rfl)
    obtain ⟨σ5, e5, r5, a2, b2, l2⟩ := r_levels W R4
    obtain ⟨σ7, r7, C7, q7⟩ := r_ru_loop W hr hE (pend P (pn P)) 0 qFU σ5 (by omega) (by unfold qFU; omega) (R4.same r5 (by simp)) (fun t ht => l2.1 t ht (pst_full W ht)) (fun d hd => l2.2 r d hr hd) (fun i v h => by simp [utx] at h)
    refine txt_end I1 (Or.inr ⟨s8, p1⟩) (utx P r (pend P (pn P))) (by omega) (utx_ok r _) ?_ q3 C3 ?_ C7 ?_ (((Qx.thr _ _).trans (Qx.of r5 (by simp))).trans (Qx.of q7 (by simp)))
    · unfold f_L_renderUsage f_X7_renderUsage f_X3_clear
      rw [c_reqR, hx, if_pos rfl, qb_V, c1, qb_P, qlet_eq, qb_V]
      erw [c3]
      rfl
    · unfold f_X8_renderUsage
      rw [r_isR, hx, qb_I, r_goes, qb_I, if_neg (by decide)]
      show qbind (f_X8_levels (qu (qu σ3 38 0 0 (nI (utx P r (pend P (pn P))).length)) 26 0 17 0)) _ _ = _
      rw [e5, qb_V]
      exact r7
    · rw [q7 26 0 (by simp), r5 26 0 (by simp)]
      exact thr_at _ _
end QR3
