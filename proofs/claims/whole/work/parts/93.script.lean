/-! runScript -/
section RZ
variable {P : qP} {hs : List qP} {sv : qP} {σ σ1 σ2 : qS}
/-- what the class's run of a script may move, what the reference's -/
def Cf (σ σ' : qS) : Prop := (∀ a b, ¬ (1 ≤ a ∧ a ≤ 8 ∧ ¬ b = 2) → ¬ (a = 0 ∧ b = 0) → a ∉ [9, 11, 12, 13, 14, 15, 16, 17, 18, 19, 21, 22, 38] → σ' a b = σ a b) ∧ σ' 0 0 9 = σ 0 0 9
def Rf (σ σ' : qS) : Prop := (∀ a b, a ∉ [26, 27, 28, 30, 31, 32, 33, 34, 37] → σ' a b = σ a b) ∧ (∀ x, x = 4 ∨ x = 16 → σ' 26 0 x = σ 26 0 x)
theorem Cf.trans {σ σ' σ'' : qS} (h : Cf σ σ') (h2 : Cf σ' σ'') : Cf σ σ'' := ⟨fun a b h3 h4 h5 => (h2.1 a b h3 h4 h5).trans (h.1 a b h3 h4 h5), h2.2.trans h.2⟩
theorem Rf.trans {σ σ' σ'' : qS} (h : Rf σ σ') (h2 : Rf σ' σ'') : Rf σ σ'' := ⟨fun a b h3 => (h2.1 a b h3).trans (h.1 a b h3), fun x h3 => (h2.2 x h3).trans (h.2 x h3)⟩
theorem Cf.qp {σ σ' : qS} (h : Qp σ σ') : Cf σ σ' := ⟨fun a b h1 h2 h3 => h.1 a b (fun hh => h3 (by rw [hh.1]; simp)) (fun hh => h3 (by rw [hh.1]; simp)) (fun hh => h3 (by rw [hh.1]; simp)), by rw [h.1 0 0 (by simp) (by simp) (by simp)]⟩
theorem Cf.fc {σ σ' : qS} (h : Fc σ σ') : Cf σ σ' := ⟨fun a b h1 h2 h3 => h.1 a b (fun hh => h1 ⟨hh.1, hh.2.1, by omega⟩) h2 (fun hh => h3 (by simp only [List.mem_cons, List.not_mem_nil, or_false] at hh ⊢; omega)), h.2.1 9 (by decide)⟩
theorem Cf.qu {σ : qS} {k j i : Nat} {v : Int32} (h : k ∈ [9, 11, 12, 13, 14, 15, 16, 17, 18, 19, 21, 22, 38] ∨ k = 0 ∧ j = 0 ∧ ¬ i = 9) : Cf σ (qu σ k j i v) := by
  refine ⟨fun a b h1 h2 h3 => qu_other σ (fun hh => ?_), ?_⟩
  · rcases h with h | h
    · exact h3 (by rw [hh.1]; exact h)
    · exact h2 ⟨by omega, by omega⟩
  · rw [qu_at, if_neg ?_]
    rintro ⟨h1, h2, h3⟩
    rcases h with h | h
    · rw [← h1] at h; simp at h
    · omega
theorem Rf.wo {σ σ' : qS} (h : Wo σ σ') : Rf σ σ' := ⟨fun a b h1 => h.1 a b (fun hh => h1 (by simp only [List.mem_cons, List.not_mem_nil, or_false] at hh ⊢; omega)), fun x hx => h.2 x (by omega)⟩
theorem Rf.qu {σ : qS} {k j i : Nat} {v : Int32} (h : k = 26 ∧ ¬ i = 4 ∧ ¬ i = 16) : Rf σ (qu σ k j i v) := by
  refine ⟨fun a b h1 => qu_other σ (fun hh => h1 (by rw [hh.1, h.1]; simp)), fun x hx => ?_⟩
  rw [qu_at, if_neg (fun hh => by omega)]
theorem Rf.sm {σ σ' : qS} {ks : List Nat} (h : qsm ks σ σ') (hk : ∀ k ∈ ks, k ∈ [27, 28, 30]) : Rf σ σ' := by
  refine ⟨fun a b h1 => h a b (fun hh => h1 ?_), fun x _ => by rw [h 26 0 (fun hh => by have := hk _ hh; simp at this)]⟩
  have := hk _ hh
  simp only [List.mem_cons, List.not_mem_nil, or_false] at this ⊢
  omega
theorem z_inv {P' : qP} {hs' : List qP} {nx : Nat} (I : InvB σ P hs sv) (c : Cf σ σ1) (r : Rf σ1 σ2) (W' : PW P') (H' : Rep σ2 0 P') (R' : RepR σ2 27 0 P') (C' : HC σ2 hs' nx) (D' : HR σ2 hs') (hp : HP hs') (t19 : σ2 19 0 3 = nI 0) (t14 : σ2 26 0 14 = nI 0) (EE : ErrOK σ2) : InvB σ2 P' hs' sv := by
  obtain ⟨-, -, -, -, SS, -, -, m, OO⟩ := I
  have k : ∀ a b, ¬ (1 ≤ a ∧ a ≤ 8 ∧ ¬ b = 2) → ¬ (a = 0 ∧ b = 0) → a ∉ [9, 11, 12, 13, 14, 15, 16, 17, 18, 19, 21, 22, 38] → a ∉ [26, 27, 28, 30, 31, 32, 33, 34, 37] → σ2 a b = σ a b := fun a b h1 h2 h3 h4 => (r.1 a b h4).trans (c.1 a b h1 h2 h3)
  have y : ∀ x, x = 4 ∨ x = 16 → σ2 26 0 x = σ 26 0 x := fun x hx => by rw [r.2 x hx, c.1 26 0 (by omega) (by omega) (by simp)]
  exact ⟨W', H', R', HistOK.join C' D' hp, SS.tr (by rw [r.1 0 0 (by simp)]; exact c.2) (y 4 (Or.inl rfl)) (k 29 0 (by omega) (by omega) (by simp) (by simp)) (fun a h1 h2 => k a 2 (by omega) (by omega) (by simp only [List.mem_cons, List.not_mem_nil, or_false]; omega) (by simp only [List.mem_cons, List.not_mem_nil, or_false]; omega)),
    ⟨0, by omega, t19, t14, fun i hi => by omega⟩, EE, m, OO.tr (by rw [k 23 0 (by omega) (by omega) (by simp) (by simp)]) (y 16 (Or.inr rfl)) (k 24 0 (by omega) (by omega) (by simp) (by simp)) (k 36 0 (by omega) (by omega) (by simp) (by simp))⟩
theorem HC.tr {nx : Nat} {σ σ' : qS} (h : HC σ hs nx) (k9 : σ' 9 0 = σ 9 0) (kp : ∀ a b, 1 ≤ a → a ≤ 8 → 3 ≤ b → σ' a b = σ a b) : HC σ' hs nx :=
  ⟨h.1, by rw [k9]; exact h.2.1, h.2.2.1, by rw [k9]; exact h.2.2.2.1, fun i Q hQ => (h.2.2.2.2 i Q hQ).tr (fun a h1 h2 => kp a _ h1 h2 (by omega))⟩
/-- the reference reads behind the class -/
theorem z_reads {T : qTx} (h60 : T.1 ≤ 60) (h14 : σ 26 0 14 = nI T.1) (h35 : ∀ i, i < T.1 → σ 35 0 i = nI (T.2 i) ∧ T.2 i < 127) (c : Cf σ σ1) : ∃ σ', f_X8_readsAll σ1 = qdo σ' ∧ (∀ a b, ¬ (a = 26 ∧ b = 0) → ¬ (a = 37 ∧ b = 0) → σ' a b = σ1 a b) ∧ (∀ x, x ≠ 14 → x ≠ 18 → x ≠ 19 → x ≠ 20 → x ≠ 21 → σ' 26 0 x = σ1 26 0 x) ∧ Rf σ1 σ' ∧ σ' 26 0 14 = 0 ∧ RSt (pal T 61 0).1 σ' ∧ (pal T 61 0).1.2 ≤ T.1 ∧ ((pal T 61 0).1.1 = true → σ' 26 0 21 = nI (pal T 61 0).2.length ∧ CLr (pal T 61 0).2 0 σ') := by
  obtain ⟨σ', e1, f1, f2, f3, f4, f5, f6⟩ := r_readsAll (T := T) (σ := σ1) h60 (by rw [c.1 26 0 (by omega) (by omega) (by simp)]; exact h14) (fun i hi => by rw [c.1 35 0 (by omega) (by omega) (by simp)]; exact h35 i hi)
  refine ⟨σ', e1, f1, f2, ⟨fun a b h => f1 a b (fun hh => h (by rw [hh.1]; simp)) (fun hh => h (by rw [hh.1]; simp)), fun x hx => f2 x (by omega) (by omega) (by omega) (by omega) (by omega)⟩, f3, f4, f5, f6⟩
theorem k_runScript (h : Inv σ) : CaseL f_L_runScript f_X8_runScript σ := by
  obtain ⟨P, hs, sv, I, S⟩ := h
  have W := I.1
  obtain ⟨n, t1, t2, t3, t4⟩ := I.2.2.2.2.2.1
  obtain ⟨⟨nx, C⟩, D, hp⟩ := I.2.2.2.1.split
  obtain ⟨d1, d2, d3⟩ := I.2.2.2.2.2.2.1
  obtain ⟨T, hT⟩ : ∃ T : qTx, T = (n, fun i => (σ 20 0 i).toInt.toNat) := ⟨_, rfl⟩
  have hT1 : T.1 = n := by rw [hT]
  have hTc : ∀ i, i < T.1 → σ 20 0 i = nI (T.2 i) ∧ T.2 i < 127 := fun i hi => by
    obtain ⟨g1, g2, g3⟩ := t4 i (by omega)
    rw [hT]
    exact ⟨i_nI (by dsimp only; omega) (by dsimp only; omega), by dsimp only; omega⟩
  have H : CTx T σ := ⟨by omega, by rw [hT1]; exact t2, hTc⟩
  have h35 : ∀ i, i < T.1 → σ 35 0 i = nI (T.2 i) ∧ T.2 i < 127 := fun i hi => by rw [← (t4 i (by omega)).1]; exact hTc i hi
  obtain ⟨σa, ea, Qa, a5, ain, as⟩ := c_read H
  obtain ⟨σb, hsb⟩ : ∃ σb, σb = qu σa 19 0 3 0 := ⟨_, rfl⟩
  have cb : Cf σ σb := (Cf.qp Qa).trans (by rw [hsb]; exact Cf.qu (Or.inl (by simp)))
  have b5 : σb 19 0 5 = nI (pal T 61 0).1.2 := by rw [hsb, qu_at, if_neg (by simp)]; exact a5
  have b3 : σb 19 0 3 = 0 := by rw [hsb, qu_at, if_pos ⟨rfl, rfl, rfl⟩]
  have kb : ∀ a b, ¬ (a = 19 ∧ b = 0) → ¬ (a = 21 ∧ b = 0) → ¬ (a = 22 ∧ b = 0) → σb a b = σ a b := fun a b g1 g2 g3 => by rw [hsb, qu_other _ g1, Qa.1 a b g1 g2 g3]
  have hclr : f_X6_clear σa = qdo σb := by
    unfold f_X6_clear
    rw [qlet_eq, ← hsb]
  by_cases hb : (pal T 61 0).1.1 = true
  · obtain ⟨hlen, n4, hCL⟩ := as hb
    obtain ⟨L, hL⟩ : ∃ L, L = (pal T 61 0).2 := ⟨_, rfl⟩
    rw [← hL] at hlen n4 hCL
    obtain ⟨σ4, e4, o4, H4⟩ := c_copy W (j0 := 1) (j1 := 0) (by decide) (σ := σb) (I.2.1.tr (fun a h1 h2 => kb a 0 (by omega) (by omega) (by omega)))
    have c4 : Cf σ σ4 := cb.trans ⟨fun a b g1 _ _ => o4 a b (fun hh => g1 ⟨hh.1, hh.2.1, by omega⟩), by rw [o4 0 0 (by omega)]⟩
    have k4 : ∀ a b, ¬ (1 ≤ a ∧ a ≤ 8 ∧ b = 1) → ¬ (a = 19 ∧ b = 0) → ¬ (a = 21 ∧ b = 0) → ¬ (a = 22 ∧ b = 0) → σ4 a b = σ a b := fun a b g0 g1 g2 g3 => by rw [o4 a b g0, kb a b g1 g2 g3]
    have CL4 : CL L 0 σ4 := fun i k vs hi => by
      rw [o4 21 0 (by omega), o4 22 0 (by omega), hsb, qu_other _ (by simp), qu_other _ (by simp)]
      exact hCL i k vs hi
    have n44 : σ4 19 0 4 = nI (0 + L.length) := by rw [o4 19 0 (by omega), hsb, qu_at, if_neg (by simp), Nat.zero_add]; exact n4
    have n34 : σ4 19 0 3 = 0 := by rw [o4 19 0 (by omega)]; exact b3
    have hvs : ∀ (i k : Nat) (vs : List Nat), L[i]? = some (k, vs) → vs.length = ncnt (fmk k) ∧ k < 8 := fun i k vs hi => ⟨pal_vs 61 0 i k vs (by rw [← hL]; exact hi), (CL4 i k vs hi).1⟩
    have hX7 : f_X7_runScript σ = l_X7_runScript_54 qFU (nI 0) σ4 := by
      unfold f_X7_runScript
      rw [ea, qb_I, hclr, qb_V, hb, if_neg (by decide), e4, qb_V]
      rfl
    have hX8 : ∀ s, Cf σ s → ∃ s3, f_X8_runScript s = l_X8_runScript_38 qFU (nI 0) s3 ∧ (RepR s 27 0 P → RepR s3 27 0 P ∧ RepR s3 28 0 P) ∧ s3 26 0 17 = 0 ∧ CLr L 0 s3 ∧ s3 26 0 21 = nI (0 + L.length) ∧ Rf s s3 ∧ s3 26 0 14 = 0 ∧ (∀ x, 5 ≤ x → x ≤ 8 → s3 26 0 x = s 26 0 x) ∧ s3 30 0 = s 30 0 := by
      intro s cs
      obtain ⟨s1, e1, f1, f2, f3, f4, f5, f6, f7⟩ := z_reads (T := T) (by omega) (by rw [hT1]; exact t3) h35 cs
      have r20 : s1 26 0 20 = -1 := by
        unfold RSt at f5
        rw [if_pos hb] at f5
        exact f5.1
      obtain ⟨g1, g2⟩ := f7 hb
      rw [← hL] at g1 g2
      obtain ⟨s2, e2, q2, d2, d3⟩ := r_copy (k1 := 27) (k3 := 28) (a := 0) (b := 0) (by decide) (by decide) (by decide) (by decide) (by decide) s1
      obtain ⟨s3, hs3⟩ : ∃ s3, s3 = qu s2 26 0 17 0 := ⟨_, rfl⟩
      have q3 : ∀ a b, ¬ (a = 26 ∧ b = 0) → s3 a b = s2 a b := fun a b hh => by rw [hs3, qu_other _ hh]
      refine ⟨s3, ?_, fun R => ?_, by rw [hs3, qu_at, if_pos ⟨rfl, rfl, rfl⟩], fun i k vs hi => ?_, ?_, ?_, ?_, fun x h1 h2 => ?_, ?_⟩
      · unfold f_X8_runScript
        rw [e1, qb_V, if_pos r20]
        unfold f_X8_begins
        rw [show f_X8_copies 27 0 (0 : Int32) 28 0 (0 : Int32) s1 = qdo s2 from e2, qb_V, qb_V, qlet_eq, ← hs3]
        rfl
      · have R1 : RepR s1 27 0 P := R.tr (f1 27 0 (by simp) (by simp))
        exact ⟨(R1.same q2 (by simp)).tr (q3 27 0 (by simp)), (R1.cp W.1 d2 : RepR s2 28 0 P).tr (q3 28 0 (by simp))⟩
      · rw [q3 37 0 (by simp), q2 37 0 (by simp)]
        exact g2 i k vs hi
      · rw [hs3, qu_at, if_neg (by simp), q2 26 0 (by simp), Nat.zero_add]; exact g1
      · refine (f3.trans (Rf.sm q2 (by simp))).trans ?_
        rw [hs3]; exact Rf.qu (by simp)
      · rw [hs3, qu_at, if_neg (by simp), q2 26 0 (by simp)]; exact f4
      · rw [hs3, qu_at, if_neg (by omega), q2 26 0 (by simp), f2 x (by omega) (by omega) (by omega) (by omega) (by omega)]
      · rw [q3 30 0 (by simp), q2 30 0 (by simp), f1 30 0 (by simp) (by simp)]
    have hfu : qFU - L.length = (99900 + (99 - L.length)) + 1 := by unfold qFU; omega
    have hfl : L.length < qFU := by unfold qFU; omega
    rcases s_run L 0 P W hvs (by omega) with ⟨Q', W', hc, hr⟩ | ⟨f, ch, hf, hch, hc, hr⟩
    · obtain ⟨σ5, e5, H5, F5⟩ := hc σ4 qFU hfl H4 CL4 n44
      have c5 := c4.trans (Cf.fc F5)
      have k5 : ∀ a b, ¬ (1 ≤ a ∧ a ≤ 8 ∧ b = 1) → ¬ (a = 0 ∧ b = 0) → a ∉ [11, 12, 13, 14, 15, 16, 17, 18] → ¬ (a = 19 ∧ b = 0) → ¬ (a = 21 ∧ b = 0) → ¬ (a = 22 ∧ b = 0) → σ5 a b = σ a b := fun a b g0 gz gp g1 g2 g3 => by rw [F5.1 a b g0 gz gp, k4 a b g0 g1 g2 g3]
      have kp5 : ∀ a b, 1 ≤ a → a ≤ 8 → ¬ b = 1 → σ5 a b = σ a b := fun a b h1 h2 h3 => k5 a b (by omega) (by omega) (by simp only [List.mem_cons, List.not_mem_nil, or_false]; omega) (by omega) (by omega) (by omega)
      have C5 : HC σ5 hs nx := C.tr (k5 9 0 (by omega) (by omega) (by simp) (by omega) (by omega) (by omega)) (fun a b h1 h2 h3 => kp5 a b h1 h2 (by omega))
      obtain ⟨σ6, e6, C6, H6, z6, o6, x6⟩ := c_begin W C5 (I.2.1.tr (fun a h1 h2 => kp5 a 0 h1 h2 (by omega)))
      have H61 : Rep σ6 1 Q' := H5.tr (fun a h1 h2 => o6 a 1 (by omega) (by omega) (by omega))
      obtain ⟨σ7, e7, o7, H7⟩ := c_copy W' (j0 := 0) (j1 := 1) (by decide) H61
      have c6 : Cf σ5 σ6 := ⟨fun a b h1 h2 h3 => o6 a b (by omega) (fun hh => h3 (by rw [hh.1]; simp)) h2, x6 9 (by decide)⟩
      have c7 : Cf σ6 σ7 := ⟨fun a b h1 h2 h3 => o7 a b (by omega), by rw [o7 0 0 (by omega)]⟩
      obtain ⟨τ, hτ⟩ : ∃ τ, τ = qu σ7 38 0 0 (nI L.length) := ⟨_, rfl⟩
      have cτ : Cf σ τ := ((c5.trans c6).trans c7).trans (by rw [hτ]; exact Cf.qu (Or.inl (by simp)))
      have kτ : ∀ a b, ¬ (a = 38 ∧ b = 0) → τ a b = σ7 a b := fun a b hh => by rw [hτ, qu_other _ hh]
      have r4 : σ7 19 0 4 = nI L.length := by rw [o7 19 0 (by omega), o6 19 0 (by omega) (by omega) (by omega), F5.1 19 0 (by omega) (by omega) (by simp), n44, Nat.zero_add]
      have hw : f_L_runScript σ = qan 0 τ := by
        unfold f_L_runScript
        rw [hX7, e5, hfu, Nat.zero_add]
        show qbind (b_X7_runScript_54 _ (nI L.length) σ5) _ _ = _
        unfold b_X7_runScript_54
        rw [show σ5 19 0 4 = nI L.length by rw [F5.1 19 0 (by omega) (by omega) (by simp), n44, Nat.zero_add], if_pos (nI_le (Nat.le_refl _) (by omega)), e6, qb_V, e7, qb_V, qb_I, qlet_eq, r4, ← hτ]
      obtain ⟨s3, g1, g2, g3, g4, g5, g6, g7, g8, g9⟩ := hX8 τ cτ
      have Rτ : RepR τ 27 0 P := I.2.2.1.tr (cτ.1 27 0 (by omega) (by omega) (by simp))
      obtain ⟨R3, B3⟩ := g2 Rτ
      obtain ⟨s4, e8, R4, t4', w4⟩ := hr s3 qFU hfl R3 g4 g5 g3
      have D4 : HR s4 hs := D.tr (by rw [w4.1 30 0 (by simp), g9, cτ.1 30 0 (by omega) (by omega) (by simp)]) (by rw [w4.2 5 (by decide), g8 5 (by omega) (by omega), cτ.1 26 0 (by omega) (by omega) (by simp)])
      obtain ⟨s5, e9, D5, o5, y5⟩ := r_remembers W D4 hp (B3.tr (w4.1 28 0 (by simp)))
      have rr : Rf τ s5 := (g6.trans (Rf.wo w4)).trans ⟨fun a b hh => by
        simp only [List.mem_cons, List.not_mem_nil, or_false] at hh
        exact o5 a b (by omega) (by omega), fun x hx => y5 x (by omega)⟩
      have ks : ∀ a b, a ∉ [26, 27, 28, 30, 31, 32, 33, 34, 37] → s5 a b = τ a b := rr.1
      refine ⟨0, τ, nI L.length, s5, by decide, hw, ?_, by rw [y5 17 (by decide)]; exact t4', fun _ => by rw [ks 38 0 (by simp), hτ, qu_at, if_pos ⟨rfl, rfl, rfl⟩], Q', hpush hs P, sv, ?_, Or.inl (by rw [ks 0 0 (by simp), kτ 0 0 (by omega), o7 0 0 (by omega)]; exact z6)⟩
      · rw [g1, e8, hfu, Nat.zero_add]
        show b_X8_runScript_38 _ (nI L.length) s4 = _
        unfold b_X8_runScript_38
        rw [show s4 26 0 21 = nI L.length by rw [w4.2 21 (by decide), g5, Nat.zero_add], if_pos (nI_le (Nat.le_refl _) (by omega))]
        unfold f_X8_ends
        rw [if_pos t4', e9, qb_V, qb_I]
      · have yy : ∀ x, 6 ≤ x → x ≤ 8 → s5 26 0 x = σ 26 0 x := fun x h1 h2 => by rw [y5 x (by omega), w4.2 x (by omega), g8 x (by omega) (by omega), cτ.1 26 0 (by omega) (by omega) (by simp)]
        have zz : ∀ x, 10 ≤ x → x ≤ 12 → s5 0 0 x = σ 0 0 x := fun x h1 h2 => by rw [ks 0 0 (by simp), kτ 0 0 (by omega), o7 0 0 (by omega), x6 x (by omega), F5.2.1 x (by omega), k4 0 0 (by omega) (by omega) (by omega) (by omega)]
        refine z_inv I cτ rr W' (H7.tr (fun a h1 h2 => by rw [ks a 0 (by simp only [List.mem_cons, List.not_mem_nil, or_false]; omega), kτ a 0 (by omega)])) ((R4.tr (o5 27 0 (by decide) (by decide)))) (C6.tr ?_ (fun a b h1 h2 h3 => by rw [ks a b (by simp only [List.mem_cons, List.not_mem_nil, or_false]; omega), kτ a b (by omega), o7 a b (by omega)])) D5 (hp.push W) ?_ ?_ (I.2.2.2.2.2.2.1.tr zz yy)
        · rw [ks 9 0 (by simp), kτ 9 0 (by omega), o7 9 0 (by omega)]
        · rw [ks 19 0 (by simp), kτ 19 0 (by omega), o7 19 0 (by omega), o6 19 0 (by omega) (by omega) (by omega), F5.1 19 0 (by omega) (by omega) (by simp), n34]
          rfl
        · rw [y5 14 (by decide), w4.2 14 (by decide), g7]
          rfl
    · rw [Nat.zero_add] at hf
      obtain ⟨σ5, e5, F5⟩ := hc σ4 qFU hfl H4 CL4 n44
      obtain ⟨τ, hτ⟩ : ∃ τ, τ = qu (qu σ5 0 0 11 (nI f)) 0 0 12 (nI ch) := ⟨_, rfl⟩
      rw [← hτ] at e5
      have c5 := c4.trans (Cf.fc F5)
      have cτ : Cf σ τ := (c5.trans (Cf.qu (k := 0) (j := 0) (i := 11) (v := nI f) (Or.inr (by simp)))).trans (by rw [hτ]; exact Cf.qu (Or.inr (by simp)))
      have kτ : ∀ a b, ¬ (a = 0 ∧ b = 0) → τ a b = σ5 a b := fun a b hh => by rw [hτ, qu_other _ hh, qu_other _ hh]
      have zτ : ∀ x, x ≠ 11 → x ≠ 12 → τ 0 0 x = σ5 0 0 x := fun x h1 h2 => by rw [hτ, qu_at, if_neg (fun hh => h2 hh.2.2), qu_at, if_neg (fun hh => h1 hh.2.2)]
      have k5 : ∀ a b, ¬ (1 ≤ a ∧ a ≤ 8 ∧ b = 1) → ¬ (a = 0 ∧ b = 0) → a ∉ [11, 12, 13, 14, 15, 16, 17, 18] → ¬ (a = 19 ∧ b = 0) → ¬ (a = 21 ∧ b = 0) → ¬ (a = 22 ∧ b = 0) → σ5 a b = σ a b := fun a b g0 gz gp g1 g2 g3 => by rw [F5.1 a b g0 gz gp, k4 a b g0 g1 g2 g3]
      have kp5 : ∀ a b, 1 ≤ a → a ≤ 8 → ¬ b = 1 → τ a b = σ a b := fun a b h1 h2 h3 => by rw [kτ a b (by omega)]; exact k5 a b (by omega) (by omega) (by simp only [List.mem_cons, List.not_mem_nil, or_false]; omega) (by omega) (by omega) (by omega)
      have S4 : PlanSt P σ4 := S.keep (by rw [k4 0 0 (by omega) (by omega) (by omega) (by omega)]) (fun a h1 h2 => k4 a 0 (by omega) (by omega) (by omega) (by omega))
      have Sτ : PlanSt P τ := (F5.2.2 P S4).keep (zτ 8 (by decide) (by decide)) (fun a h1 h2 => kτ a 0 (by omega))
      have hw : f_L_runScript σ = qan (nI 2) τ := by
        unfold f_L_runScript
        rw [hX7, e5]
        rfl
      obtain ⟨s3, g1, g2, g3, g4, g5, g6, g7, g8, g9⟩ := hX8 τ cτ
      have Rτ : RepR τ 27 0 P := I.2.2.1.tr (cτ.1 27 0 (by omega) (by omega) (by simp))
      obtain ⟨R3, B3⟩ := g2 Rτ
      obtain ⟨s4, e8, w4⟩ := hr s3 qFU hfl R3 g4 g5 g3
      obtain ⟨s5, hs5⟩ : ∃ s5, s5 = qu (qu (qu s4 26 0 7 (nI f)) 26 0 8 (nI ch)) 26 0 17 2 := ⟨_, rfl⟩
      rw [← hs5] at e8
      have k55 : ∀ a b, ¬ (a = 26 ∧ b = 0) → s5 a b = s4 a b := fun a b hh => by rw [hs5, qu_other _ hh, qu_other _ hh, qu_other _ hh]
      have y55 : ∀ x, x ≠ 7 → x ≠ 8 → x ≠ 17 → s5 26 0 x = s4 26 0 x := fun x h1 h2 h3 => by rw [hs5, qu_at, if_neg (fun hh => h3 hh.2.2), qu_at, if_neg (fun hh => h2 hh.2.2), qu_at, if_neg (fun hh => h1 hh.2.2)]
      obtain ⟨s6, e9, R6, q6⟩ := r_back W (σ := s5) (B3.tr (by rw [k55 28 0 (by simp), w4.1 28 0 (by simp)]))
      have rr : Rf τ s6 := ((g6.trans (Rf.wo w4)).trans ⟨fun a b hh => k55 a b (fun h => hh (by rw [h.1]; simp)), fun x hx => y55 x (by omega) (by omega) (by omega)⟩).trans (Rf.sm q6 (by simp))
      have ks : ∀ a b, a ∉ [26, 27, 28, 30, 31, 32, 33, 34, 37] → s6 a b = τ a b := rr.1
      have y6 : ∀ x, x ≠ 7 → x ≠ 8 → x ≠ 17 → s6 26 0 x = s3 26 0 x := fun x h1 h2 h3 => by rw [q6 26 0 (by simp), y55 x h1 h2 h3, w4.2 x h3]
      refine ⟨2, τ, 0, s6, by decide, hw, ?_, by rw [q6 26 0 (by simp), hs5, qu_at, if_pos ⟨rfl, rfl, rfl⟩]; rfl, fun hh => absurd hh (by decide), P, hs, sv, ?_, Sτ.keep (by rw [ks 0 0 (by simp)]) (fun a h1 h2 => ks a 0 (by simp only [List.mem_cons, List.not_mem_nil, or_false]; omega))⟩
      · rw [g1, e8, e9, qb_V]
      · refine z_inv I cτ rr W (I.2.1.tr (fun a h1 h2 => by rw [ks a 0 (by simp only [List.mem_cons, List.not_mem_nil, or_false]; omega), kp5 a 0 h1 h2 (by omega)])) R6 (C.tr ?_ (fun a b h1 h2 h3 => by rw [ks a b (by simp only [List.mem_cons, List.not_mem_nil, or_false]; omega), kp5 a b h1 h2 (by omega)])) (D.tr ?_ ?_) hp ?_ ?_ ⟨?_, ?_, fun _ => ⟨?_, ?_⟩⟩
        · rw [ks 9 0 (by simp), kτ 9 0 (by omega), k5 9 0 (by omega) (by omega) (by simp) (by omega) (by omega) (by omega)]
        · rw [q6 30 0 (by simp), k55 30 0 (by simp), w4.1 30 0 (by simp), g9, cτ.1 30 0 (by omega) (by omega) (by simp)]
        · rw [y6 5 (by decide) (by decide) (by decide), g8 5 (by omega) (by omega), cτ.1 26 0 (by omega) (by omega) (by simp)]
        · rw [ks 19 0 (by simp), kτ 19 0 (by omega), F5.1 19 0 (by omega) (by omega) (by simp), n34]
          rfl
        · rw [y6 14 (by decide) (by decide) (by decide), g7]
          rfl
        · rw [ks 0 0 (by simp), zτ 10 (by decide) (by decide), F5.2.1 10 (by decide), k4 0 0 (by omega) (by omega) (by omega) (by omega), y6 6 (by decide) (by decide) (by decide), g8 6 (by omega) (by omega), cτ.1 26 0 (by omega) (by omega) (by simp)]
          exact d1
        · rw [ks 0 0 (by simp), hτ, qu_at, if_neg (by simp), qu_at, if_pos ⟨rfl, rfl, rfl⟩, q6 26 0 (by simp), hs5, qu_at, if_neg (by simp), qu_at, if_neg (by simp), qu_at, if_pos ⟨rfl, rfl, rfl⟩]
        · rw [ks 0 0 (by simp), hτ, qu_at, if_pos ⟨rfl, rfl, rfl⟩, q6 26 0 (by simp), hs5, qu_at, if_neg (by simp), qu_at, if_pos ⟨rfl, rfl, rfl⟩]
        · rw [ks 0 0 (by simp), hτ, qu_at, if_pos ⟨rfl, rfl, rfl⟩, nI_toInt (by omega)]
          omega
  · have hb0 : (pal T 61 0).1.1 = false := by simpa using hb
    obtain ⟨q, hq⟩ : ∃ q, q = (pal T 61 0).1.2 := ⟨_, rfl⟩
    rw [← hq] at b5 ain
    obtain ⟨τ, hτ⟩ : ∃ τ, τ = qu σb 0 0 10 (nI q) := ⟨_, rfl⟩
    have cτ : Cf σ τ := cb.trans (by rw [hτ]; exact Cf.qu (Or.inr (by simp)))
    have kτ : ∀ a b, ¬ (a = 0 ∧ b = 0) → ¬ (a = 19 ∧ b = 0) → ¬ (a = 21 ∧ b = 0) → ¬ (a = 22 ∧ b = 0) → τ a b = σ a b := fun a b g0 g1 g2 g3 => by rw [hτ, qu_other _ g0, kb a b g1 g2 g3]
    have zτ : ∀ x, x ≠ 10 → τ 0 0 x = σ 0 0 x := fun x hx => by rw [hτ, qu_at, if_neg (fun hh => hx hh.2.2), kb 0 0 (by omega) (by omega) (by omega)]
    have hw : f_L_runScript σ = qan (nI 1) τ := by
      unfold f_L_runScript f_X7_runScript
      rw [ea, qb_I, hclr, qb_V, hb0, if_pos (by rfl), b5, qlet_eq, ← hτ]
      rfl
    obtain ⟨s1, e1, f1, f2, f3, f4, f5, f6, f7⟩ := z_reads (T := T) (by omega) (by rw [hT1]; exact t3) h35 cτ
    have r20 : s1 26 0 20 = nI q := by
      unfold RSt at f5
      rw [if_neg hb] at f5
      rw [hq]
      exact f5
    obtain ⟨s2, hs2⟩ : ∃ s2, s2 = qu (qu s1 26 0 6 (nI q)) 26 0 17 1 := ⟨_, rfl⟩
    have k2 : ∀ a b, ¬ (a = 26 ∧ b = 0) → s2 a b = s1 a b := fun a b hh => by rw [hs2, qu_other _ hh, qu_other _ hh]
    have y2 : ∀ x, x ≠ 6 → x ≠ 17 → s2 26 0 x = s1 26 0 x := fun x h1 h2 => by rw [hs2, qu_at, if_neg (fun hh => h2 hh.2.2), qu_at, if_neg (fun hh => h1 hh.2.2)]
    have rr : Rf τ s2 := (f3.trans (Rf.qu (k := 26) (j := 0) (i := 6) (v := nI q) (by simp))).trans (by rw [hs2]; exact Rf.qu (by simp))
    have ks : ∀ a b, a ∉ [26, 27, 28, 30, 31, 32, 33, 34, 37] → s2 a b = τ a b := rr.1
    have kp : ∀ a b, 1 ≤ a → a ≤ 8 → s2 a b = σ a b := fun a b h1 h2 => by rw [ks a b (by simp only [List.mem_cons, List.not_mem_nil, or_false]; omega), kτ a b (by omega) (by omega) (by omega) (by omega)]
    have Sτ : PlanSt P τ := S.keep (zτ 8 (by decide)) (fun a h1 h2 => kτ a 0 (by omega) (by omega) (by omega) (by omega))
    refine ⟨1, τ, 0, s2, by decide, hw, ?_, by rw [hs2, qu_at, if_pos ⟨rfl, rfl, rfl⟩]; rfl, fun hh => absurd hh (by decide), P, hs, sv, ?_, Sτ.keep (by rw [ks 0 0 (by simp)]) (fun a h1 h2 => ks a 0 (by simp only [List.mem_cons, List.not_mem_nil, or_false]; omega))⟩
    · unfold f_X8_runScript
      rw [e1, qb_V, r20, if_neg (n_ne _ (by omega)), qlet_eq, qlet_eq, ← hs2]
    · refine z_inv I cτ rr W (I.2.1.tr (fun a h1 h2 => kp a 0 h1 h2)) (I.2.2.1.tr ?_) (C.tr ?_ (fun a b h1 h2 h3 => kp a b h1 h2)) (D.tr ?_ ?_) hp ?_ ?_ ⟨?_, ?_, fun hh => ?_⟩
      · rw [k2 27 0 (by simp), f1 27 0 (by simp) (by simp), kτ 27 0 (by omega) (by omega) (by omega) (by omega)]
      · rw [ks 9 0 (by simp), kτ 9 0 (by omega) (by omega) (by omega) (by omega)]
      · rw [k2 30 0 (by simp), f1 30 0 (by simp) (by simp), kτ 30 0 (by omega) (by omega) (by omega) (by omega)]
      · rw [y2 5 (by decide) (by decide), f2 5 (by decide) (by decide) (by decide) (by decide) (by decide), kτ 26 0 (by omega) (by omega) (by omega) (by omega)]
      · rw [ks 19 0 (by simp), hτ, qu_at, if_neg (by simp), b3]
        rfl
      · rw [y2 14 (by decide) (by decide), f4]
        rfl
      · rw [ks 0 0 (by simp), hτ, qu_at, if_pos ⟨rfl, rfl, rfl⟩, hs2, qu_at, if_neg (by simp), qu_at, if_pos ⟨rfl, rfl, rfl⟩]
      · rw [ks 0 0 (by simp), zτ 11 (by decide), y2 7 (by decide) (by decide), f2 7 (by decide) (by decide) (by decide) (by decide) (by decide), kτ 26 0 (by omega) (by omega) (by omega) (by omega)]
        exact d2
      · rw [ks 0 0 (by simp), zτ 11 (by decide)] at hh
        rw [ks 0 0 (by simp), zτ 12 (by decide), y2 8 (by decide) (by decide), f2 8 (by decide) (by decide) (by decide) (by decide) (by decide), kτ 26 0 (by omega) (by omega) (by omega) (by omega)]
        exact d3 hh
end RZ
