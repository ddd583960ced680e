/-! the reference's changes -/
section CR
variable {P : qP} {σ : qS}
def Wo (σ σ' : qS) : Prop := (∀ a b, a ∉ [26, 27, 31, 32, 33, 34] → σ' a b = σ a b) ∧ ∀ x, ¬ x = 17 → σ' 26 0 x = σ 26 0 x
theorem Wo.thr (σ : qS) (v : Int32) : Wo σ (qu σ 26 0 17 v) := ⟨fun a b ha => qu_other σ (fun h => ha (by rw [h.1]; simp)), fun x hx => by rw [qu_at, if_neg (fun h => hx h.2.2)]⟩
theorem Wo.trans {σ σ' σ'' : qS} (h : Wo σ σ') (h2 : Wo σ' σ'') : Wo σ σ'' := ⟨fun a b ha => (h2.1 a b ha).trans (h.1 a b ha), fun x hx => (h2.2 x hx).trans (h.2 x hx)⟩
theorem Wo.of {ks : List Nat} {σ σ' : qS} (h : qsm ks σ σ') (hk : ∀ k ∈ ks, k ∈ [27, 31, 32, 33, 34]) : Wo σ σ' := by
  have e : ∀ a, a ∉ [27, 31, 32, 33, 34] → ∀ b, σ' a b = σ a b := fun a ha b => h a b (fun h2 => ha (hk a h2))
  refine ⟨fun a b ha => e a (fun h2 => ha ?_) b, fun x _ => by rw [e 26 (by simp)]⟩
  simp only [List.mem_cons, List.not_mem_nil, or_false] at h2 ⊢
  omega
theorem r_holds3 (a b c : Bool) {F : qS → Option qO} : qbind (f_X8_holds (qb1 a) (qb1 b) (qb1 c) σ) (qvI (fun r2 s2 => if r2 = 0 then (some (.inl (some (qI (0 : Int32))), s2)) else F s2)) qE0 = if (a && b && c) = true then F (qu σ 26 0 17 0) else qan 0 (qu σ 26 0 17 (nI (thrc a b c))) := by
  rw [r_holds, qb_I]
  cases a <;> cases b <;> cases c <;> rfl
theorem r_goes1 (a : Bool) {F : qS → Option qO} : qbind (f_X8_goes (qb1 a) σ) (qvI (fun r2 s2 => if r2 = 0 then (some (.inl (some (qI (0 : Int32))), s2)) else F s2)) qE0 = if a = true then F (qu σ 26 0 17 0) else qan 0 (qu σ 26 0 17 1) := by
  rw [r_goes, qb_I]
  cases a <;> rfl
theorem e_taskAt {t : Nat} (ht : t < 1000) (s : qS) : f_X8_taskAt (nI t) s = qan (nI (5 + 6 * t)) s := by
  unfold f_X8_taskAt
  rw [show (6 : Int32) = nI 6 from rfl, show (5 : Int32) = nI 5 from rfl, n_mul, nI_add]
/-! adding -/
def fineA (a b c d : Int32) : Bool := decide ((1 : Int32) ≤ a ∧ a ≤ 9) && isR b && decide ((1 : Int32) ≤ c ∧ c ≤ 5) && decide ((0 : Int32) ≤ d ∧ d ≤ 30)
theorem c_faultA {j : Nat} (W : PW P) (H : Rep σ j P) (a b c d : Int32) : f_X5_faultOfAdding j a b c d σ = qan (if fineA a b c d = false then 97 else if pn P = 12 then 115 else 46) σ := by
  have hn := W.1
  have h0 : j_X5_faultOfAdding_43 j σ = qan 97 σ := rfl
  have h12 : (if (12 : Int32) ≤ (σ 1 j 7) then (some (.inl (some (qI (115 : Int32))), σ) : Option qO) else (some (.inl (some (qI (46 : Int32))), σ))) = qan (if pn P = 12 then 115 else 46) σ := by
    rw [H.1]
    by_cases h : pn P = 12
    · rw [if_pos (by rw [show (12 : Int32) = nI 12 from rfl, n_le (by omega) (by omega)]; omega), if_pos h]
    · rw [if_neg (by rw [show (12 : Int32) = nI 12 from rfl, n_le (by omega) (by omega)]; omega), if_neg h]
  unfold f_X5_faultOfAdding fineA isR
  rw [e_isWithin, qb_I]
  cases h1 : decide ((1 : Int32) ≤ a ∧ a ≤ 9)
  · rw [if_pos (by rfl), h0]; rfl
  · rw [if_neg (by decide), e_isWithin, qb_I]
    cases h2 : decide ((0 : Int32) ≤ b ∧ b ≤ 2)
    · rw [if_pos (by rfl), h0]; rfl
    · rw [if_neg (by decide), e_isWithin, qb_I]
      cases h3 : decide ((1 : Int32) ≤ c ∧ c ≤ 5)
      · rw [if_pos (by rfl), h0]; rfl
      · rw [if_neg (by decide), e_isWithin, qb_I]
        cases h4 : decide ((0 : Int32) ≤ d ∧ d ≤ 30)
        · rw [if_pos (by rfl), h0]; rfl
        · rw [if_neg (by decide), if_neg (by decide), h12]; rfl
theorem r_adds63 (W : PW P) (H : RepR σ 27 0 P) (a b c d : Int32) (f g : Bool) (hg : f = true → g = true → pn P < 12) : (f && g) = false ∧ j_X8_adds_63 a b c d (qb1 f) (qb1 g) σ = qan 0 (qu σ 26 0 17 (nI (thrc f g true))) ∨ (f && g) = true ∧ ∃ σ', j_X8_adds_63 a b c d (qb1 f) (qb1 g) σ = qan (nI (pn P)) σ' ∧ RepR σ' 27 0 (padd P a b c d) ∧ σ' 26 0 17 = 0 ∧ Wo σ σ' := by
  have hn := W.1
  have hu : j_X8_adds_63 a b c d (qb1 f) (qb1 g) σ = _ := r_holds3 (σ := σ) f g true
  rw [hu]
  cases hh : (f && g)
  · exact Or.inl ⟨rfl, by rw [if_neg (show ¬ (false && true) = true by decide)]⟩
  · refine Or.inr ⟨rfl, ?_⟩
    rw [Bool.and_eq_true] at hh
    have hn2 := hg hh.1 hh.2
    rw [if_pos (show (true && true) = true by decide)]
    have R1 : RepR (qu σ 26 0 17 0) 27 0 P := H.qt (Qt.thr _ _) (Or.inl rfl)
    have e0 : (qu σ 26 0 17 0) 27 0 0 = nI (pn P) := R1.1
    rw [e0, e_taskAt (by omega), qb_I]
    have z0 : nI (5 + 6 * pn P) + (0 : Int32) = nI (5 + 6 * pn P + 0) := by rw [show (0 : Int32) = nI 0 from rfl, nI_add]
    have z1 : nI (5 + 6 * pn P) + (1 : Int32) = nI (5 + 6 * pn P + 1) := by rw [show (1 : Int32) = nI 1 from rfl, nI_add]
    have z2 : nI (5 + 6 * pn P) + (2 : Int32) = nI (5 + 6 * pn P + 2) := by rw [show (2 : Int32) = nI 2 from rfl, nI_add]
    have z3 : nI (5 + 6 * pn P) + (3 : Int32) = nI (5 + 6 * pn P + 3) := by rw [show (3 : Int32) = nI 3 from rfl, nI_add]
    have z4 : nI (5 + 6 * pn P) + (4 : Int32) = nI (5 + 6 * pn P + 4) := by rw [show (4 : Int32) = nI 4 from rfl, nI_add]
    have z5 : nI (5 + 6 * pn P) + (5 : Int32) = nI (5 + 6 * pn P + 5) := by rw [show (5 : Int32) = nI 5 from rfl, nI_add]
    simp only [z0, z1, z2, z3, z4, z5, qlet_eq]
    rw [if_pos (n_in (show 5 + 6 * pn P + 0 < 77 by omega) (by decide)), if_pos (n_in (show 5 + 6 * pn P + 1 < 77 by omega) (by decide)), if_pos (n_in (show 5 + 6 * pn P + 2 < 77 by omega) (by decide)), if_pos (n_in (show 5 + 6 * pn P + 3 < 77 by omega) (by decide)), if_pos (n_in (show 5 + 6 * pn P + 4 < 77 by omega) (by decide)), if_pos (n_in (show 5 + 6 * pn P + 5 < 77 by omega) (by decide))]
    rw [nI_clamp (show 5 + 6 * pn P + 0 < 2 ^ 31 by omega), nI_clamp (show 5 + 6 * pn P + 1 < 2 ^ 31 by omega), nI_clamp (show 5 + 6 * pn P + 2 < 2 ^ 31 by omega), nI_clamp (show 5 + 6 * pn P + 3 < 2 ^ 31 by omega), nI_clamp (show 5 + 6 * pn P + 4 < 2 ^ 31 by omega), nI_clamp (show 5 + 6 * pn P + 5 < 2 ^ 31 by omega)]
    obtain ⟨τ, hτ⟩ : ∃ τ, τ = qu (qu (qu (qu (qu (qu (qu σ 26 0 17 0) 27 0 (5 + 6 * pn P + 0) a) 27 0 (5 + 6 * pn P + 1) b) 27 0 (5 + 6 * pn P + 2) c) 27 0 (5 + 6 * pn P + 3) d) 27 0 (5 + 6 * pn P + 4) 0) 27 0 (5 + 6 * pn P + 5) (-1) := ⟨_, rfl⟩
    have eτ : τ 27 0 0 = nI (pn P) := by
      rw [hτ, qu_at, if_neg (by omega), qu_at, if_neg (by omega), qu_at, if_neg (by omega), qu_at, if_neg (by omega), qu_at, if_neg (by omega), qu_at, if_neg (by omega)]
      exact e0
    rw [← hτ, eτ, nI_1, show (qu τ 27 0 0 (nI (pn P + 1))) 27 0 0 = nI (pn P + 1) by rw [qu_at, if_pos ⟨rfl, rfl, rfl⟩], nI_pred]
    have lo : ∀ y, y < 5 → τ 27 0 y = (qu σ 26 0 17 0) 27 0 y := fun y hy => by
      rw [hτ, qu_at, if_neg (by omega), qu_at, if_neg (by omega), qu_at, if_neg (by omega), qu_at, if_neg (by omega), qu_at, if_neg (by omega), qu_at, if_neg (by omega)]
    refine ⟨_, rfl, ⟨by rw [qu_at, if_pos ⟨rfl, rfl, rfl⟩]; rfl, ?_, fun r hr => ?_, fun x t hx ht => ?_⟩, ?_, ?_⟩
    · rw [qu_at, if_neg (by omega), lo _ (by omega)]; exact R1.2.1
    · rw [qu_at, if_neg (by omega), lo _ (by omega)]; exact R1.2.2.1 r hr
    · have ht : t < pn P + 1 := ht
      rw [qu_at, if_neg (by omega), hτ, padd_f]
      have hh2 := R1.2.2.2 x t hx
      by_cases htn : t = pn P
      · rw [if_pos htn, qu_at, qu_at, qu_at, qu_at, qu_at, qu_at, htn]
        rcases (show x = 0 ∨ x = 1 ∨ x = 2 ∨ x = 3 ∨ x = 4 ∨ x = 5 by omega) with rfl | rfl | rfl | rfl | rfl | rfl <;> simp
      · rw [if_neg htn, qu_at, if_neg (by omega), qu_at, if_neg (by omega), qu_at, if_neg (by omega), qu_at, if_neg (by omega), qu_at, if_neg (by omega), qu_at, if_neg (by omega)]
        exact hh2 (by omega)
    · rw [qu_at, if_neg (by simp), hτ, qu_at, if_neg (by simp), qu_at, if_neg (by simp), qu_at, if_neg (by simp), qu_at, if_neg (by simp), qu_at, if_neg (by simp), qu_at, if_neg (by simp)]
      exact thr_at _ _
    · have q : qsm [27] (qu σ 26 0 17 0) (qu τ 27 0 0 (nI (pn P + 1))) := by
        rw [hτ]
        exact ((((((qsm_qu _ 27 0 _ _).trans (qsm_qu _ 27 0 _ _)).trans (qsm_qu _ 27 0 _ _)).trans (qsm_qu _ 27 0 _ _)).trans (qsm_qu _ 27 0 _ _)).trans (qsm_qu _ 27 0 _ _)).trans (qsm_qu _ 27 0 _ _)
      exact (Wo.thr _ _).trans (Wo.of q (by simp))
theorem r_adds (W : PW P) (H : RepR σ 27 0 P) (a b c d : Int32) : (fineA a b c d = false ∧ f_X8_adds a b c d σ = qan 0 (qu σ 26 0 17 1)) ∨ (fineA a b c d = true ∧ pn P = 12 ∧ f_X8_adds a b c d σ = qan 0 (qu σ 26 0 17 2)) ∨ (fineA a b c d = true ∧ pn P < 12 ∧ ∃ σ', f_X8_adds a b c d σ = qan (nI (pn P)) σ' ∧ RepR σ' 27 0 (padd P a b c d) ∧ σ' 26 0 17 = 0 ∧ Wo σ σ') := by
  have hn := W.1
  have h42 : ∀ f, j_X8_adds_42 a b c d (qb1 f) σ = j_X8_adds_63 a b c d (qb1 f) (qb1 (decide (pn P < 12))) σ := fun f => by
    unfold j_X8_adds_42
    rw [show σ 27 0 0 = nI (pn P) from H.1]
    by_cases h : pn P < 12
    · rw [if_neg (by rw [show (12 : Int32) = nI 12 from rfl, n_le (by omega) (by omega)]; omega), decide_eq_true h]; rfl
    · rw [if_pos (by rw [show (12 : Int32) = nI 12 from rfl, n_le (by omega) (by omega)]; omega), decide_eq_false h]; rfl
  have hx : f_X8_adds a b c d σ = j_X8_adds_42 a b c d (qb1 (fineA a b c d)) σ := by
    unfold f_X8_adds fineA
    rw [r_isIn, qb_I]
    cases h1 : decide ((1 : Int32) ≤ a ∧ a ≤ 9)
    · rw [if_pos (by rfl)]; rfl
    · rw [if_neg (by decide), r_isR, qb_I]
      cases h2 : isR b
      · rw [if_pos (by rfl)]; rfl
      · rw [if_neg (by decide), r_isIn, qb_I]
        cases h3 : decide ((1 : Int32) ≤ c ∧ c ≤ 5)
        · rw [if_pos (by rfl)]; rfl
        · rw [if_neg (by decide), r_isIn, qb_I]
          cases h4 : decide ((0 : Int32) ≤ d ∧ d ≤ 30)
          · rw [if_pos (by rfl)]; rfl
          · rw [if_neg (by decide)]; rfl
  rw [hx, h42]
  rcases r_adds63 W H a b c d (fineA a b c d) (decide (pn P < 12)) (fun _ h => of_decide_eq_true h) with ⟨h1, h2⟩ | ⟨h1, h2⟩
  · cases hf : fineA a b c d
    · exact Or.inl ⟨rfl, by rw [hf] at h2; exact h2⟩
    · rw [hf, Bool.true_and] at h1
      refine Or.inr (Or.inl ⟨rfl, by have := of_decide_eq_false h1; omega, ?_⟩)
      rw [h1, hf] at h2
      rw [h1]
      exact h2
  · rw [Bool.and_eq_true] at h1
    exact Or.inr (Or.inr ⟨h1.1, of_decide_eq_true h1.2, h2⟩)
/-! removing -/
theorem r_gap_loop {x : Nat} : ∀ (d i m : Nat) (s : qS), i + d = 71 → d < m → ∃ s', l_X8_removes_19 m (nI x) (nI i) s = l_X8_removes_64 qFU (((1 : Int32) <<< (nI x &&& 31)) - (1 : Int32)) 0 (qu s' 27 0 0 (s' 27 0 0 - 1)) ∧ qsm [27] s s' ∧ ∀ y, s' 27 0 y = if i ≤ y ∧ y < 71 then s 27 0 (y + 6) else s 27 0 y := by
  intro d
  induction d with
  | zero =>
    intro i m s hi hm
    obtain ⟨m, rfl⟩ : ∃ m', m = m' + 1 := ⟨m - 1, by omega⟩
    refine ⟨s, ?_, qsm.refl _ s, fun y => by rw [if_neg (by omega)]⟩
    simp only [l_X8_removes_19, b_X8_removes_19]
    rw [if_pos (by rw [show (71 : Int32) = nI 71 from rfl]; exact nI_le (by omega) (by omega)), qlet_eq]
  | succ d ih =>
    intro i m s hi hm
    obtain ⟨m, rfl⟩ : ∃ m', m = m' + 1 := ⟨m - 1, by omega⟩
    obtain ⟨s', e, o, c⟩ := ih (i + 1) m (qu s 27 0 i (s 27 0 (i + 6))) (by omega) (by omega)
    refine ⟨s', ?_, (qsm_qu s 27 0 i _).trans o, fun y => ?_⟩
    · simp only [l_X8_removes_19, b_X8_removes_19]
      rw [if_neg (by rw [show (71 : Int32) = nI 71 from rfl]; exact nI_ge (by omega) (by omega)), show (6 : Int32) = nI 6 from rfl, nI_add, if_pos (n_in (by omega) (by decide)), if_pos (n_in (by omega) (by decide)), nI_clamp (by omega), nI_clamp (by omega), qlet_eq, nI_1]
      exact e
    · rw [c y]
      by_cases h1 : i + 1 ≤ y ∧ y < 71
      · rw [if_pos h1, if_pos (by omega), qu_at, if_neg (fun h => by have := h.2.2; omega)]
      · rw [if_neg h1, qu_at]
        by_cases h2 : y = i
        · rw [if_pos ⟨rfl, rfl, h2⟩, if_pos (by omega), h2]
        · rw [if_neg (fun h => h2 h.2.2), if_neg (by omega)]
theorem r_cut_loop {x n : Nat} (hn : n ≤ 12) : ∀ (d i m : Nat) (s : qS), i + d = n → d < m → s 27 0 0 = nI n → ∃ s', l_X8_removes_64 m (((1 : Int32) <<< (nI x &&& 31)) - (1 : Int32)) (nI i) s = qan (nI n) s' ∧ qsm [27] s s' ∧ (∀ y, (∀ t, i ≤ t → t < n → y ≠ 5 + 6 * t + 4) → s' 27 0 y = s 27 0 y) ∧ ∀ t, i ≤ t → t < n → s' 27 0 (5 + 6 * t + 4) = pcut x (s 27 0 (5 + 6 * t + 4)) := by
  intro d
  induction d with
  | zero =>
    intro i m s hi hm h7
    obtain ⟨m, rfl⟩ : ∃ m', m = m' + 1 := ⟨m - 1, by omega⟩
    refine ⟨s, ?_, qsm.refl _ s, fun y _ => rfl, fun t h1 h2 => by omega⟩
    simp only [l_X8_removes_64, b_X8_removes_64]
    rw [h7, if_pos (nI_le (by omega) (by omega))]
  | succ d ih =>
    intro i m s hi hm h7
    obtain ⟨m, rfl⟩ : ∃ m', m = m' + 1 := ⟨m - 1, by omega⟩
    obtain ⟨s', e, o, c, c'⟩ := ih (i + 1) m (qu s 27 0 (5 + 6 * i + 4) (pcut x (s 27 0 (5 + 6 * i + 4)))) (by omega) (by omega) (by rw [qu_at, if_neg (by omega)]; exact h7)
    refine ⟨s', ?_, (qsm_qu s 27 0 _ _).trans o, fun y hy => ?_, fun t h1 h2 => ?_⟩
    · simp only [l_X8_removes_64, b_X8_removes_64]
      rw [h7, if_neg (nI_ge (by omega) (by omega)), e_taskAt (by omega), qb_I, show (4 : Int32) = nI 4 from rfl, nI_add, if_pos (n_in (show 5 + 6 * i + 4 < 77 by omega) (by decide)), e_taskAt (by omega), qb_I, nI_add, if_pos (n_in (show 5 + 6 * i + 4 < 77 by omega) (by decide)), nI_clamp (by omega), qlet_eq, nI_1]
      exact e
    · rw [c y (fun t h1 h2 => hy t (by omega) h2), qu_at, if_neg (fun h => hy i (Nat.le_refl _) (by omega) h.2.2)]
    · by_cases h3 : t = i
      · subst h3
        rw [c _ (fun t' h4 h5 => by omega), qu_at, if_pos ⟨rfl, rfl, rfl⟩]
      · rw [c' t (by omega) h2, qu_at, if_neg (fun h => by have := h.2.2; omega)]
theorem r_removes (W : PW P) (H : RepR σ 27 0 P) (a : Int32) : (isT P a = false ∧ f_X8_removes a σ = qan 0 (qu σ 26 0 17 1)) ∨ ∃ x, x < pn P ∧ a = nI x ∧ ∃ σ', f_X8_removes a σ = qan (nI (pn P - 1)) σ' ∧ RepR σ' 27 0 (pdrop P x) ∧ σ' 26 0 17 = 0 ∧ Wo σ σ' := by
  have hn := W.1
  unfold f_X8_removes
  rw [r_isT H, qb_I, r_goes1]
  cases hx : isT P a
  · exact Or.inl ⟨rfl, by rw [if_neg (by decide)]⟩
  · obtain ⟨x, hx, rfl⟩ := (isT_iff W).mp hx
    refine Or.inr ⟨x, by assumption, rfl, ?_⟩
    have hx : x < pn P := by assumption
    rw [if_pos rfl]
    have R1 : RepR (qu σ 26 0 17 0) 27 0 P := H.qt (Qt.thr _ _) (Or.inl rfl)
    rw [e_taskAt (by omega), qb_I]
    obtain ⟨s1, e1, q1, c1⟩ := r_gap_loop (x := x) (71 - (5 + 6 * x)) (5 + 6 * x) qFU (qu σ 26 0 17 0) (by omega) (by unfold qFU; omega)
    have hp : nI (pn P) - 1 = nI (pn P - 1) := by
      obtain ⟨k, hk⟩ : ∃ k, pn P = k + 1 := ⟨pn P - 1, by omega⟩
      rw [hk, nI_pred]
      rfl
    have e0 : s1 27 0 0 = nI (pn P) := by rw [c1, if_neg (by omega)]; exact R1.1
    rw [e1, e0, hp]
    obtain ⟨s2, e2, q2, c2, c3⟩ := r_cut_loop (x := x) (n := pn P - 1) (by omega) (pn P - 1) 0 qFU (qu s1 27 0 0 (nI (pn P - 1))) (by omega) (by unfold qFU; omega) (by rw [qu_at, if_pos ⟨rfl, rfl, rfl⟩])
    have q : qsm [27] (qu σ 26 0 17 0) s2 := (q1.trans (qsm_qu _ 27 0 _ _)).trans q2
    refine ⟨s2, e2, ⟨?_, ?_, fun r hr => ?_, fun f t hf ht => ?_⟩, by rw [q 26 0 (by simp)]; exact thr_at _ _, (Wo.thr _ _).trans (Wo.of q (by simp))⟩
    · rw [c2 _ (fun t _ _ => by omega), qu_at, if_pos ⟨rfl, rfl, rfl⟩]; rfl
    · rw [c2 _ (fun t _ _ => by omega), qu_at, if_neg (by omega), c1, if_neg (by omega)]; exact R1.2.1
    · rw [c2 _ (fun t _ _ => by omega), qu_at, if_neg (by omega), c1, if_neg (by omega)]; exact R1.2.2.1 r hr
    · have ht : t < pn P - 1 := ht
      have ht2 : psh x t < pn P := by unfold psh; split <;> omega
      have hh := R1.2.2.2 f (psh x t) hf ht2
      have s1v : (qu s1 27 0 0 (nI (pn P - 1))) 27 0 (0 + 5 + 6 * t + f) = pf P f (psh x t) := by
        rw [qu_at, if_neg (by omega), c1, ← hh]
        unfold psh
        by_cases h : t < x
        · rw [if_neg (by omega), if_pos h]
        · rw [if_pos (by omega), if_neg h]
          congr 1
          omega
      show _ = (if f = 4 then pcut x (pf P 4 (psh x t)) else pf P f (psh x t))
      by_cases h4 : f = 4
      · subst h4
        rw [show 0 + 5 + 6 * t + 4 = 5 + 6 * t + 4 by omega] at s1v ⊢
        rw [if_pos rfl, c3 t (by omega) ht, s1v]
      · rw [c2 _ (fun u _ _ => by omega), if_neg h4, s1v]
end CR
