/-! THE INVARIANT of a run of calls: class and reference hold the same -/
def HistOK (σ : qS) (hs : List qP) : Prop := hs.length ≤ 8 ∧ σ 9 0 1 = nI hs.length ∧ σ 26 0 5 = nI hs.length ∧ (∀ i Q, hs[i]? = some Q → PW Q ∧ RepR σ 30 (77 * i) Q) ∧ ∃ nx, nx < 8 ∧ σ 9 0 2 = nI nx ∧ ∀ i Q, hs[i]? = some Q → Rep σ (3 + (nx + 8 - hs.length + i) % 8) Q
def SaveOK (σ : qS) (sv : qP) : Prop := σ 0 0 9 = σ 26 0 4 ∧ (σ 0 0 9 = 0 ∨ (σ 0 0 9 = 1 ∧ PW sv ∧ Rep σ 2 sv ∧ RepR σ 29 0 sv))
def TextOK (σ : qS) (n : Nat) : Prop := n ≤ 60 ∧ σ 19 0 3 = nI n ∧ σ 26 0 14 = nI n ∧ ∀ i, i < n → σ 20 0 i = σ 35 0 i ∧ 32 ≤ (σ 20 0 i).toInt ∧ (σ 20 0 i).toInt ≤ 126
def ErrOK (σ : qS) : Prop := σ 0 0 10 = σ 26 0 6 ∧ σ 0 0 11 = σ 26 0 7 ∧ (¬ σ 0 0 11 = -1 → σ 0 0 12 = σ 26 0 8 ∧ 0 ≤ (σ 0 0 12).toInt ∧ (σ 0 0 12).toInt ≤ 126)
def OutOK (σ : qS) (n : Nat) : Prop := n ≤ 414 ∧ σ 23 0 1 = nI n ∧ σ 26 0 16 = nI n ∧ ∀ i, i < n → σ 24 0 i = σ 36 0 i ∧ 0 ≤ (σ 24 0 i).toInt ∧ (σ 24 0 i).toInt ≤ 126
def InvB (σ : qS) (P : qP) (hs : List qP) (sv : qP) : Prop := PW P ∧ Rep σ 0 P ∧ RepR σ 27 0 P ∧ HistOK σ hs ∧ SaveOK σ sv ∧ (∃ n, TextOK σ n) ∧ ErrOK σ ∧ ∃ n, OutOK σ n
def PlanSt (P : qP) (σ : qS) : Prop := σ 0 0 8 = 0 ∨ (σ 0 0 8 = 1 ∧ PlanOK P σ)
def Inv (σ : qS) : Prop := ∃ P hs sv, InvB σ P hs sv ∧ PlanSt P σ
/-- what a question may move -/
def Qt (σ σ' : qS) : Prop := (∀ a b, a ∉ [0, 11, 12, 13, 14, 15, 16, 17, 18, 25, 26, 28, 31, 32, 33, 34, 37, 38, 39] → σ' a b = σ a b) ∧ (∀ x, ¬ x = 8 → σ' 0 0 x = σ 0 0 x) ∧ ∀ x, ¬ x = 17 → σ' 26 0 x = σ 26 0 x
theorem Qt.refl (σ : qS) : Qt σ σ := ⟨fun _ _ _ => rfl, fun _ _ => rfl, fun _ _ => rfl⟩
theorem Qt.trans {σ σ' σ'' : qS} (h : Qt σ σ') (h2 : Qt σ' σ'') : Qt σ σ'' := ⟨fun a b ha => (h2.1 a b ha).trans (h.1 a b ha), fun x hx => (h2.2.1 x hx).trans (h.2.1 x hx), fun x hx => (h2.2.2 x hx).trans (h.2.2 x hx)⟩
theorem Qt.of {ks : List Nat} {σ σ' : qS} (h : qsm ks σ σ') (hk : ∀ k ∈ ks, k ∈ [11, 12, 13, 14, 15, 16, 17, 18, 25, 28, 31, 32, 33, 34, 37, 38, 39]) : Qt σ σ' := by
  have e : ∀ a, a ∉ [11, 12, 13, 14, 15, 16, 17, 18, 25, 28, 31, 32, 33, 34, 37, 38, 39] → ∀ b, σ' a b = σ a b := fun a ha b => h a b (fun h2 => ha (hk a h2))
  refine ⟨fun a b ha => e a (fun h2 => ha ?_) b, fun x _ => by rw [e 0 (by simp)], fun x _ => by rw [e 26 (by simp)]⟩
  simp only [List.mem_cons, List.not_mem_nil, or_false] at h2 ⊢
  omega
theorem Qt.thr (σ : qS) (v : Int32) : Qt σ (qu σ 26 0 17 v) := by
  refine ⟨fun a b ha => qu_other σ (fun h => ha (by rw [h.1]; simp)), fun x _ => by rw [qu_at, if_neg (by simp)], fun x hx => by rw [qu_at, if_neg (fun h => hx h.2.2)]⟩
theorem Qt.fits (σ : qS) (v : Int32) : Qt σ (qu σ 0 0 8 v) := by
  refine ⟨fun a b ha => qu_other σ (fun h => ha (by rw [h.1]; simp)), fun x hx => by rw [qu_at, if_neg (fun h => hx h.2.2)], fun x hx => by rw [qu_at, if_neg (by simp)]⟩
theorem Qt.k {σ σ' : qS} (h : Qt σ σ') (a b : Nat) (ha : a ∉ [0, 11, 12, 13, 14, 15, 16, 17, 18, 25, 26, 28, 31, 32, 33, 34, 37, 38, 39]) : σ' a b = σ a b := h.1 a b ha
theorem Rep.qt {σ σ' : qS} (h : Qt σ σ') {j : Nat} {P : qP} (H : Rep σ j P) : Rep σ' j P := by
  have e : ∀ a, 1 ≤ a → a ≤ 8 → ∀ b, σ' a b = σ a b := fun a h1 h2 b => h.1 a b (by simp only [List.mem_cons, List.not_mem_nil, or_false]; omega)
  refine ⟨by rw [e 1 (by omega) (by omega)]; exact H.1, fun f t hf ht => by rw [e (2 + f) (by omega) (by omega)]; exact H.2.1 f t hf ht, fun r hr => by rw [e 8 (by omega) (by omega)]; exact H.2.2.1 r hr, by rw [e 1 (by omega) (by omega)]; exact H.2.2.2⟩
theorem RepR.qt {σ σ' : qS} (h : Qt σ σ') {k o : Nat} {P : qP} (H : RepR σ k o P) (hk : k = 27 ∨ k = 29 ∨ k = 30) : RepR σ' k o P := by
  have e : σ' k 0 = σ k 0 := h.1 k 0 (by simp only [List.mem_cons, List.not_mem_nil, or_false]; omega)
  unfold RepR
  rw [e]
  exact H
theorem InvB.qt {σ σ' : qS} {P : qP} {hs : List qP} {sv : qP} (I : InvB σ P hs sv) (h : Qt σ σ') : InvB σ' P hs sv := by
  obtain ⟨h1, h2, h3, ⟨a1, a2, a3, a4, nx, a5, a6, a7⟩, ⟨b1, b2⟩, ⟨n, c1, c2, c3, c4⟩, ⟨d1, d2, d3⟩, m, e1, e2, e3, e4⟩ := I
  have k9 : σ' 9 0 = σ 9 0 := h.k 9 0 (by simp)
  have k19 : σ' 19 0 = σ 19 0 := h.k 19 0 (by simp)
  have k20 : σ' 20 0 = σ 20 0 := h.k 20 0 (by simp)
  have k23 : σ' 23 0 = σ 23 0 := h.k 23 0 (by simp)
  have k24 : σ' 24 0 = σ 24 0 := h.k 24 0 (by simp)
  have k35 : σ' 35 0 = σ 35 0 := h.k 35 0 (by simp)
  have k36 : σ' 36 0 = σ 36 0 := h.k 36 0 (by simp)
  have z : ∀ x, ¬ x = 8 → σ' 0 0 x = σ 0 0 x := h.2.1
  have y : ∀ x, ¬ x = 17 → σ' 26 0 x = σ 26 0 x := h.2.2
  refine ⟨h1, h2.qt h, h3.qt h (Or.inl rfl), ⟨a1, by rw [k9]; exact a2, by rw [y 5 (by decide)]; exact a3, fun i Q hQ => ⟨(a4 i Q hQ).1, (a4 i Q hQ).2.qt h (Or.inr (Or.inr rfl))⟩, nx, a5, by rw [k9]; exact a6, fun i Q hQ => (a7 i Q hQ).qt h⟩,
    ⟨by rw [z 9 (by decide), y 4 (by decide)]; exact b1, ?_⟩, ⟨n, c1, by rw [k19]; exact c2, by rw [y 14 (by decide)]; exact c3, fun i hi => by rw [k20, k35]; exact c4 i hi⟩, ⟨by rw [z 10 (by decide), y 6 (by decide)]; exact d1, by rw [z 11 (by decide), y 7 (by decide)]; exact d2, by rw [z 11 (by decide), z 12 (by decide), y 8 (by decide)]; exact d3⟩, m, e1, by rw [k23]; exact e2, by rw [y 16 (by decide)]; exact e3, fun i hi => by rw [k24, k36]; exact e4 i hi⟩
  rw [z 9 (by decide)]
  rcases b2 with b2 | ⟨b2, b3, b4, b5⟩
  · exact Or.inl b2
  · exact Or.inr ⟨b2, b3, b4.qt h, b5.qt h (Or.inr (Or.inl rfl))⟩
/-- what the reference's questions may move: nothing of the class -/
def Qr (σ σ' : qS) : Prop := (∀ a b, a ∉ [26, 28, 31, 32, 33, 34, 37] → σ' a b = σ a b) ∧ ∀ x, ¬ x = 17 → σ' 26 0 x = σ 26 0 x
theorem Qr.refl (σ : qS) : Qr σ σ := ⟨fun _ _ _ => rfl, fun _ _ => rfl⟩
theorem Qr.trans {σ σ' σ'' : qS} (h : Qr σ σ') (h2 : Qr σ' σ'') : Qr σ σ'' := ⟨fun a b ha => (h2.1 a b ha).trans (h.1 a b ha), fun x hx => (h2.2 x hx).trans (h.2 x hx)⟩
theorem Qr.qt {σ σ' : qS} (h : Qr σ σ') : Qt σ σ' := ⟨fun a b ha => h.1 a b (fun h2 => ha (by simp only [List.mem_cons, List.not_mem_nil, or_false] at h2 ⊢; omega)), fun x _ => by rw [h.1 0 0 (by simp)], h.2⟩
theorem Qr.thr (σ : qS) (v : Int32) : Qr σ (qu σ 26 0 17 v) := ⟨fun a b ha => qu_other σ (fun h => ha (by rw [h.1]; simp)), fun x hx => by rw [qu_at, if_neg (fun h => hx h.2.2)]⟩
theorem Qr.of {ks : List Nat} {σ σ' : qS} (h : qsm ks σ σ') (hk : ∀ k ∈ ks, k ∈ [28, 31, 32, 33, 34, 37]) : Qr σ σ' := by
  have e : ∀ a, a ∉ [28, 31, 32, 33, 34, 37] → ∀ b, σ' a b = σ a b := fun a ha b => h a b (fun h2 => ha (hk a h2))
  refine ⟨fun a b ha => e a (fun h2 => ha ?_) b, fun x _ => by rw [e 26 (by simp)]⟩
  simp only [List.mem_cons, List.not_mem_nil, or_false] at h2 ⊢
  omega
theorem PlanSt.qr {σ σ' : qS} {P : qP} (h : Qr σ σ') (I : PlanSt P σ) : PlanSt P σ' := by
  have e : ∀ a b, a ∉ [26, 28, 31, 32, 33, 34, 37] → σ' a b = σ a b := h.1
  have q : qsm [26, 28, 31, 32, 33, 34, 37] σ σ' := fun a b ha => e a b ha
  unfold PlanSt
  rw [e 0 0 (by simp)]
  rcases I with I | ⟨I1, I2⟩
  · exact Or.inl I
  · exact Or.inr ⟨I1, I2.same q (by simp)⟩
/-! the reference's conditions -/
def thrc (a b c : Bool) : Nat := if a = false then 1 else if b = false then 2 else if c = false then 3 else 0
theorem r_holds (a b c : Bool) (σ : qS) : f_X8_holds (qb1 a) (qb1 b) (qb1 c) σ = qan (qb1 (a && b && c)) (qu σ 26 0 17 (nI (thrc a b c))) := by
  have e : ∀ v : Int32, qu σ 26 0 17 v 26 0 17 = v := fun v => by rw [qu_at, if_pos ⟨rfl, rfl, rfl⟩]
  unfold f_X8_holds
  simp only [qlet_eq, e]
  cases a <;> cases b <;> cases c <;> rfl
theorem r_goes (a : Bool) (σ : qS) : f_X8_goes (qb1 a) σ = qan (qb1 a) (qu σ 26 0 17 (nI (thrc a true true))) := by
  unfold f_X8_goes
  have := r_holds a true true σ
  rw [show qb1 true = 1 from rfl] at this
  rw [this, qb_I, Bool.and_true, Bool.and_true, if_pos (qb1_bo _)]
/-! the class's -/
def isT (P : qP) (x : Int32) : Bool := decide ((0 : Int32) ≤ x ∧ x ≤ nI (pn P) - 1)
theorem isT_iff {P : qP} (W : PW P) {x : Int32} : isT P x = true ↔ ∃ t, t < pn P ∧ x = nI t := e_task (by have := W.1; omega) x
theorem isT_n {P : qP} (W : PW P) {t : Nat} (h : t < pn P) : isT P (nI t) = true := (isT_iff W).mpr ⟨t, h, rfl⟩
theorem c_faultT {σ : qS} {j : Nat} {P : qP} (H : Rep σ j P) (x : Int32) : f_X5_faultOfTask j x σ = qan (if isT P x = true then 46 else 105) σ := by
  unfold f_X5_faultOfTask isT
  rw [e_isWithin, qb_I, H.1]
  cases decide ((0 : Int32) ≤ x ∧ x ≤ nI (pn P) - 1) <;> rfl
theorem c_reqT {σ : qS} {P : qP} (H : Rep σ 0 P) (x : Int32) : f_X7_requireTask x σ = if isT P x = true then qdo σ else qth qIOE σ := by
  unfold f_X7_requireTask
  rw [c_faultT H, qb_I]
  unfold f_X7_refuse
  cases isT P x <;> rfl
theorem c_plan {σ : qS} {P : qP} {hs : List qP} {sv : qP} (I : InvB σ P hs sv) (S : PlanSt P σ) : ∃ σ', f_X7_currentPlan σ = some (.inl (some (qR 11 0)), σ') ∧ Qt σ σ' ∧ InvB σ' P hs sv ∧ σ' 0 0 8 = 1 ∧ PlanOK P σ' := by
  unfold f_X7_currentPlan
  rcases S with S | ⟨S, S2⟩
  · obtain ⟨σ1, e1, q1, p1⟩ := c_make I.1 I.2.1
    rw [if_pos S, e1, qb_V, qlet_eq]
    have q := (Qt.of q1 (by simp)).trans (Qt.fits σ1 1)
    exact ⟨_, rfl, q, I.qt q, by rw [qu_at, if_pos ⟨rfl, rfl, rfl⟩], p1.same (qsm_qu σ1 0 0 8 1) (by simp)⟩
  · rw [if_neg (by rw [S]; decide)]
    exact ⟨σ, rfl, Qt.refl σ, I, S, S2⟩
theorem lg_same (x : Int64) : lg_cmp x x = 0 := by
  unfold lg_cmp
  rw [if_neg (show ¬ x > x from Int64.lt_irrefl), if_pos rfl]
/-- a question's case: the code k, the answer v -/
def CaseL (w : qS → Option qO) (q : qS → Option qO) (σ : qS) : Prop := ∃ (k : Nat) (σ1 : qS) (b : Int32) (σ2 : qS), k < 9 ∧ w σ = qan (nI k) σ1 ∧ q σ1 = qan b σ2 ∧ σ2 26 0 17 = nI k ∧ (k = 0 → σ2 38 0 0 = b) ∧ Inv σ2
