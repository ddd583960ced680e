/-! THE INVARIANT of a run of calls -/
def HC (σ : qS) (hs : List qP) (nx : Nat) : Prop := hs.length ≤ 8 ∧ σ 9 0 1 = nI hs.length ∧ nx < 8 ∧ σ 9 0 2 = nI nx ∧ ∀ i Q, hs[i]? = some Q → Rep σ (3 + (nx + 8 - hs.length + i) % 8) Q
def HP (hs : List qP) : Prop := ∀ (i : Nat) (Q : qP), hs[i]? = some Q → PW Q
def InvB (σ : qS) (P : qP) (hs : List qP) : Prop := PW P ∧ Rep σ 0 P ∧ (∃ nx, HC σ hs nx) ∧ HP hs
def PlanSt (P : qP) (σ : qS) : Prop := σ 0 0 8 = 0 ∨ (σ 0 0 8 = 1 ∧ PlanOK P σ)
/-- what a question may move -/
def Qt (σ σ' : qS) : Prop := (∀ a b, a ∉ [0, 11, 12, 13, 14, 15, 16, 17, 18, 23, 24, 25] → σ' a b = σ a b) ∧ ∀ x, ¬ x = 8 → σ' 0 0 x = σ 0 0 x
theorem Qt.refl (σ : qS) : Qt σ σ := ⟨fun _ _ _ => rfl, fun _ _ => rfl⟩
theorem Qt.trans {σ σ' σ'' : qS} (h : Qt σ σ') (h2 : Qt σ' σ'') : Qt σ σ'' := ⟨fun a b ha => (h2.1 a b ha).trans (h.1 a b ha), fun x hx => (h2.2 x hx).trans (h.2 x hx)⟩
theorem Qt.of {ks : List Nat} {σ σ' : qS} (h : qsm ks σ σ') (hk : ∀ k ∈ ks, k ∈ [11, 12, 13, 14, 15, 16, 17, 18, 23, 24, 25]) : Qt σ σ' := by
  have e : ∀ a, a ∉ [11, 12, 13, 14, 15, 16, 17, 18, 23, 24, 25] → ∀ b, σ' a b = σ a b := fun a ha b => h a b (fun h2 => ha (hk a h2))
  refine ⟨fun a b ha => e a (fun h2 => ha ?_) b, fun x _ => by rw [e 0 (by simp)]⟩
  simp only [List.mem_cons, List.not_mem_nil, or_false] at h2 ⊢
  omega
theorem Qt.fits (σ : qS) (v : Int32) : Qt σ (qu σ 0 0 8 v) := by
  refine ⟨fun a b ha => qu_other σ (fun h => ha (by rw [h.1]; simp)), fun x hx => by rw [qu_at, if_neg (fun h => hx h.2.2)]⟩
theorem Qt.k {σ σ' : qS} (h : Qt σ σ') (a b : Nat) (ha : a ∉ [0, 11, 12, 13, 14, 15, 16, 17, 18, 23, 24, 25]) : σ' a b = σ a b := h.1 a b ha
theorem Rep.qt {σ σ' : qS} (h : Qt σ σ') {j : Nat} {P : qP} (H : Rep σ j P) : Rep σ' j P := by
  have e : ∀ a, 1 ≤ a → a ≤ 8 → ∀ b, σ' a b = σ a b := fun a h1 h2 b => h.1 a b (by simp only [List.mem_cons, List.not_mem_nil, or_false]; omega)
  refine ⟨by rw [e 1 (by omega) (by omega)]; exact H.1, fun f t hf ht => by rw [e (2 + f) (by omega) (by omega)]; exact H.2.1 f t hf ht, fun r hr => by rw [e 8 (by omega) (by omega)]; exact H.2.2.1 r hr, by rw [e 1 (by omega) (by omega)]; exact H.2.2.2⟩
theorem HC.qt {σ σ' : qS} {hs : List qP} {nx : Nat} (h : Qt σ σ') (C : HC σ hs nx) : HC σ' hs nx := by
  have k9 : σ' 9 0 = σ 9 0 := h.k 9 0 (by simp)
  exact ⟨C.1, by rw [k9]; exact C.2.1, C.2.2.1, by rw [k9]; exact C.2.2.2.1, fun i Q hQ => (C.2.2.2.2 i Q hQ).qt h⟩
theorem InvB.qt {σ σ' : qS} {P : qP} {hs : List qP} (I : InvB σ P hs) (h : Qt σ σ') : InvB σ' P hs := by
  obtain ⟨h1, h2, ⟨nx, h3⟩, h4⟩ := I
  exact ⟨h1, h2.qt h, ⟨nx, h3.qt h⟩, h4⟩
theorem c_plan {σ : qS} {P : qP} {hs : List qP} (I : InvB σ P hs) (S : PlanSt P σ) : ∃ σ', f_X7_currentPlan σ = some (.inl (some (qR 11 0)), σ') ∧ Qt σ σ' ∧ InvB σ' P hs ∧ σ' 0 0 8 = 1 ∧ PlanOK P σ' := by
  unfold f_X7_currentPlan
  rcases S with S | ⟨S, S2⟩
  · obtain ⟨σ1, e1, q1, p1⟩ := c_make I.1 I.2.1
    rw [if_pos S, e1, qb_V, qlet_eq]
    have q := (Qt.of q1 (by simp)).trans (Qt.fits σ1 1)
    exact ⟨_, rfl, q, I.qt q, by rw [qu_at, if_pos ⟨rfl, rfl, rfl⟩], p1.same (qsm_qu σ1 0 0 8 1) (by simp)⟩
  · rw [if_neg (by rw [S]; decide)]
    exact ⟨σ, rfl, Qt.refl σ, I, S, S2⟩

def isT (P : qP) (x : Int32) : Bool := decide ((0 : Int32) ≤ x ∧ x ≤ nI (pn P) - 1)
theorem isT_iff {P : qP} (W : PW P) {x : Int32} : isT P x = true ↔ ∃ t, t < pn P ∧ x = nI t := e_task (by have := W.1; omega) x
theorem isT_n {P : qP} (W : PW P) {t : Nat} (h : t < pn P) : isT P (nI t) = true := (isT_iff W).mpr ⟨t, h, rfl⟩
theorem c_faultT {σ : qS} {j : Nat} {P : qP} (H : Rep σ j P) (x : Int32) : f_X5_faultOfTask j x σ = qan (if isT P x = true then 46 else 105) σ := by
  unfold f_X5_faultOfTask isT
  rw [e_isWithin, qb_I, H.1]
  cases decide ((0 : Int32) ≤ x ∧ x ≤ nI (pn P) - 1) <;> rfl
theorem c_reqT {σ : qS} {P : qP} (H : Rep σ 0 P) (x : Int32) : f_X7_requireTask x σ = if isT P x = true then qdo σ else qth qIOE σ := by
  unfold f_X7_requireTask
  rw [c_faultT H, qb_I]
  unfold f_X7_refuse
  cases isT P x <;> rfl
theorem lg_same (x : Int64) : lg_cmp x x = 0 := by
  unfold lg_cmp
  rw [if_neg (show ¬ x > x from Int64.lt_irrefl), if_pos rfl]
theorem qt_tr {P : qP} {hs : List qP} {σ σ1 : qS} {e : Option qO} {v : Int32} (Q : Qt σ σ1) (h : ∃ σ', e = qan v σ' ∧ Qt σ1 σ' ∧ InvB σ' P hs ∧ PlanSt P σ') : ∃ σ', e = qan v σ' ∧ Qt σ σ' ∧ InvB σ' P hs ∧ PlanSt P σ' := by
  obtain ⟨σ', h1, h2, h3⟩ := h
  exact ⟨σ', h1, Q.trans h2, h3⟩
