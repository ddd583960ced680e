/-! both read a command alike -/
section BC
variable {T : qTx} {σ : qS}
def dff : List Nat → List Nat → Bool
  | x :: xs, y :: ys => if x = y then dff xs ys else true
  | _, _ => false
theorem tsp_lit {st : Bool × Nat} {x : Nat} (h1 : st.1 = true) (h : x ≠ 35 ∧ x ≠ 37) : tsp T st x = if lt1 T x st.2 = true then (true, st.2 + 1) else (false, st.2) := by
  unfold tsp
  rw [if_neg (by rw [h1]; decide), if_neg h.1, if_neg h.2]
theorem dff_no : ∀ (xs ys : List Nat) (p q : Nat), (∀ x ∈ xs, x ≠ 35 ∧ x ≠ 37) → (∀ x ∈ ys, x ≠ 35 ∧ x ≠ 37) → tss T (true, p) ys = (true, q) → dff xs ys = true → (tss T (true, p) xs).1 = false ∧ (tss T (true, p) xs).2 ≤ q
  | [], _, _, _, _, _, _, h => by simp [dff] at h
  | _ :: _, [], _, _, _, _, _, h => by simp [dff] at h
  | x :: xs, y :: ys, p, q, hx, hy, ht, hd => by
    have h2 : tss T (tsp T (true, p) y) ys = (true, q) := ht
    rw [tsp_lit rfl (hy y List.mem_cons_self)] at h2
    have hgo : tss T (true, p) (x :: xs) = tss T (tsp T (true, p) x) xs := rfl
    rw [hgo, tsp_lit rfl (hx x List.mem_cons_self)]
    by_cases hl : lt1 T y p = true
    · rw [if_pos hl] at h2
      by_cases hxy : x = y
      · subst hxy
        rw [if_pos hl]
        exact dff_no xs ys (p + 1) q (fun z hz => hx z (List.mem_cons_of_mem _ hz)) (fun z hz => hy z (List.mem_cons_of_mem _ hz)) h2 (by unfold dff at hd; rw [if_pos rfl] at hd; exact hd)
      · have hl1 : p < T.1 ∧ T.2 p = y := of_decide_eq_true hl
        have hl2 : ¬ lt1 T x p = true := fun hh => hxy ((of_decide_eq_true hh : p < T.1 ∧ T.2 p = x).2.symm.trans hl1.2)
        rw [if_neg hl2, tss_no]
        have := tss_le T ys (true, p + 1)
        dsimp only at h2 this
        rw [h2] at this
        dsimp only at this ⊢
        exact ⟨rfl, by omega⟩
    · rw [if_neg hl, tss_no] at h2
      cases h2
theorem nmk_dff : ∀ k k' : Fin 8, k ≠ k' → dff (nmk k') (nmk k) = true := by decide
/-- another word doesn't stand here -/
theorem nmk_other {p w k : Nat} (hw : w < 8) (hk : k < 8) (hne : k ≠ w) {q : Nat} (h : tss T (true, p) (nmk w) = (true, q)) : (tss T (true, p) (fmk k)).1 = false ∧ (tss T (true, p) (fmk k)).2 ≤ q := by
  obtain ⟨h1, h2⟩ := dff_no (nmk k) (nmk w) p q (nmk_lit ⟨k, hk⟩) (nmk_lit ⟨w, hw⟩) h (nmk_dff ⟨w, hw⟩ ⟨k, hk⟩ (fun h => hne (by injection h with h; exact h.symm)))
  have e : tss T (true, p) (nmk k) = (false, (tss T (true, p) (nmk k)).2) := Prod.ext h1 rfl
  have e2 : tss T (true, p) (fmk k) = (false, (tss T (true, p) (nmk k)).2) := by
    unfold fmk
    rw [tss_app, e, tss_no]
  rw [e2]
  exact ⟨rfl, h2⟩
theorem pks_after {p w q : Nat} (hw : w < 8) (h : tss T (true, p) (nmk w) = (true, q)) {f : Nat} (hf : q ≤ f) : ∀ (d k : Nat), d + k = 8 → w < k → pks T p d k f = ((false, f), 8)
  | 0, k, _, _ => rfl
  | d + 1, k, hd, hk => by
    obtain ⟨h1, h2⟩ := nmk_other hw (k := k) (by omega) (by omega) h
    unfold pks
    rw [if_neg (by rw [h1]; decide), Nat.max_eq_left (by omega)]
    exact pks_after hw h hf d (k + 1) (by omega) (by omega)
theorem pks_to {p w q : Nat} (hw : w < 8) (h : tss T (true, p) (nmk w) = (true, q)) : ∀ (d k f : Nat), d + k = 8 → k ≤ w → f ≤ (tss T (true, p) (fmk w)).2 → pks T p d k f = if (tss T (true, p) (fmk w)).1 = true then (tss T (true, p) (fmk w), w) else ((false, (tss T (true, p) (fmk w)).2), 8)
  | 0, k, f, hd, hk, _ => by omega
  | d + 1, k, f, hd, hk, hf => by
    have hq : q ≤ (tss T (true, p) (fmk w)).2 := by
      have := tss_le T (rsk w) (true, q)
      unfold fmk
      rw [tss_app, h]
      exact this
    by_cases hkw : k = w
    · subst hkw
      conv => lhs; unfold pks
      by_cases hb : (tss T (true, p) (fmk k)).1 = true
      · rw [if_pos hb, if_pos hb]
      · rw [if_neg hb, if_neg hb, Nat.max_eq_right hf]
        exact pks_after hw h hq d (k + 1) (by omega) (by omega)
    · obtain ⟨h1, h2⟩ := nmk_other hw (k := k) (by omega) hkw h
      conv => lhs; unfold pks
      rw [if_neg (by rw [h1]; decide)]
      exact pks_to hw h d (k + 1) _ (by omega) (by omega) (Nat.max_le.mpr ⟨hf, by omega⟩)
theorem pcm_w {p w q : Nat} (hw : w < 8) (h : tss T (true, p) (nmk w) = (true, q)) : (pcm T p).1 = tss T (true, p) (fmk w) ∧ ((pcm T p).1.1 = true → (pcm T p).2 = w) := by
  have e := pks_to hw h 8 0 p rfl (by omega) (tss_le T (fmk w) (true, p))
  unfold pcm
  rw [e]
  by_cases hb : (tss T (true, p) (fmk w)).1 = true
  · rw [if_pos hb]
    exact ⟨rfl, fun _ => rfl⟩
  · rw [if_neg hb]
    have hb0 : (tss T (true, p) (fmk w)).1 = false := by simpa using hb
    exact ⟨(Prod.ext hb0 rfl : tss T (true, p) (fmk w) = (false, _)).symm, fun h => by cases h⟩
theorem pks_no {p : Nat} : ∀ (d k f : Nat), d + k = 8 → (kns T p d k f).1 = 8 → pks T p d k f = ((false, (kns T p d k f).2), 8)
  | 0, k, f, _, _ => rfl
  | d + 1, k, f, hd, h => by
    by_cases hb : (tss T (true, p) (nmk k)).1 = true
    · unfold kns at h
      rw [if_pos hb] at h
      dsimp only at h
      omega
    · have hb0 : (tss T (true, p) (nmk k)).1 = false := by simpa using hb
      have e : tss T (true, p) (nmk k) = (false, (tss T (true, p) (nmk k)).2) := Prod.ext hb0 rfl
      have e2 : tss T (true, p) (fmk k) = (false, (tss T (true, p) (nmk k)).2) := by
        unfold fmk
        rw [tss_app, e, tss_no]
      have e3 : kns T p (d + 1) k f = kns T p d (k + 1) (max f (tss T (true, p) (nmk k)).2) := by
        conv => lhs; unfold kns
        rw [if_neg hb]
      rw [e3] at h ⊢
      conv => lhs; unfold pks
      rw [e2, if_neg (by simp)]
      exact pks_no d (k + 1) _ (by omega) h
theorem pcm_no {p : Nat} (h : (kns T p 8 0 p).1 = 8) : (pcm T p).1 = (false, (kns T p 8 0 p).2) := by
  unfold pcm
  rw [pks_no 8 0 p rfl h]
theorem tvs_app : ∀ (xs ys : List Nat) (st : Bool × Nat), (∀ x ∈ xs, x ≠ 35 ∧ x ≠ 37) → tvs T st (xs ++ ys) = tvs T (tss T st xs) ys
  | [], _, _, _ => rfl
  | x :: xs, ys, st, h => by
    obtain ⟨h1, h2⟩ := h x List.mem_cons_self
    show (if x = 35 ∨ x = 37 then _ else tvs T (tsp T st x) (xs ++ ys)) = tvs T (tss T (tsp T st x) xs) ys
    rw [if_neg (by omega)]
    exact tvs_app xs ys _ (fun z hz => h z (List.mem_cons_of_mem _ hz))
/-! the reference's steps with their numbers -/
def Nm (σ σ' : qS) (y : Nat) (v : Int32) : Prop := Qq σ σ' ∧ σ' 26 0 21 = σ 26 0 21 ∧ ∀ z, σ' 37 0 z = if z = y then v else σ 37 0 z
theorem r_dw (h : RTx T σ) {st : Bool × Nat} (hst : RSt st σ) (hp : st.2 ≤ T.1) {y : Nat} (hy : y < 150) (K : qS → Option qO) : ∃ σ', qbind (f_X8_digit σ) (qvI (fun r s => if qin (nI y) 150 then qlet (qu s 37 0 (nI y).toNatClampNeg r) K else none)) qE0 = K σ' ∧ RTx T σ' ∧ RSt (tsp T st 35) σ' ∧ (tsp T st 35).2 ≤ T.1 ∧ Nm σ σ' y (nI (tsv T st 35)) := by
  obtain ⟨σ1, e1, q1, r1⟩ := r_digit h hst hp
  refine ⟨qu σ1 37 0 y (nI (tsv T st 35)), ?_, (h.qd q1).num, r1.num, tsp_in T st 35 hp, q1.q.trans (Qq.num _ _ _), by rw [qu_at, if_neg (by simp), q1.2 21 (by decide) (by decide)], fun z => ?_⟩
  · rw [e1, qb_I, if_pos (n_in hy (by decide)), nI_clamp (by omega), qlet_eq]
  · rw [qu_at, q1.1 37 0 (by simp)]
    by_cases hz : z = y
    · rw [if_pos ⟨rfl, rfl, hz⟩, if_pos hz]
    · rw [if_neg (fun hh => hz hh.2.2), if_neg hz]
theorem r_nw (h : RTx T σ) {st : Bool × Nat} (hst : RSt st σ) (hp : st.2 ≤ T.1) {y : Nat} (hy : y < 150) (K : qS → Option qO) : ∃ σ', qbind (f_X8_number σ) (qvI (fun r s => if qin (nI y) 150 then qlet (qu s 37 0 (nI y).toNatClampNeg r) K else none)) qE0 = K σ' ∧ RTx T σ' ∧ RSt (tsp T st 37) σ' ∧ (tsp T st 37).2 ≤ T.1 ∧ Nm σ σ' y (nI (tsv T st 37)) := by
  obtain ⟨σ1, e1, q1, r1⟩ := r_number h hst hp
  refine ⟨qu σ1 37 0 y (nI (tsv T st 37)), ?_, (h.qd q1).num, r1.num, tsp_in T st 37 hp, q1.q.trans (Qq.num _ _ _), by rw [qu_at, if_neg (by simp), q1.2 21 (by decide) (by decide)], fun z => ?_⟩
  · rw [e1, qb_I, if_pos (n_in hy (by decide)), nI_clamp (by omega), qlet_eq]
  · rw [qu_at, q1.1 37 0 (by simp)]
    by_cases hz : z = y
    · rw [if_pos ⟨rfl, rfl, hz⟩, if_pos hz]
    · rw [if_neg (fun hh => hz hh.2.2), if_neg hz]
theorem r_sg (h : RTx T σ) {st : Bool × Nat} (hst : RSt st σ) (hp : st.2 ≤ T.1) {x : Nat} (hx : x < 200) (h35 : x ≠ 35) (h37 : x ≠ 37) (K : qS → Option qO) : ∃ σ', qbind (f_X8_sign (nI x) σ) (qvV K) qE0 = K σ' ∧ RTx T σ' ∧ RSt (tsp T st x) σ' ∧ (tsp T st x).2 ≤ T.1 ∧ Qq σ σ' ∧ σ' 26 0 21 = σ 26 0 21 ∧ σ' 37 0 = σ 37 0 := by
  obtain ⟨σ1, e1, q1, r1⟩ := r_sign h hst hp hx h35 h37
  exact ⟨σ1, by rw [e1, qb_V], h.qd q1, r1, tsp_in T st x hp, q1.q, q1.2 21 (by decide) (by decide), q1.1 37 0 (by simp)⟩
end BC
