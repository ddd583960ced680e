/-! the reference reads -/
section RP
variable {T : qTx} {σ : qS}
/-- the reference has the text, reading goes on in this state -/
def RTx (T : qTx) (σ : qS) : Prop := T.1 ≤ 60 ∧ σ 26 0 18 = nI T.1 ∧ ∀ i, i < T.1 → σ 35 0 i = nI (T.2 i) ∧ T.2 i < 127
def RSt (st : Bool × Nat) (σ : qS) : Prop := if st.1 = true then σ 26 0 20 = -1 ∧ σ 26 0 19 = nI st.2 else σ 26 0 20 = nI st.2
/-- what reading moves of the reference -/
def Qq (σ σ' : qS) : Prop := (∀ a b, ¬ (a = 26 ∧ b = 0) → ¬ (a = 37 ∧ b = 0) → σ' a b = σ a b) ∧ (∀ x, x ≠ 19 → x ≠ 20 → x ≠ 21 → σ' 26 0 x = σ 26 0 x)
/-- a step of it: the numbers stay, what is told stays -/
def Qd (σ σ' : qS) : Prop := (∀ a b, ¬ (a = 26 ∧ b = 0) → σ' a b = σ a b) ∧ (∀ x, x ≠ 19 → x ≠ 20 → σ' 26 0 x = σ 26 0 x)
theorem Qq.refl (σ : qS) : Qq σ σ := ⟨fun _ _ _ _ => rfl, fun _ _ _ _ => rfl⟩
theorem Qq.trans {σ σ' σ'' : qS} (h : Qq σ σ') (h2 : Qq σ' σ'') : Qq σ σ'' := ⟨fun a b h3 h4 => (h2.1 a b h3 h4).trans (h.1 a b h3 h4), fun x h3 h4 h5 => (h2.2 x h3 h4 h5).trans (h.2 x h3 h4 h5)⟩
theorem Qd.refl (σ : qS) : Qd σ σ := ⟨fun _ _ _ => rfl, fun _ _ _ => rfl⟩
theorem Qd.trans {σ σ' σ'' : qS} (h : Qd σ σ') (h2 : Qd σ' σ'') : Qd σ σ'' := ⟨fun a b h3 => (h2.1 a b h3).trans (h.1 a b h3), fun x h3 h4 => (h2.2 x h3 h4).trans (h.2 x h3 h4)⟩
theorem Qd.q {σ σ' : qS} (h : Qd σ σ') : Qq σ σ' := ⟨fun a b h1 _ => h.1 a b h1, fun x h1 h2 _ => h.2 x h1 h2⟩
theorem Qd.at19 (σ : qS) (v : Int32) : Qd σ (qu σ 26 0 19 v) := ⟨fun a b h => qu_other σ h, fun x h _ => by rw [qu_at, if_neg (fun hh => h hh.2.2)]⟩
theorem Qd.at20 (σ : qS) (v : Int32) : Qd σ (qu σ 26 0 20 v) := ⟨fun a b h => qu_other σ h, fun x _ h => by rw [qu_at, if_neg (fun hh => h hh.2.2)]⟩
theorem Qq.told (σ : qS) (v : Int32) : Qq σ (qu σ 26 0 21 v) := ⟨fun a b h _ => qu_other σ h, fun x _ _ h => by rw [qu_at, if_neg (fun hh => h hh.2.2)]⟩
theorem Qq.num (σ : qS) (i : Nat) (v : Int32) : Qq σ (qu σ 37 0 i v) := ⟨fun a b _ h => qu_other σ h, fun x _ _ _ => by rw [qu_at, if_neg (by simp)]⟩
theorem RTx.tr {σ' : qS} (h : RTx T σ) (h18 : σ' 26 0 18 = σ 26 0 18) (h35 : σ' 35 0 = σ 35 0) : RTx T σ' := ⟨h.1, by rw [h18]; exact h.2.1, fun i hi => by rw [h35]; exact h.2.2 i hi⟩
theorem RTx.qd {σ' : qS} (h : RTx T σ) (q : Qd σ σ') : RTx T σ' := h.tr (q.2 18 (by decide) (by decide)) (q.1 35 0 (by simp))
theorem RTx.num {i : Nat} {v : Int32} (h : RTx T σ) : RTx T (qu σ 37 0 i v) := h.tr (by rw [qu_at, if_neg (by simp)]) (qu_other _ (by simp))
theorem RSt.num {st : Bool × Nat} {i : Nat} {v : Int32} (h : RSt st σ) : RSt st (qu σ 37 0 i v) := by
  unfold RSt at *
  rw [qu_other _ (by simp)]
  exact h
theorem r_letter (h : RTx T σ) {p : Nat} (h19 : σ 26 0 19 = nI p) (hp : p < 1000) : f_X8_letterHere σ = qan (if p < T.1 then nI (T.2 p) else -1) σ := by
  have h60 := h.1
  unfold f_X8_letterHere
  rw [h.2.1, h19]
  by_cases hlt : p < T.1
  · rw [if_neg (nI_ge hlt (by omega)), if_pos (n_in (by omega) (by decide)), nI_clamp (by omega), (h.2.2 p hlt).1, if_pos hlt]
  · rw [if_pos (nI_le (by omega) (by omega)), if_neg hlt]
def rng (T : qTx) (lo hi p : Nat) : Bool := decide (p < T.1 ∧ lo ≤ T.2 p ∧ T.2 p ≤ hi)
theorem r_inRange (h : RTx T σ) {p lo hi : Nat} (hlo : lo < 200) (hhi : hi < 200) (s : qS) : f_X8_isIn (if p < T.1 then nI (T.2 p) else -1) (nI lo) (nI hi) s = qan (qb1 (rng T lo hi p)) s := by
  rw [r_isIn]
  unfold rng
  by_cases hlt : p < T.1
  · have h127 := (h.2.2 p hlt).2
    rw [if_pos hlt]
    by_cases hd : lo ≤ T.2 p ∧ T.2 p ≤ hi
    · rw [decide_eq_true (show nI lo ≤ nI (T.2 p) ∧ nI (T.2 p) ≤ nI hi from ⟨(n_le (by omega) (by omega)).mpr hd.1, (n_le (by omega) (by omega)).mpr hd.2⟩), decide_eq_true ⟨hlt, hd⟩]
    · rw [decide_eq_false (show ¬ (nI lo ≤ nI (T.2 p) ∧ nI (T.2 p) ≤ nI hi) from fun hh => hd ⟨(n_le (by omega) (by omega)).mp hh.1, (n_le (by omega) (by omega)).mp hh.2⟩), decide_eq_false (fun hh => hd hh.2)]
  · rw [if_neg hlt, decide_eq_false (show ¬ (nI lo ≤ (-1 : Int32) ∧ (-1 : Int32) ≤ nI hi) from fun hh => ?_), decide_eq_false (fun hh => hlt hh.1)]
    have h1 := hh.1
    rw [Int32.le_iff_toInt_le, nI_toInt (by omega), show (-1 : Int32).toInt = -1 from rfl] at h1
    omega
theorem r_44no {q : Nat} (hq : q < 1000) (h : σ 26 0 20 = nI q) : ∃ σ', j_X8_reads_44 σ = qan 0 σ' ∧ Qd σ σ' ∧ RSt (false, q) σ' := by
  refine ⟨qu σ 26 0 20 (nI q), ?_, Qd.at20 _ _, ?_⟩
  · unfold j_X8_reads_44
    rw [h, if_neg (n_ne _ (by omega)), qlet_eq]
  · show (qu σ 26 0 20 (nI q)) 26 0 20 = nI q
    rw [qu_at, if_pos ⟨rfl, rfl, rfl⟩]
theorem r_44 {p : Nat} (h20 : σ 26 0 20 = -1) (h19 : σ 26 0 19 = nI p) : ∃ σ', j_X8_reads_44 σ = qan 0 σ' ∧ Qd σ σ' ∧ RSt (false, p) σ' := by
  refine ⟨qu σ 26 0 20 (nI p), ?_, Qd.at20 _ _, ?_⟩
  · unfold j_X8_reads_44
    rw [if_pos h20, qlet_eq, h19]
  · show (qu σ 26 0 20 (nI p)) 26 0 20 = nI p
    rw [qu_at, if_pos ⟨rfl, rfl, rfl⟩]
/-- a sign of a range -/
theorem r_reads (h : RTx T σ) {st : Bool × Nat} (hst : RSt st σ) (hp : st.2 ≤ T.1) {lo hi : Nat} (hlo : lo < 200) (hhi : hi < 200) : ∃ σ', f_X8_reads (nI lo) (nI hi) σ = qan (nI (if st.1 = true then (if rng T lo hi st.2 = true then T.2 st.2 - lo else 0) else 0)) σ' ∧ Qd σ σ' ∧ RSt (if st.1 = true then (if rng T lo hi st.2 = true then (true, st.2 + 1) else (false, st.2)) else st) σ' := by
  have h60 := h.1
  obtain ⟨b, p⟩ := st
  cases b
  · have h20 : σ 26 0 20 = nI p := hst
    obtain ⟨σ1, e1, q1, r1⟩ := r_44no (σ := σ) (q := p) (by dsimp only at hp; omega) h20
    refine ⟨σ1, ?_, q1, r1⟩
    unfold f_X8_reads
    rw [h20, if_neg (n_ne _ (by dsimp only at hp; omega)), e1]
    rfl
  · obtain ⟨h20, h19⟩ : σ 26 0 20 = -1 ∧ σ 26 0 19 = nI p := hst
    dsimp only at hp
    have hgo : ∀ o, (if (qb1 (rng T lo hi p)) = 0 then j_X8_reads_44 σ else qlet (qu σ 26 0 19 ((σ 26 0 19) + (1 : Int32))) (fun s5 => (if qin ((s5 26 0 19) - (1 : Int32)) 60 then (some (.inl (some (qI ((s5 35 0 (((s5 26 0 19) - (1 : Int32))).toNatClampNeg) - nI lo))), s5)) else none))) = o → f_X8_reads (nI lo) (nI hi) σ = o := by
      intro o ho
      unfold f_X8_reads
      rw [if_pos h20, r_letter h h19 (by omega), qb_I, r_inRange h hlo hhi, qb_I]
      exact ho
    cases hr : rng T lo hi p
    · obtain ⟨σ1, e1, q1, r1⟩ := r_44 h20 h19
      refine ⟨σ1, hgo _ ?_, q1, ?_⟩
      · rw [hr, if_pos (by rfl), e1]; rfl
      · simpa [hr] using r1
    · have hr2 : p < T.1 ∧ lo ≤ T.2 p ∧ T.2 p ≤ hi := of_decide_eq_true hr
      refine ⟨qu σ 26 0 19 (nI (p + 1)), hgo _ ?_, Qd.at19 _ _, ?_⟩
      · have e19 : (qu σ 26 0 19 (nI (p + 1))) 26 0 19 = nI (p + 1) := by rw [qu_at, if_pos ⟨rfl, rfl, rfl⟩]
        rw [hr, if_neg (by decide), h19, nI_1, qlet_eq, e19, nI_pred, if_pos (n_in (by omega) (by decide)), nI_clamp (by omega), qu_at, if_neg (by simp), (h.2.2 p hr2.1).1, n_sub hr2.2.1]
        rfl
      · show RSt (true, p + 1) _
        exact ⟨by rw [qu_at, if_neg (by simp)]; exact h20, by rw [qu_at, if_pos ⟨rfl, rfl, rfl⟩]⟩
theorem rng_dg (T : qTx) (p : Nat) : rng T 48 57 p = dg T p := rfl
theorem rng_lt (T : qTx) (x p : Nat) : rng T x x p = lt1 T x p := by
  unfold rng lt1
  congr 1
  exact propext ⟨fun h => ⟨h.1, by omega⟩, fun h => ⟨h.1, by omega, by omega⟩⟩
theorem r_digit (h : RTx T σ) {st : Bool × Nat} (hst : RSt st σ) (hp : st.2 ≤ T.1) : ∃ σ', f_X8_digit σ = qan (nI (tsv T st 35)) σ' ∧ Qd σ σ' ∧ RSt (tsp T st 35) σ' := by
  obtain ⟨σ1, e1, q1, r1⟩ := r_reads h hst hp (lo := 48) (hi := 57) (by decide) (by decide)
  refine ⟨σ1, ?_, q1, ?_⟩
  · unfold f_X8_digit
    rw [show (48 : Int32) = nI 48 from rfl, show (57 : Int32) = nI 57 from rfl, e1, qb_I, rng_dg]
    obtain ⟨b, p⟩ := st
    cases b <;> rfl
  · rw [rng_dg] at r1
    obtain ⟨b, p⟩ := st
    cases b
    · exact r1
    · exact r1
theorem r_sign (h : RTx T σ) {st : Bool × Nat} (hst : RSt st σ) (hp : st.2 ≤ T.1) {x : Nat} (hx : x < 200) (h35 : x ≠ 35) (h37 : x ≠ 37) : ∃ σ', f_X8_sign (nI x) σ = qdo σ' ∧ Qd σ σ' ∧ RSt (tsp T st x) σ' := by
  obtain ⟨σ1, e1, q1, r1⟩ := r_reads h hst hp (lo := x) (hi := x) hx hx
  refine ⟨σ1, ?_, q1, ?_⟩
  · unfold f_X8_sign
    rw [e1, qb_I]
  · rw [rng_lt] at r1
    obtain ⟨b, p⟩ := st
    unfold tsp
    cases b
    · rw [if_pos rfl]; exact r1
    · rw [if_neg (by simp), if_neg h35, if_neg h37]; exact r1
theorem r_number (h : RTx T σ) {st : Bool × Nat} (hst : RSt st σ) (hp : st.2 ≤ T.1) : ∃ σ', f_X8_number σ = qan (nI (tsv T st 37)) σ' ∧ Qd σ σ' ∧ RSt (tsp T st 37) σ' := by
  have h60 := h.1
  obtain ⟨σ1, e1, q1, r1⟩ := r_digit h hst hp
  have H1 := h.qd q1
  obtain ⟨b, p⟩ := st
  cases b
  · have r2 : σ1 26 0 20 = nI p := r1
    refine ⟨σ1, ?_, q1, r1⟩
    unfold f_X8_number
    rw [e1, qb_I, r2, if_neg (n_ne _ (by dsimp only at hp; omega))]
    rfl
  · dsimp only at hp
    cases hd : dg T p
    · have et : tsp T (true, p) 35 = (false, p) := by simp [tsp, hd]
      have et7 : tsp T (true, p) 37 = (false, p) := by simp [tsp, hd]
      have ev : tsv T (true, p) 35 = 0 := by simp [tsv, hd]
      have ev7 : tsv T (true, p) 37 = 0 := by simp [tsv, hd]
      rw [et] at r1
      have r2 : σ1 26 0 20 = nI p := r1
      refine ⟨σ1, ?_, q1, by rw [et7]; exact r1⟩
      unfold f_X8_number
      rw [e1, qb_I, r2, if_neg (n_ne _ (by omega)), ev, ev7]
    · have et : tsp T (true, p) 35 = (true, p + 1) := by simp [tsp, hd]
      have ev : tsv T (true, p) 35 = T.2 p - 48 := by simp [tsv, hd]
      obtain ⟨hp1, k, hk, ek⟩ := dg_v hd
      rw [et] at r1
      obtain ⟨r20, r19⟩ : σ1 26 0 20 = -1 ∧ σ1 26 0 19 = nI (p + 1) := r1
      have hgo : ∀ o, (if (qb1 (rng T 48 57 (p + 1))) = 0 then qan (nI (T.2 p - 48)) σ1 else qbind (f_X8_digit σ1) (qvI (fun r4 s4 => (some (.inl (some (qI (((10 : Int32) * nI (T.2 p - 48)) + r4))), s4)))) qE0) = o → f_X8_number σ = o := by
        intro o ho
        unfold f_X8_number
        rw [e1, qb_I, if_pos r20, r_letter H1 r19 (by omega), qb_I, show (48 : Int32) = nI 48 from rfl, show (57 : Int32) = nI 57 from rfl, r_inRange H1 (by decide) (by decide), qb_I, ev]
        exact ho
      rw [rng_dg] at hgo
      cases hd2 : dg T (p + 1)
      · have et7 : tsp T (true, p) 37 = (true, p + 1) := by simp [tsp, hd, hd2]
        have ev7 : tsv T (true, p) 37 = T.2 p - 48 := by simp [tsv, hd, hd2]
        rw [et7, ev7]
        refine ⟨σ1, hgo _ ?_, q1, r20, r19⟩
        rw [hd2, if_pos (by rfl)]
      · have et7 : tsp T (true, p) 37 = (true, p + 2) := by simp [tsp, hd, hd2]
        have ev7 : tsv T (true, p) 37 = 10 * (T.2 p - 48) + (T.2 (p + 1) - 48) := by simp [tsv, hd, hd2]
        obtain ⟨σ2, e2, q2, r2⟩ := r_digit H1 (st := (true, p + 1)) ⟨r20, r19⟩ (by dsimp only; omega)
        have et2 : tsp T (true, p + 1) 35 = (true, p + 2) := by simp [tsp, hd2]
        have ev2 : tsv T (true, p + 1) 35 = T.2 (p + 1) - 48 := by simp [tsv, hd2]
        rw [et2] at r2
        rw [et7, ev7]
        refine ⟨σ2, hgo _ ?_, q1.trans q2, r2⟩
        rw [hd2, if_neg (by decide), e2, qb_I, ev2, show (10 : Int32) = nI 10 from rfl, n_mul, nI_add]
end RP
