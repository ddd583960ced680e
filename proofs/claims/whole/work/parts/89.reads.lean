/-! the reference reads a command, reads all -/
section RA
variable {T : qTx} {σ : qS}
/-- what a command's reading leaves, from the state behind its word -/
def RWs (T : qTx) (c : Nat) (st : Bool × Nat) (xs : List Nat) (σ σ' : qS) : Prop := RTx T σ' ∧ Qq σ σ' ∧ RSt (tss T st xs) σ' ∧ σ' 26 0 21 = σ 26 0 21 ∧ (∀ y, y ≤ 5 * c → σ' 37 0 y = σ 37 0 y) ∧ ∀ (n v : Nat), (tvs T st xs)[n]? = some v → σ' 37 0 (5 * c + 1 + n) = nI v
theorem i5 (c : Nat) : (5 : Int32) * nI c = nI (5 * c) := by rw [show (5 : Int32) = nI 5 from rfl, n_mul]
theorem r_task_loop {c : Nat} (hc : c < 20) : ∀ (d k m : Nat) (st : Bool × Nat) (σ : qS), d + k = 4 → d < m → RTx T σ → RSt st σ → st.2 ≤ T.1 → ∃ σ', l_X8_readsTask_2 m (nI (5 * c)) (nI k) σ = qdo σ' ∧ RTx T σ' ∧ Qq σ σ' ∧ RSt (tss T st ((List.replicate d [35, 32]).flatten ++ [37])) σ' ∧ σ' 26 0 21 = σ 26 0 21 ∧ (∀ y, y < 5 * c + k → σ' 37 0 y = σ 37 0 y) ∧ ∀ (n v : Nat), (tvs T st ((List.replicate d [35, 32]).flatten ++ [37]))[n]? = some v → σ' 37 0 (5 * c + k + n) = nI v
  | 0, k, m, st, σ, hd, hm, h, hst, hp => by
    obtain ⟨m, rfl⟩ : ∃ m', m = m' + 1 := ⟨m - 1, by omega⟩
    obtain rfl : k = 4 := by omega
    obtain ⟨σ1, e1, H1, r1, i1, q1, t1, n1⟩ := r_nw h hst hp (y := 5 * c + 4) (by omega) (fun s => qdo s)
    refine ⟨σ1, ?_, H1, q1, r1, t1, fun y hy => by rw [n1, if_neg (by omega)], fun n v hv => ?_⟩
    · show b_X8_readsTask_2 _ (nI (5 * c)) (nI 4) σ = _
      unfold b_X8_readsTask_2
      rw [if_pos (by decide), show nI (5 * c) + (4 : Int32) = nI (5 * c + 4) from nI_add _ 4]
      exact e1
    · have hv2 : [tsv T st 37][n]? = some v := hv
      rcases n with _ | n
      · simp only [List.getElem?_cons_zero, Option.some.injEq] at hv2
        rw [n1, if_pos rfl, hv2]
      · simp at hv2
  | d + 1, k, m, st, σ, hd, hm, h, hst, hp => by
    obtain ⟨m, rfl⟩ : ∃ m', m = m' + 1 := ⟨m - 1, by omega⟩
    obtain ⟨σ1, e1, H1, r1, i1, q1, t1, n1⟩ := r_dw h hst hp (y := 5 * c + k) (by omega) (fun s4 => qbind (f_X8_sign (32 : Int32) s4) (qvV (fun s5 => l_X8_readsTask_2 m (nI (5 * c)) (nI k + (1 : Int32)) s5)) qE0)
    obtain ⟨σ2, e2, H2, r2, i2, q2, t2, n2⟩ := r_sg H1 r1 i1 (x := 32) (by decide) (by decide) (by decide) (fun s5 => l_X8_readsTask_2 m (nI (5 * c)) (nI k + (1 : Int32)) s5)
    obtain ⟨σ3, e3, H3, q3, r3, t3, n3, v3⟩ := r_task_loop hc d (k + 1) m (tsp T (tsp T st 35) 32) σ2 (by omega) (by omega) H2 r2 i2
    refine ⟨σ3, ?_, H3, (q1.trans q2).trans q3, r3, by rw [t3, t2, t1], fun y hy => by rw [n3 y (by omega), n2, n1, if_neg (by omega)], fun n v hv => ?_⟩
    · show b_X8_readsTask_2 (l_X8_readsTask_2 m) (nI (5 * c)) (nI k) σ = _
      unfold b_X8_readsTask_2
      rw [if_neg (by rw [show (4 : Int32) = nI 4 from rfl, n_le (by omega) (by omega)]; omega), nI_add]
      refine e1.trans (Eq.trans e2 ?_)
      rw [nI_1]
      exact e3
    · have hv2 : (tsv T st 35 :: tvs T (tsp T (tsp T st 35) 32) ((List.replicate d [35, 32]).flatten ++ [37]))[n]? = some v := hv
      rcases n with _ | n
      · simp only [List.getElem?_cons_zero, Option.some.injEq] at hv2
        rw [n3 _ (by omega), n2, n1, if_pos (by omega), hv2]
      · simp only [List.getElem?_cons_succ] at hv2
        rw [show 5 * c + k + (n + 1) = 5 * c + (k + 1) + n by omega]
        exact v3 n v hv2
/-- the second number of a command of two -/
theorem r_two {c w z f2 : Nat} (hc : c < 20) (hz : z < 200) (hz35 : z ≠ 35) (hz37 : z ≠ 37) (hw : w < 8) (hf : w = 5 ∧ f2 = 35 ∨ w ≠ 5 ∧ f2 = 37) {st : Bool × Nat} {σ : qS} (h : RTx T σ) (hst : RSt st σ) (hp : st.2 ≤ T.1) : ∃ σ', j_X8_readsCommand_96 (nI (5 * c)) (nI w) (nI z) σ = qdo σ' ∧ RTx T σ' ∧ Qq σ σ' ∧ RSt (tss T st [z, f2]) σ' ∧ σ' 26 0 21 = σ 26 0 21 ∧ ∀ y, σ' 37 0 y = if y = 5 * c + 2 then nI (tsv T (tsp T st z) f2) else σ 37 0 y := by
  obtain ⟨σ1, e1, H1, r1, i1, q1, t1, n1⟩ := r_sg h hst hp hz hz35 hz37 (fun s7 => (if nI w = (5 : Int32) then qbind (f_X8_digit s7) (qvI (fun r3 s8 => (if qin (nI (5 * c) + (2 : Int32)) 150 then qlet (qu s8 37 0 ((nI (5 * c) + (2 : Int32))).toNatClampNeg r3) (fun s9 => (some (.inl none, s9))) else none))) qE0 else qbind (f_X8_number s7) (qvI (fun r4 s10 => (if qin (nI (5 * c) + (2 : Int32)) 150 then qlet (qu s10 37 0 ((nI (5 * c) + (2 : Int32))).toNatClampNeg r4) (fun s11 => (some (.inl none, s11))) else none))) qE0))
  have e2 : nI (5 * c) + (2 : Int32) = nI (5 * c + 2) := nI_add _ 2
  rw [e2] at e1
  rcases hf with ⟨rfl, rfl⟩ | ⟨hw5, rfl⟩
  · obtain ⟨σ2, e3, H2, r2, i2, q2, t2, n2⟩ := r_dw H1 r1 i1 (y := 5 * c + 2) (by omega) (fun s9 => qdo s9)
    refine ⟨σ2, ?_, H2, q1.trans q2, r2, by rw [t2, t1], fun y => by rw [n2, n1]⟩
    unfold j_X8_readsCommand_96
    rw [e2]
    refine e1.trans ?_
    rw [if_pos (by decide)]
    exact e3
  · obtain ⟨σ2, e3, H2, r2, i2, q2, t2, n2⟩ := r_nw H1 r1 i1 (y := 5 * c + 2) (by omega) (fun s9 => qdo s9)
    refine ⟨σ2, ?_, H2, q1.trans q2, r2, by rw [t2, t1], fun y => by rw [n2, n1]⟩
    unfold j_X8_readsCommand_96
    rw [e2]
    refine e1.trans ?_
    rw [if_neg (by rw [show (5 : Int32) = nI 5 from rfl, n_eq (by omega) (by omega)]; exact hw5)]
    exact e3
/-- behind the first number -/
theorem r_77 {c w v : Nat} (hc : c < 20) (hw : w < 8) (s : qS) : j_X8_readsCommand_77 (nI (5 * c)) (nI w) (nI (5 * c) + (1 : Int32)) (nI v) s = (if w ≤ 1 then qdo (qu s 37 0 (5 * c + 1) (nI v)) else j_X8_readsCommand_96 (nI (5 * c)) (nI w) (nI (if 4 ≤ w then 32 else 62)) (qu s 37 0 (5 * c + 1) (nI v))) := by
  unfold j_X8_readsCommand_77
  rw [show nI (5 * c) + (1 : Int32) = nI (5 * c + 1) from nI_add _ 1, if_pos (n_in (by omega) (by decide)), nI_clamp (by omega), qlet_eq]
  have c1 : nI w ≤ (1 : Int32) ↔ w ≤ 1 := n_le (b := 1) (by omega) (by omega)
  have c4 : (4 : Int32) ≤ nI w ↔ 4 ≤ w := n_le (a := 4) (by omega) (by omega)
  by_cases h1 : w ≤ 1
  · rw [if_pos h1, if_pos (c1.mpr h1)]
  · rw [if_neg h1, if_neg (fun h => h1 (c1.mp h))]
    by_cases h4 : 4 ≤ w
    · rw [if_pos (c4.mpr h4), if_pos h4]; rfl
    · rw [if_neg (fun h => h4 (c4.mp h)), if_neg h4]; rfl
theorem r_first {c f1 : Nat} (hc : c < 20) {st : Bool × Nat} {σ : qS} (h : RTx T σ) (hst : RSt st σ) (hp : st.2 ≤ T.1) (hf : f1 = 35 ∨ f1 = 37) {K : qS → Option qO} {K1 : Int32 → qS → Option qO} (hK : ∀ (v : Nat) (s : qS), K1 (nI v) s = K (qu s 37 0 (5 * c + 1) (nI v))) : ∃ σ', (if f1 = 35 then qbind (f_X8_digit σ) (qvI K1) qE0 else qbind (f_X8_number σ) (qvI K1) qE0) = K σ' ∧ RTx T σ' ∧ RSt (tsp T st f1) σ' ∧ (tsp T st f1).2 ≤ T.1 ∧ Nm σ σ' (5 * c + 1) (nI (tsv T st f1)) := by
  have fin : ∀ (σ1 : qS) (v : Nat), Qd σ σ1 → RSt (tsp T st f1) σ1 → v = tsv T st f1 → RTx T (qu σ1 37 0 (5 * c + 1) (nI v)) ∧ RSt (tsp T st f1) (qu σ1 37 0 (5 * c + 1) (nI v)) ∧ (tsp T st f1).2 ≤ T.1 ∧ Nm σ (qu σ1 37 0 (5 * c + 1) (nI v)) (5 * c + 1) (nI (tsv T st f1)) := by
    intro σ1 v q1 r1 hv
    refine ⟨(h.qd q1).num, r1.num, tsp_in T st f1 hp, q1.q.trans (Qq.num _ _ _), by rw [qu_at, if_neg (by simp), q1.2 21 (by decide) (by decide)], fun z => ?_⟩
    rw [qu_at, q1.1 37 0 (by simp), hv]
    by_cases hz : z = 5 * c + 1
    · rw [if_pos ⟨rfl, rfl, hz⟩, if_pos hz]
    · rw [if_neg (fun hh => hz hh.2.2), if_neg hz]
  rcases hf with rfl | rfl
  · obtain ⟨σ1, e1, q1, r1⟩ := r_digit h hst hp
    exact ⟨_, by rw [if_pos rfl, e1, qb_I, hK], fin σ1 _ q1 r1 rfl⟩
  · obtain ⟨σ1, e1, q1, r1⟩ := r_number h hst hp
    exact ⟨_, by rw [if_neg (by decide), e1, qb_I, hK], fin σ1 _ q1 r1 rfl⟩
/-- the rest of a command behind its word -/
def rcRest (c : Nat) (r1 : Int32) (s3 : qS) : Option qO := (if r1 = (7 : Int32) then (some (.inl none, s3)) else
  (if r1 = 0 then qbind (f_X8_readsTask (nI (5 * c)) s3) (qvV (fun s4 =>
  (some (.inl none, s4)))) qE0 else
  (if r1 = (4 : Int32) then qbind (f_X8_digit  s3) (qvI (fun r2 s5 =>
  j_X8_readsCommand_77 (nI (5 * c)) r1 (nI (5 * c) + (1 : Int32)) r2 s5)) qE0 else
  qbind (f_X8_number  s3) (qvI (fun r5 s12 =>
  j_X8_readsCommand_77 (nI (5 * c)) r1 (nI (5 * c) + (1 : Int32)) r5 s12)) qE0)))
theorem r_rest {c w : Nat} (hc : c < 20) (hw : w < 8) {st : Bool × Nat} {σ : qS} (h : RTx T σ) (hst : RSt st σ) (hp : st.2 ≤ T.1) : ∃ σ', rcRest c (nI w) σ = qdo σ' ∧ RWs T c st (rsk w) σ σ' := by
  by_cases h7 : w = 7
  · subst h7
    exact ⟨σ, rfl, h, Qq.refl σ, hst, rfl, fun _ _ => rfl, fun n v hv => by simp [tvs, rsk] at hv⟩
  by_cases h0 : w = 0
  · subst h0
    obtain ⟨σ1, e1, H1, q1, r1, t1, n1, v1⟩ := r_task_loop (T := T) hc 3 1 qFU st σ rfl (by decide) h hst hp
    refine ⟨σ1, ?_, H1, q1, r1, t1, fun y hy => n1 y (by omega), v1⟩
    unfold rcRest
    rw [if_neg (by decide), if_pos (by rfl)]
    unfold f_X8_readsTask
    rw [show (1 : Int32) = nI 1 from rfl, e1, qb_V]
  · have i7 : ¬ nI w = (7 : Int32) := by rw [show (7 : Int32) = nI 7 from rfl, n_eq (by omega) (by omega)]; exact h7
    have i0 : ¬ nI w = (0 : Int32) := by rw [show (0 : Int32) = nI 0 from rfl, n_eq (by omega) (by omega)]; exact h0
    obtain ⟨f1, hf1⟩ : ∃ f1 : Nat, f1 = if w = 4 then 35 else 37 := ⟨_, rfl⟩
    have hff : f1 = 35 ∨ f1 = 37 := by rw [hf1]; split <;> simp
    obtain ⟨σ1, e1, H1, r1, p1, q1, t1, n1⟩ := r_first hc h hst hp hff (K1 := fun r2 s5 => j_X8_readsCommand_77 (nI (5 * c)) (nI w) (nI (5 * c) + (1 : Int32)) r2 s5) (K := fun s => if w ≤ 1 then qdo s else j_X8_readsCommand_96 (nI (5 * c)) (nI w) (nI (if 4 ≤ w then 32 else 62)) s) (fun v s => r_77 hc hw s)
    have hgo : rcRest c (nI w) σ = (if w ≤ 1 then qdo σ1 else j_X8_readsCommand_96 (nI (5 * c)) (nI w) (nI (if 4 ≤ w then 32 else 62)) σ1) := by
      rw [← e1]
      unfold rcRest
      rw [if_neg i7, if_neg i0]
      by_cases h4 : w = 4
      · rw [if_pos (by rw [h4]; rfl), if_pos (by rw [hf1, if_pos h4])]
      · rw [if_neg (by rw [show (4 : Int32) = nI 4 from rfl, n_eq (by omega) (by omega)]; exact h4), if_neg (by rw [hf1, if_neg h4]; decide)]
    by_cases h1 : w = 1
    · subst h1
      have hf : f1 = 37 := hf1
      subst hf
      refine ⟨σ1, by rw [hgo, if_pos (by decide)], H1, q1, r1, t1, fun y hy => by rw [n1, if_neg (by omega)], fun n v hv => ?_⟩
      have hv2 : [tsv T st 37][n]? = some v := hv
      rcases n with _ | n
      · simp only [List.getElem?_cons_zero, Option.some.injEq] at hv2
        rw [n1, if_pos (by omega), hv2]
      · simp at hv2
    · obtain ⟨z, hz⟩ : ∃ z : Nat, z = if 4 ≤ w then 32 else 62 := ⟨_, rfl⟩
      obtain ⟨f2, hf2⟩ : ∃ f2 : Nat, f2 = if w = 5 then 35 else 37 := ⟨_, rfl⟩
      have hz2 : z = 32 ∨ z = 62 := by rw [hz]; split <;> simp
      have hff2 : w = 5 ∧ f2 = 35 ∨ w ≠ 5 ∧ f2 = 37 := by
        rw [hf2]
        split
        · exact Or.inl ⟨by assumption, rfl⟩
        · exact Or.inr ⟨by assumption, rfl⟩
      obtain ⟨σ2, e2, H2, q2, r2, t2, n2⟩ := r_two (T := T) (z := z) (f2 := f2) hc (by omega) (by omega) (by omega) hw hff2 H1 r1 p1
      have hrs : rsk w = [f1, z, f2] := by
        rw [hf1, hz, hf2]
        rcases (show w = 2 ∨ w = 3 ∨ w = 4 ∨ w = 5 ∨ w = 6 by omega) with rfl | rfl | rfl | rfl | rfl <;> rfl
      refine ⟨σ2, by rw [hgo, if_neg (by omega), ← hz]; exact e2, ?_⟩
      rw [hrs]
      refine ⟨H2, q1.trans q2, r2, by rw [t2, t1], fun y hy => by rw [n2, if_neg (by omega), n1, if_neg (by omega)], fun n v hv => ?_⟩
      have hv2 : [tsv T st f1, tsv T (tsp T (tsp T st f1) z) f2][n]? = some v := by
        have e : tvs T st [f1, z, f2] = [tsv T st f1, tsv T (tsp T (tsp T st f1) z) f2] := by
          simp only [tvs]
          rw [if_pos (by omega), if_neg (by omega), if_pos (by omega)]
        rw [e] at hv
        exact hv
      rcases n with _ | n
      · simp only [List.getElem?_cons_zero, Option.some.injEq] at hv2
        rw [n2, if_neg (by omega), n1, if_pos (by omega), hv2]
      · rcases n with _ | n
        · simp only [List.getElem?_cons_succ, List.getElem?_cons_zero, Option.some.injEq] at hv2
          rw [n2, if_pos (by omega), hv2]
        · simp at hv2
def RWc (T : qTx) (c p : Nat) (σ σ' : qS) : Prop := RTx T σ' ∧ Qq σ σ' ∧ RSt (pcm T p).1 σ' ∧ σ' 26 0 21 = nI (c + 1) ∧ (∀ y, y < 5 * c → σ' 37 0 y = σ 37 0 y) ∧ ((pcm T p).1.1 = true → (pcm T p).2 < 8 ∧ σ' 37 0 (5 * c) = nI (pcm T p).2 ∧ ∀ (n v : Nat), (tvs T (true, p) (fmk (pcm T p).2))[n]? = some v → σ' 37 0 (5 * c + 1 + n) = nI v)
theorem r_readsCommand {c p : Nat} (hc : c < 20) {σ : qS} (h : RTx T σ) (h19 : σ 26 0 19 = nI p) (h20 : σ 26 0 20 = -1) (h21 : σ 26 0 21 = nI c) (hp : p ≤ T.1) : ∃ σ', f_X8_readsCommand σ = qdo σ' ∧ RWc T c p σ σ' := by
  have h60 := h.1
  have hgo : ∀ (r1 : Int32) (σ1 : qS), f_X8_kindHere σ = qan r1 σ1 → σ1 26 0 21 = nI c → f_X8_readsCommand σ = (if (qu (qu σ1 37 0 (5 * c) r1) 26 0 21 (nI (c + 1))) 26 0 20 = (-1 : Int32) then rcRest c r1 (qu (qu σ1 37 0 (5 * c) r1) 26 0 21 (nI (c + 1))) else qdo (qu (qu σ1 37 0 (5 * c) r1) 26 0 21 (nI (c + 1)))) := by
    intro r1 σ1 e1 e21
    unfold f_X8_readsCommand
    rw [e1, qb_I, h21, i5, if_pos (n_in (by omega) (by decide)), nI_clamp (by omega), qlet_eq, show (qu σ1 37 0 (5 * c) r1) 26 0 21 = nI c by rw [qu_at, if_neg (by simp)]; exact e21, nI_1, qlet_eq]
    rfl
  have hset : ∀ (r1 : Int32) (σ1 : qS) (st : Bool × Nat), Qd σ σ1 → RSt st σ1 → RTx T (qu (qu σ1 37 0 (5 * c) r1) 26 0 21 (nI (c + 1))) ∧ Qq σ (qu (qu σ1 37 0 (5 * c) r1) 26 0 21 (nI (c + 1))) ∧ RSt st (qu (qu σ1 37 0 (5 * c) r1) 26 0 21 (nI (c + 1))) ∧ (qu (qu σ1 37 0 (5 * c) r1) 26 0 21 (nI (c + 1))) 26 0 21 = nI (c + 1) ∧ (∀ y, y < 5 * c → (qu (qu σ1 37 0 (5 * c) r1) 26 0 21 (nI (c + 1))) 37 0 y = σ 37 0 y) ∧ (qu (qu σ1 37 0 (5 * c) r1) 26 0 21 (nI (c + 1))) 37 0 (5 * c) = r1 := by
    intro r1 σ1 st q1 r
    refine ⟨(h.qd q1).num.tr (by rw [qu_at, if_neg (by simp)]) (qu_other _ (by simp)), (q1.q.trans (Qq.num _ _ _)).trans (Qq.told _ _), ?_, by rw [qu_at, if_pos ⟨rfl, rfl, rfl⟩], fun y hy => by rw [qu_at, if_neg (by simp), qu_at, if_neg (by omega), q1.1 37 0 (by simp)], by rw [qu_at, if_neg (by simp), qu_at, if_pos ⟨rfl, rfl, rfl⟩]⟩
    have r2 : RSt st (qu σ1 37 0 (5 * c) r1) := r.num
    unfold RSt at *
    rw [show (qu (qu σ1 37 0 (5 * c) r1) 26 0 21 (nI (c + 1))) 26 0 20 = (qu σ1 37 0 (5 * c) r1) 26 0 20 by rw [qu_at, if_neg (by simp)], show (qu (qu σ1 37 0 (5 * c) r1) 26 0 21 (nI (c + 1))) 26 0 19 = (qu σ1 37 0 (5 * c) r1) 26 0 19 by rw [qu_at, if_neg (by simp)]]
    exact r2
  rcases r_kind h h19 h20 hp with ⟨a1, a2, σ1, e1, q1, r1⟩ | ⟨a1, a2, σ1, e1, q1, r1⟩
  · obtain ⟨g1, g2, g3, g4, g5, g6⟩ := hset (-1) σ1 _ q1 r1
    have hpc := pcm_no a1
    refine ⟨_, ?_, g1, g2, by rw [hpc]; exact g3, g4, g5, fun hh => by rw [hpc] at hh; cases hh⟩
    rw [hgo _ _ e1 (by rw [q1.2 21 (by decide) (by decide), h21])]
    have g20 : (qu (qu σ1 37 0 (5 * c) (-1)) 26 0 21 (nI (c + 1))) 26 0 20 = nI (kns T p 8 0 p).2 := g3
    rw [g20, if_neg (n_ne _ (by omega))]
  · obtain ⟨g1, g2, g3, g4, g5, g6⟩ := hset (nI (kns T p 8 0 p).1) σ1 _ q1 r1
    obtain ⟨hp1, hp2⟩ := pcm_w a1 a2
    have hin : p + (nmk (kns T p 8 0 p).1).length ≤ T.1 := by
      have := tss_in T (nmk (kns T p 8 0 p).1) (true, p) hp
      rw [a2] at this
      exact this
    obtain ⟨σ2, e2, H2, Q2, r2, t2, n2, v2⟩ := r_rest (T := T) (c := c) hc a1 g1 g3 hin
    refine ⟨σ2, ?_, H2, g2.trans Q2, ?_, by rw [t2, g4], fun y hy => by rw [n2 y (by omega), g5 y hy], fun hh => ?_⟩
    · rw [hgo _ _ e1 (by rw [q1.2 21 (by decide) (by decide), h21]), if_pos g3.1, e2]
    · rw [hp1]
      unfold fmk
      rw [tss_app, a2]
      exact r2
    · rw [hp2 hh]
      refine ⟨a1, by rw [n2 _ (by omega), g6], fun n v hv => v2 n v ?_⟩
      unfold fmk at hv
      rw [tvs_app _ _ _ (nmk_lit ⟨_, a1⟩), a2] at hv
      exact hv
/-- all commands -/
def CLr (L : List (Nat × List Nat)) (cc : Nat) (σ' : qS) : Prop := ∀ (i k : Nat) (vs : List Nat), L[i]? = some (k, vs) → k < 8 ∧ σ' 37 0 (5 * (cc + i)) = nI k ∧ ∀ (n v : Nat), vs[n]? = some v → n < 4 → σ' 37 0 (5 * (cc + i) + 1 + n) = nI v
/-- the loop, entered behind a command -/
theorem r_all_loop : ∀ (d c p m : Nat) (σ : qS), T.1 < d + p → 5 * c ≤ p → p ≤ T.1 → d + 1 < m → RTx T σ → σ 26 0 21 = nI c → σ 26 0 19 = nI p → σ 26 0 20 = -1 → ∃ σ', qbind (f_X8_readsCommand σ) (qvV (fun s8 => l_X8_readsAll_32 m s8)) qE0 = qdo σ' ∧ RTx T σ' ∧ Qq σ σ' ∧ RSt (pal T d p).1 σ' ∧ (pal T d p).1.2 ≤ T.1 ∧ ((pal T d p).1.1 = true → σ' 26 0 21 = nI (c + (pal T d p).2.length) ∧ (∀ y, y < 5 * c → σ' 37 0 y = σ 37 0 y) ∧ CLr (pal T d p).2 c σ')
  | 0, c, p, m, σ, hd, hc, hp, hm, h, h21, h19, h20 => by omega
  | d + 1, c, p, m, σ, hd, hc, hp, hm, h, h21, h19, h20 => by
    have h60 := h.1
    obtain ⟨m, rfl⟩ : ∃ m', m = m' + 1 := ⟨m - 1, by omega⟩
    obtain ⟨σ1, e1, H1, Q1, r1, t1, n1, s1⟩ := r_readsCommand (T := T) (p := p) (c := c) (by omega) h h19 h20 h21 hp
    have hin : (pcm T p).1.2 ≤ T.1 := by
      rcases r_kind h h19 h20 hp with ⟨a1, a2, -⟩ | ⟨a1, a2, -⟩
      · rw [pcm_no a1]; exact a2
      · rw [(pcm_w a1 a2).1]
        exact tss_in T _ (true, p) hp
    have hadv : (pcm T p).1.1 = true → p + 4 ≤ (pcm T p).1.2 := fun hh => by
      rcases r_kind h h19 h20 hp with ⟨a1, a2, -⟩ | ⟨a1, a2, -⟩
      · rw [pcm_no a1] at hh; cases hh
      · rw [(pcm_w a1 a2).1] at hh ⊢
        have := tss_adv T (fmk (kns T p 8 0 p).1) p (tss T (true, p) (fmk (kns T p 8 0 p).1)).2 (Prod.ext hh rfl)
        have h4 := fmk_len4 ⟨_, a1⟩
        dsimp only at h4
        omega
    by_cases hb : (pcm T p).1.1 = true
    · have r2 : σ1 26 0 20 = -1 ∧ σ1 26 0 19 = nI (pcm T p).1.2 := by
        unfold RSt at r1
        rw [if_pos hb] at r1
        exact r1
      obtain ⟨r20, r19⟩ := r2
      have hst : RSt (true, (pcm T p).1.2) σ1 := ⟨r20, r19⟩
      obtain ⟨k8, kd, kv⟩ := s1 hb
      have hav := hadv hb
      by_cases hlt : (pcm T p).1.2 < T.1
      · obtain ⟨σ2, e2, q2, r3⟩ := r_sign H1 hst hin (x := 59) (by decide) (by decide) (by decide)
        rw [tsp_lit rfl (by decide)] at r3
        by_cases h59 : T.2 (pcm T p).1.2 = 59
        · have hpal : pal T (d + 1) p = ((pal T d ((pcm T p).1.2 + 1)).1, ((pcm T p).2, tvs T (true, p) (fmk (pcm T p).2)) :: (pal T d ((pcm T p).1.2 + 1)).2) := by
            conv => lhs; unfold pal
            rw [if_pos hb, if_pos hlt, if_pos h59]
          rw [if_pos (show lt1 T 59 (pcm T p).1.2 = true from decide_eq_true ⟨hlt, h59⟩)] at r3
          obtain ⟨s20, s19⟩ : σ2 26 0 20 = -1 ∧ σ2 26 0 19 = nI ((pcm T p).1.2 + 1) := r3
          obtain ⟨σ3, e3, H3, Q3, r4, i4, s4⟩ := r_all_loop d (c + 1) ((pcm T p).1.2 + 1) m σ2 (by omega) (by omega) (by omega) (by omega) (H1.qd q2) (by rw [q2.2 21 (by decide) (by decide), t1]) s19 s20
          rw [hpal]
          refine ⟨σ3, ?_, H3, (Q1.trans q2.q).trans Q3, r4, i4, fun hh => ?_⟩
          · rw [e1, qb_V]
            show b_X8_readsAll_32 (l_X8_readsAll_32 m) σ1 = _
            unfold b_X8_readsAll_32
            rw [if_pos r20, H1.2.1, r19, if_neg (nI_ge hlt (by omega)), show (59 : Int32) = nI 59 from rfl, e2, qb_V, if_pos s20]
            exact e3
          · obtain ⟨f1, f2, f3⟩ := s4 hh
            simp only [List.length_cons]
            refine ⟨by rw [f1]; congr 1; omega, fun y hy => by rw [f2 y (by omega), q2.1 37 0 (by simp), n1 y hy], fun i k vs hi => ?_⟩
            rcases i with _ | i
            · simp only [List.getElem?_cons_zero, Option.some.injEq, Prod.mk.injEq] at hi
              obtain ⟨rfl, rfl⟩ := hi
              refine ⟨k8, by rw [Nat.add_zero, f2 _ (by omega), q2.1 37 0 (by simp), kd], fun n v hv hn => ?_⟩
              rw [Nat.add_zero, f2 _ (by omega), q2.1 37 0 (by simp)]
              exact kv n v hv
            · simp only [List.getElem?_cons_succ] at hi
              have := f3 i k vs hi
              rw [show c + (i + 1) = c + 1 + i by omega]
              exact this
        · have hpal : pal T (d + 1) p = ((false, (pcm T p).1.2), []) := by
            conv => lhs; unfold pal
            rw [if_pos hb, if_pos hlt, if_neg h59]
          have hl59 : ¬ lt1 T 59 (pcm T p).1.2 = true := fun hh => h59 (of_decide_eq_true hh : (pcm T p).1.2 < T.1 ∧ T.2 (pcm T p).1.2 = 59).2
          rw [if_neg hl59] at r3
          have s20 : σ2 26 0 20 = nI (pcm T p).1.2 := r3
          obtain ⟨m, rfl⟩ : ∃ m', m = m' + 1 := ⟨m - 1, by omega⟩
          rw [hpal]
          refine ⟨σ2, ?_, H1.qd q2, Q1.trans q2.q, r3, hin, fun hh => by cases hh⟩
          rw [e1, qb_V]
          show b_X8_readsAll_32 (l_X8_readsAll_32 (m + 1)) σ1 = _
          unfold b_X8_readsAll_32
          rw [if_pos r20, H1.2.1, r19, if_neg (nI_ge hlt (by omega)), show (59 : Int32) = nI 59 from rfl, e2, qb_V, s20, if_neg (n_ne _ (by omega))]
          show b_X8_readsAll_32 (l_X8_readsAll_32 m) σ2 = _
          unfold b_X8_readsAll_32
          rw [s20, if_neg (n_ne _ (by omega))]
      · have hpal : pal T (d + 1) p = ((pcm T p).1, [((pcm T p).2, tvs T (true, p) (fmk (pcm T p).2))]) := by
          conv => lhs; unfold pal
          rw [if_pos hb, if_neg hlt]
        rw [hpal]
        refine ⟨σ1, ?_, H1, Q1, r1, hin, fun hh => ⟨t1, n1, fun i k vs hi => ?_⟩⟩
        · rw [e1, qb_V]
          show b_X8_readsAll_32 (l_X8_readsAll_32 m) σ1 = _
          unfold b_X8_readsAll_32
          rw [if_pos r20, H1.2.1, r19, if_pos (nI_le (by omega) (by omega))]
        · rcases i with _ | i
          · simp only [List.getElem?_cons_zero, Option.some.injEq, Prod.mk.injEq] at hi
            obtain ⟨rfl, rfl⟩ := hi
            exact ⟨k8, by rw [Nat.add_zero]; exact kd, fun n v hv _ => by rw [Nat.add_zero]; exact kv n v hv⟩
          · simp at hi
    · have hb0 : (pcm T p).1.1 = false := by simpa using hb
      have hpal : pal T (d + 1) p = ((pcm T p).1, []) := by
        conv => lhs; unfold pal
        rw [if_neg hb]
      have r20 : σ1 26 0 20 = nI (pcm T p).1.2 := by
        unfold RSt at r1
        rw [if_neg hb] at r1
        exact r1
      rw [hpal]
      refine ⟨σ1, ?_, H1, Q1, r1, hin, fun hh => absurd hh hb⟩
      rw [e1, qb_V]
      show b_X8_readsAll_32 (l_X8_readsAll_32 m) σ1 = _
      unfold b_X8_readsAll_32
      rw [r20, if_neg (n_ne _ (by omega))]
theorem r_readsAll {σ : qS} (h60 : T.1 ≤ 60) (h14 : σ 26 0 14 = nI T.1) (h35 : ∀ i, i < T.1 → σ 35 0 i = nI (T.2 i) ∧ T.2 i < 127) : ∃ σ', f_X8_readsAll σ = qdo σ' ∧ (∀ a b, ¬ (a = 26 ∧ b = 0) → ¬ (a = 37 ∧ b = 0) → σ' a b = σ a b) ∧ (∀ x, x ≠ 14 → x ≠ 18 → x ≠ 19 → x ≠ 20 → x ≠ 21 → σ' 26 0 x = σ 26 0 x) ∧ σ' 26 0 14 = 0 ∧ RSt (pal T 61 0).1 σ' ∧ (pal T 61 0).1.2 ≤ T.1 ∧ ((pal T 61 0).1.1 = true → σ' 26 0 21 = nI (pal T 61 0).2.length ∧ CLr (pal T 61 0).2 0 σ') := by
  obtain ⟨σ1, hs1⟩ : ∃ σ1, σ1 = qu (qu (qu (qu (qu σ 26 0 18 (σ 26 0 14)) 26 0 14 0) 26 0 19 0) 26 0 20 (-1)) 26 0 21 0 := ⟨_, rfl⟩
  have k : ∀ a b, ¬ (a = 26 ∧ b = 0) → σ1 a b = σ a b := fun a b hh => by rw [hs1, qu_other _ hh, qu_other _ hh, qu_other _ hh, qu_other _ hh, qu_other _ hh]
  have kk : ∀ x, σ1 26 0 x = if x = 21 then 0 else if x = 20 then -1 else if x = 19 then 0 else if x = 14 then 0 else if x = 18 then σ 26 0 14 else σ 26 0 x := fun x => by
    rw [hs1, qu_at, qu_at, qu_at, qu_at, qu_at]
    simp only [true_and]
  have H1 : RTx T σ1 := ⟨h60, by rw [kk]; simp [h14], fun i hi => by rw [k 35 0 (by simp)]; exact h35 i hi⟩
  obtain ⟨σ2, e2, H2, Q2, r2, i2, s2⟩ := r_all_loop (T := T) 61 0 0 qFU σ1 (by omega) (by omega) (by omega) (by decide) H1 (by rw [kk]; rfl) (by rw [kk]; rfl) (by rw [kk]; rfl)
  refine ⟨σ2, ?_, fun a b h1 h2 => by rw [Q2.1 a b h1 h2, k a b h1], fun x h1 h2 h3 h4 h5 => by rw [Q2.2 x h3 h4 h5, kk, if_neg h5, if_neg h4, if_neg h3, if_neg h1, if_neg h2], by rw [Q2.2 14 (by decide) (by decide) (by decide), kk]; rfl, r2, i2, fun hh => ?_⟩
  · unfold f_X8_readsAll
    rw [qlet_eq, qlet_eq, qlet_eq, qlet_eq, qlet_eq, ← hs1]
    exact e2
  · obtain ⟨f1, -, f3⟩ := s2 hh
    rw [Nat.zero_add] at f1
    exact ⟨f1, f3⟩
end RA
