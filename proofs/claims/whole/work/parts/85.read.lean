/-! the class reads all -/
section CA
variable {T : qTx}
def pal (T : qTx) : Nat → Nat → (Bool × Nat) × List (Nat × List Nat)
  | 0, p => ((false, p), [])
  | d + 1, p => if (pcm T p).1.1 = true then (if (pcm T p).1.2 < T.1 then (if T.2 (pcm T p).1.2 = 59 then ((pal T d ((pcm T p).1.2 + 1)).1, ((pcm T p).2, tvs T (true, p) (fmk (pcm T p).2)) :: (pal T d ((pcm T p).1.2 + 1)).2) else ((false, (pcm T p).1.2), [])) else ((pcm T p).1, [((pcm T p).2, tvs T (true, p) (fmk (pcm T p).2))])) else ((pcm T p).1, [])
/-- what stands of the commands behind the c-th -/
def CL (L : List (Nat × List Nat)) (cc : Nat) (σ' : qS) : Prop := ∀ (i k : Nat) (vs : List Nat), L[i]? = some (k, vs) → k < 8 ∧ σ' 21 0 (cc + i) = nI (k + 1) ∧ ∀ (n v : Nat), vs[n]? = some v → n < 4 → σ' 22 0 (4 * (cc + i) + n) = nI v
theorem c_read_loop : ∀ (d cc p m : Nat) (σ : qS), T.1 < d + p → 5 * cc ≤ p → p ≤ T.1 → d + 1 < m → CTx T σ → σ 19 0 4 = nI cc → σ 19 0 5 = nI p → ∃ σ', l_X6_read_14 m (1 : Int32) (nI cc) σ = qan (qb1 (pal T d p).1.1) σ' ∧ Qp σ σ' ∧ σ' 19 0 5 = nI (pal T d p).1.2 ∧ (pal T d p).1.2 ≤ T.1 ∧ ((pal T d p).1.1 = true → 5 * (cc + (pal T d p).2.length) ≤ T.1 + 5 ∧ σ' 19 0 4 = nI (cc + (pal T d p).2.length) ∧ (∀ y, y < cc → σ' 21 0 y = σ 21 0 y) ∧ (∀ y, y < 4 * cc → σ' 22 0 y = σ 22 0 y) ∧ CL (pal T d p).2 cc σ')
  | 0, cc, p, m, σ, hd, hcc, hp, hm, H, h4, h5 => by omega
  | d + 1, cc, p, m, σ, hd, hcc, hp, hm, H, h4, h5 => by
    have h60 := H.1
    obtain ⟨m, rfl⟩ : ∃ m', m = m' + 1 := ⟨m - 1, by omega⟩
    obtain ⟨σ1, e1, Q1, a5, ain, as⟩ := c_readCommand (p := p) (cc := cc) (by omega) hp H h4 h5
    have H1 := H.qp Q1
    have hgo : ∀ o, qbind (f_X6_readCommand σ) (qvI (fun r1 s3 => (if r1 = 0 then (some (.inl (some (qI (0 : Int32))), s3)) else (if (s3 19 0 3) ≤ (s3 19 0 5) then j_X6_read_68 (l_X6_read_14 m) (nI cc) (0 : Int32) s3 else qbind (f_X7_charAt 20 0 (s3 19 0 5) s3) (qvI (fun r2 s5 => (if r2 = (59 : Int32) then j_X6_read_68 (l_X6_read_14 m) (nI cc) (1 : Int32) s5 else j_X6_read_68 (l_X6_read_14 m) (nI cc) (0 : Int32) s5))) qE0)))) qE0 = o → l_X6_read_14 (m + 1) (1 : Int32) (nI cc) σ = o := by
      intro o ho
      show b_X6_read_14 (l_X6_read_14 m) (1 : Int32) (nI cc) σ = _
      unfold b_X6_read_14
      rw [if_neg (by decide), if_neg (by rw [show Int32.ofNat 60 = nI 60 from rfl, n_le (by omega) (by omega)]; omega)]
      exact ho
    by_cases hb : (pcm T p).1.1 = true
    · obtain ⟨c0, c1, c2, c3, c4, c6, c7⟩ := as hb
      by_cases hlt : (pcm T p).1.2 < T.1
      · have h127 := (H1.2.2 _ hlt).2
        by_cases h59 : T.2 (pcm T p).1.2 = 59
        · have hpal : pal T (d + 1) p = ((pal T d ((pcm T p).1.2 + 1)).1, ((pcm T p).2, tvs T (true, p) (fmk (pcm T p).2)) :: (pal T d ((pcm T p).1.2 + 1)).2) := by
            conv => lhs; unfold pal
            rw [if_pos hb, if_pos hlt, if_pos h59]
          obtain ⟨σ2, hs2⟩ : ∃ σ2, σ2 = qu σ1 19 0 5 (nI ((pcm T p).1.2 + 1)) := ⟨_, rfl⟩
          have Q2 : Qp σ1 σ2 := by rw [hs2]; exact Qp.pos _ _
          have k21 : σ2 21 0 = σ1 21 0 := by rw [hs2, qu_other _ (by simp)]
          have k22 : σ2 22 0 = σ1 22 0 := by rw [hs2, qu_other _ (by simp)]
          obtain ⟨σ3, e3, Q3, b5, bin, bs⟩ := c_read_loop d (cc + 1) ((pcm T p).1.2 + 1) m σ2 (by omega) (by omega) (by omega) (by omega) (H1.qp Q2) (by rw [hs2, qu_at, if_neg (by simp)]; exact c2) (by rw [hs2, qu_at, if_pos ⟨rfl, rfl, rfl⟩])
          rw [hpal]
          refine ⟨σ3, hgo _ ?_, (Q1.trans Q2).trans Q3, b5, bin, fun h => ?_⟩
          · rw [e1, hb, qb_I, if_neg (by decide), H1.2.1, a5, if_neg (nI_ge hlt (by omega)), c_chr H1 hlt, qb_I, h59, if_pos (by decide)]
            unfold j_X6_read_68
            rw [if_neg (by decide), a5, nI_1, qlet_eq, ← hs2, nI_1]
            exact e3
          · obtain ⟨f0, f1, f2, f3, f4⟩ := bs h
            simp only [List.length_cons]
            refine ⟨by omega, by rw [f1]; congr 1; omega, fun y hy => by rw [f2 y (by omega), k21, c4 y (by omega)], fun y hy => by rw [f3 y (by omega), k22, c6 y hy], fun i k vs hi => ?_⟩
            rcases i with _ | i
            · simp only [List.getElem?_cons_zero, Option.some.injEq, Prod.mk.injEq] at hi
              obtain ⟨rfl, rfl⟩ := hi
              refine ⟨c1, by rw [Nat.add_zero, f2 _ (by omega), k21]; exact c3, fun n v hv hn => ?_⟩
              rw [Nat.add_zero, f3 _ (by omega), k22]
              exact c7 n v hv
            · simp only [List.getElem?_cons_succ] at hi
              have := f4 i k vs hi
              rw [show cc + (i + 1) = cc + 1 + i by omega]
              exact this
        · have hpal : pal T (d + 1) p = ((false, (pcm T p).1.2), []) := by
            conv => lhs; unfold pal
            rw [if_pos hb, if_pos hlt, if_neg h59]
          rw [hpal]
          obtain ⟨m, rfl⟩ : ∃ m', m = m' + 1 := ⟨m - 1, by omega⟩
          refine ⟨σ1, hgo _ ?_, Q1, a5, ain, fun h => by cases h⟩
          rw [e1, hb, qb_I, if_neg (by decide), H1.2.1, a5, if_neg (nI_ge hlt (by omega)), c_chr H1 hlt, qb_I, if_neg (by rw [show (59 : Int32) = nI 59 from rfl, n_eq (by omega) (by omega)]; exact h59)]
          unfold j_X6_read_68
          rw [if_pos rfl]
          show b_X6_read_14 _ _ _ _ = _
          unfold b_X6_read_14
          rw [if_pos rfl, if_pos rfl, H1.2.1, a5, if_neg (by rw [n_eq (by omega) (by omega)]; omega)]
          rfl
      · have hpal : pal T (d + 1) p = ((pcm T p).1, [((pcm T p).2, tvs T (true, p) (fmk (pcm T p).2))]) := by
          conv => lhs; unfold pal
          rw [if_pos hb, if_neg hlt]
        rw [hpal]
        obtain ⟨m, rfl⟩ : ∃ m', m = m' + 1 := ⟨m - 1, by omega⟩
        refine ⟨σ1, hgo _ ?_, Q1, a5, ain, fun h => ⟨?_, c2, fun y hy => c4 y (by omega), c6, fun i k vs hi => ?_⟩⟩
        · rw [e1, hb, qb_I, if_neg (by decide), H1.2.1, a5, if_pos (nI_le (by omega) (by omega))]
          unfold j_X6_read_68
          rw [if_pos rfl]
          show b_X6_read_14 _ _ _ _ = _
          unfold b_X6_read_14
          rw [if_pos rfl, if_pos rfl, H1.2.1, a5, if_pos (by rw [n_eq (by omega) (by omega)]; omega)]
          rfl
        · simp only [List.length_cons, List.length_nil]
          omega
        · rcases i with _ | i
          · simp only [List.getElem?_cons_zero, Option.some.injEq, Prod.mk.injEq] at hi
            obtain ⟨rfl, rfl⟩ := hi
            exact ⟨c1, by rw [Nat.add_zero]; exact c3, fun n v hv _ => by rw [Nat.add_zero]; exact c7 n v hv⟩
          · simp at hi
    · have hb0 : (pcm T p).1.1 = false := by simpa using hb
      have hpal : pal T (d + 1) p = ((pcm T p).1, []) := by
        conv => lhs; unfold pal
        rw [if_neg hb]
      rw [hpal]
      refine ⟨σ1, hgo _ ?_, Q1, a5, ain, fun h => absurd h hb⟩
      rw [e1, hb0, qb_I, if_pos (by rfl)]
      rfl
theorem c_read {σ : qS} (H : CTx T σ) : ∃ σ', f_X6_read σ = qan (qb1 (pal T 61 0).1.1) σ' ∧ Qp σ σ' ∧ σ' 19 0 5 = nI (pal T 61 0).1.2 ∧ (pal T 61 0).1.2 ≤ T.1 ∧ ((pal T 61 0).1.1 = true → (pal T 61 0).2.length ≤ 13 ∧ σ' 19 0 4 = nI (pal T 61 0).2.length ∧ CL (pal T 61 0).2 0 σ') := by
  have h60 := H.1
  obtain ⟨σ1, hs1⟩ : ∃ σ1, σ1 = qu (qu σ 19 0 5 0) 19 0 4 0 := ⟨_, rfl⟩
  have Q1 : Qp σ σ1 := by rw [hs1]; exact (Qp.pos _ _).trans (Qp.cnt _ _)
  obtain ⟨σ2, e2, Q2, b5, bin, bs⟩ := c_read_loop (T := T) 61 0 0 qFU σ1 (by omega) (by omega) (by omega) (by decide) (H.qp Q1) (by rw [hs1, qu_at, if_pos ⟨rfl, rfl, rfl⟩]; rfl) (by rw [hs1, qu_at, if_neg (by simp), qu_at, if_pos ⟨rfl, rfl, rfl⟩]; rfl)
  refine ⟨σ2, ?_, Q1.trans Q2, b5, bin, fun h => ?_⟩
  · unfold f_X6_read
    rw [qlet_eq, qlet_eq, ← hs1]
    exact e2
  · obtain ⟨f0, f1, f2, f3, f4⟩ := bs h
    rw [Nat.zero_add] at f0 f1
    exact ⟨by omega, f1, f4⟩
end CA
