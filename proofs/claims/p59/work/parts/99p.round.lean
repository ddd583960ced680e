/-! ONE ROUND OF THE LAW, TEN ROUNDS: all are answered 1 -/
section RN
variable {P : qP} {hs : List qP} {σ σ' : qS} {LL : Nat} {xs : Nat → Int32} {ks : List (Nat × Nat)}
theorem mxu_use (σ : qS) : Use (mxu σ) (fun _ _ => 0) := fun r hr => by
  rw [mxu_at σ (by omega) (by omega)]
  refine ⟨?_, fun d hd => ?_⟩
  · show (if qLI = qLI then (200 : Int32) else 0) = nI 200
    rw [if_pos rfl]
    rfl
  · show (if d = qLI then (200 : Int32) else 0) = nI 0
    rw [if_neg (n_li (by omega))]
    rfl
theorem mxu_sn (σ : qS) : qsn [(50, 4), (50, 5), (50, 6)] σ (mxu σ) := fun a b h => mxu_ne σ (fun h2 => h (by
  obtain ⟨rfl, h3, h4⟩ := h2
  rcases (show b = 4 ∨ b = 5 ∨ b = 6 by omega) with rfl | rfl | rfl <;> simp))
theorem qCo.sn (h : qCo σ) (q : qsn ks σ σ') (hk : ∀ p ∈ ks, 50 ≤ p.1) : qCo σ' := h.put (fun a b hab => q a b (fun h2 => by have := hk _ h2; simp only at this; omega))
theorem l_args : ∀ k : Nat, k < 10 → (200 : Int32) + (6 : Int32) * nI k = nI (200 + 6 * k) ∧ (300 : Int32) + nI k = nI (300 + k) ∧ ¬ (10 : Int32) ≤ nI k := by decide +kernel
theorem l_round (hL : LL < 2 ^ 31) (C : Cl σ P hs) (K : qCo σ) {k : Nat} (hk : k < 10) (rk : Int32 → qS → Option qO) : ∃ (P' : qP) (hs' : List qP) (σ' : qS), b_L_law_15 LL xs rk (nI k) σ = rk (nI (k + 1)) σ' ∧ Cl σ' P' hs' ∧ qCo σ' := by
  obtain ⟨g1, g2, g3⟩ := l_args k hk
  obtain ⟨r1, P', hs', σ1, e1, I1, S1, k1⟩ := l_any (xs := xs) hL C (show 200 + 6 * k < 1000000 by omega)
  have K1 : qCo σ1 := K.put (fun a b hab => k1 a b (by omega))
  obtain ⟨σ2, e2, q2, R1⟩ := l_earliest I1
  have C2 : Cl σ2 P' hs' := Cl.hn ⟨I1, S1⟩ q2 (by simp)
  have K2 : qCo σ2 := K1.sn q2 (by simp)
  have e3 := l_last C2.1 R1
  obtain ⟨σ4, e4, q4, R2⟩ := l_latest C2.1
  have C4 : Cl σ4 P' hs' := C2.hn q4 (by simp)
  have K4 : qCo σ4 := K2.sn q4 (by simp)
  have R1b := R1.sn q4 (by simp)
  have q5 := mxu_sn σ4
  have C5 : Cl (mxu σ4) P' hs' := C4.hn q5 (by simp)
  have K5 : qCo (mxu σ4) := K4.sn q5 (by simp)
  have R1c := R1b.sn q5 (by simp)
  have R2c := R2.sn q5 (by simp)
  obtain ⟨σ6, e6, q6, R3, U⟩ := l_levelled C5.1 R2c (mxu_use σ4)
  have C6 : Cl σ6 P' hs' := C5.hn q6 (by simp)
  have K6 : qCo σ6 := K5.sn q6 (by simp)
  have R1d := R1c.sn q6 (by simp)
  have R2d := R2c.sn q6 (by simp)
  obtain ⟨σ7, e7, k7, I7, S7⟩ := l_deps C6.1 C6.2
  have K7 : qCo σ7 := K6.put (fun a b hab => k7 a b (by omega) (by rcases hab with rfl | rfl | rfl <;> simp))
  have R1e := R1d.tr (k7 50 1 (by omega) (by simp))
  have R2e := R2d.tr (k7 50 2 (by omega) (by simp))
  have R3e := R3.tr (k7 50 3 (by omega) (by simp))
  have U7 : Use σ7 (pUf P') := fun r hr => by
    rw [k7 50 (4 + r) (by omega) (by simp)]
    exact U r hr
  obtain ⟨σ8, e8, k8, I8, S8⟩ := l_starts I7 S7 R1e R2e
  have K8 : qCo σ8 := K7.put (fun a b hab => k8 a b (by omega))
  have T8 : TSU σ8 P' hs' := ⟨⟨⟨I8, S8⟩, K8, R3e.wk k8⟩, fun r hr => by
    rw [k8 50 (4 + r) (by omega)]
    exact U7 r hr⟩
  obtain ⟨r9, h9, e9⟩ := e_pick hL xs (i := 300 + k) (m := 60) (by omega) (by decide) (by decide)
  have e9 : f_L_pick LL xs (nI (300 + k)) (60 : Int32) σ8 = qan (nI r9) σ8 := e9 σ8
  obtain ⟨σ9, e10, T9⟩ := l_levels T8 (day := r9) (by omega)
  obtain ⟨σ10, e11, T10⟩ := l_told T9
  refine ⟨P', hs', σ10, ?_, T10.1, T10.2.1⟩
  have one : ¬ (1 : Int32) = 0 := by decide
  unfold b_L_law_15 j_L_law_73
  rw [if_neg g3, g1, e1, qb_I, e2, qb_M, e3, qb_I, e4, qb_M, qlet_eq, e6, qb_M, e7, qb_I, if_neg one, e8, qb_I, if_neg one, g2, e9, qb_I, e10, qb_I, if_neg one, e11, qb_I, if_neg one, nI_1]
theorem l_rounds (hL : LL < 2 ^ 31) : ∀ (d k m : Nat) (σ : qS) (P : qP) (hs : List qP), k + d = 10 → d < m → Cl σ P hs → qCo σ → ∃ σ', l_L_law_15 LL xs m (nI k) σ = qan 1 σ' := by
  intro d
  induction d with
  | zero =>
    intro k m σ P hs hk hm C K
    obtain ⟨m, rfl⟩ : ∃ m', m = m' + 1 := ⟨m - 1, by omega⟩
    obtain rfl : k = 10 := by omega
    refine ⟨σ, ?_⟩
    show b_L_law_15 LL xs (l_L_law_15 LL xs m) (nI 10) σ = _
    unfold b_L_law_15
    rw [if_pos (show (10 : Int32) ≤ nI 10 from by decide)]
  | succ d ih =>
    intro k m σ P hs hk hm C K
    obtain ⟨m, rfl⟩ : ∃ m', m = m' + 1 := ⟨m - 1, by omega⟩
    obtain ⟨P', hs', σ1, e1, C1, K1⟩ := l_round (xs := xs) hL C K (show k < 10 by omega) (l_L_law_15 LL xs m)
    obtain ⟨σ2, e2⟩ := ih (k + 1) m σ1 P' hs' (by omega) (by omega) C1 K1
    refine ⟨σ2, ?_⟩
    show b_L_law_15 LL xs (l_L_law_15 LL xs m) (nI k) σ = _
    rw [e1, e2]
/-- the law from its second call on -/
def s_L_law (LL : Nat) (xs : Nat → Int32) (σ : qS) : Option qO :=
  qbind (f_L_lay LL xs σ) (qvV (fun s1 => l_L_law_15 LL xs 11 (0 : Int32) s1)) qE0
theorem law_all (hL : LL < 2 ^ 31) (C : Cl σ P hs) (K : qCo σ) : ∃ σ', s_L_law LL xs σ = qan 1 σ' := by
  obtain ⟨P', hs', σ1, e1, C1, k1⟩ := l_lay (xs := xs) hL C
  obtain ⟨σ2, e2⟩ := l_rounds (xs := xs) hL 10 0 11 σ1 P' hs' rfl (by decide) C1 (K.put (fun a b hab => k1 a b (by omega)))
  refine ⟨σ2, ?_⟩
  unfold s_L_law
  rw [e1, qb_V]
  exact e2
end RN
