/-! the mean slack, the utilization -/
section QM2
variable {P : qP} {hs : List qP} {sv : qP} {σ : qS}
theorem qb_D {x : UInt64} {s : qS} {k : UInt64 → qS → Option qO} {ke : String → qS → Option qO} : qbind (some (.inl (some (.inl (.double x))), s)) (qvD k) ke = k x s := rfl
theorem qb_F {x : UInt32} {s : qS} {k : UInt32 → qS → Option qO} {ke : String → qS → Option qO} : qbind (some (.inl (some (.inl (.float x))), s)) (qvF k) ke = k x s := rfl
def pslk (P : qP) (d i : Nat) (a : Int32) : Int32 := fo (fun t a => a + (pL P t - pE P t)) d i a
theorem c_mean_loop (W : PW P) (p1 : PlanOK P σ) (h0 : 0 < pn P) : ∀ (d i m : Nat) (a : Int32), i + d = pn P → d < m → l_X7_meanSlack_32 m (nI (pn P)) a (nI i) σ = some (.inl (some (.inl (.double (FP.ddiv (FP.i2d (pslk P d i a)) (FP.i2d (nI (pn P))))))), σ) := by
  have hn := W.1
  intro d
  induction d with
  | zero =>
    intro i m a hi hm
    obtain ⟨m, rfl⟩ : ∃ m', m = m' + 1 := ⟨m - 1, by omega⟩
    simp only [l_X7_meanSlack_32, b_X7_meanSlack_32]
    rw [if_pos (nI_le (by omega) (by omega)), if_pos (qn64_div a (fun h => by rw [show (0 : Int32) = nI 0 from rfl, n_eq (by omega) (by omega)] at h; omega))]
    rfl
  | succ d ih =>
    intro i m a hi hm
    obtain ⟨m, rfl⟩ : ∃ m', m = m' + 1 := ⟨m - 1, by omega⟩
    simp only [l_X7_meanSlack_32, b_X7_meanSlack_32]
    rw [if_neg (nI_ge (by omega) (by omega)), e_slack p1 W (by omega), qb_I, nI_1]
    exact ih (i + 1) m _ (by omega) (by omega)
theorem pend_pos (W : PW P) (h0 : 0 < pn P) : 0 < pend P (pn P) ∧ pend P (pn P) ≤ 138 := by
  have hn := W.1
  constructor
  · have h1 := (pend_le W (pn P) (Nat.le_refl _) (pend P (pn P))).mp (Nat.le_refl _) 0 (pst_full W h0)
    have h2 := (W.dn h0).2.1
    omega
  · rw [pend_le W (pn P) (Nat.le_refl _)]
    intro u hu
    have := ((pst_spec W (pn P) (Nat.le_refl _)).2 u hu).2.1
    omega
end QM2

