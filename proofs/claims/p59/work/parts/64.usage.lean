/-! the order's places, the last task; the use of the resources -/
section QS2
variable {P : qP} {hs : List qP} {sv : qP} {σ : qS}
def pfound (P : qP) (x : Int32) : Nat → Int32
  | 0 => -1
  | i + 1 => if nI i = x then nI (pord P i) else pfound P x i
theorem pfound_out {x : Int32} : ∀ i, (∀ q, q < i → x ≠ nI q) → pfound P x i = -1
  | 0, _ => rfl
  | i + 1, h => by rw [pfound, if_neg (fun e => h i (by omega) e.symm)]; exact pfound_out i (fun q hq => h q (by omega))
theorem pfound_in {q : Nat} : ∀ i, q < i → i < 2 ^ 31 → pfound P (nI q) i = nI (pord P q)
  | 0, h, _ => by omega
  | i + 1, h, hb => by
    rw [pfound]
    by_cases e : i = q
    · rw [if_pos (by rw [e]), e]
    · rw [if_neg (fun h2 => e ((n_eq (by omega) (by omega)).mp h2))]
      exact pfound_in i (by omega) (by omega)
/-! the first task with its finish at the end -/
def gfs (c : Nat → Bool) : Nat → Nat → Nat
  | 0, i => i
  | d + 1, i => if c i = true then i else gfs c d (i + 1)
theorem gfs_le (c : Nat → Bool) : ∀ d i, gfs c d i ≤ i + d
  | 0, _ => Nat.le_refl _
  | d + 1, i => by
    unfold gfs
    split
    · omega
    · exact Nat.le_trans (gfs_le c d (i + 1)) (by omega)
def plc (P : qP) (t : Nat) : Bool := decide (pE P t + pf P 0 t = plast P (pE P))
theorem c_last_loop (W : PW P) (H : Rep σ 0 P) (p1 : PlanOK P σ) : ∀ (d i m : Nat), i + d = pn P → d < m → l_X7_lastTask_7 m (nI i) σ = if gfs (plc P) d i = pn P then qth qNSE σ else qan (nI (gfs (plc P) d i)) σ := by
  have hn := W.1
  intro d
  induction d with
  | zero =>
    intro i m hi hm
    obtain ⟨m, rfl⟩ : ∃ m', m = m' + 1 := ⟨m - 1, by omega⟩
    simp only [l_X7_lastTask_7, b_X7_lastTask_7]
    rw [if_pos (by rw [H.1]; exact nI_le (by omega) (by omega)), show gfs (plc P) 0 i = i from rfl, if_pos (by omega)]
  | succ d ih =>
    intro i m hi hm
    obtain ⟨m, rfl⟩ : ∃ m', m = m' + 1 := ⟨m - 1, by omega⟩
    have hg : gfs (plc P) (d + 1) i = if plc P i = true then i else gfs (plc P) d (i + 1) := rfl
    simp only [l_X7_lastTask_7, b_X7_lastTask_7]
    rw [if_neg (by rw [H.1]; exact nI_ge (by omega) (by omega)), e_at (show i < 12 by omega) (by decide), qb_I, c_dur H W (by omega), qb_I, p1.2.2.1 i (by omega), p1.2.2.2.2.2.2.1, nI_1]
    by_cases e : pE P i + pf P 0 i = plast P (pE P)
    · rw [show plc P i = true from decide_eq_true e, if_pos rfl] at hg
      rw [if_pos e, hg, if_neg (by omega)]
    · rw [show plc P i = false from decide_eq_false e, if_neg (show ¬ false = true by decide)] at hg
      rw [if_neg e, hg]
      exact ih (i + 1) m (by omega) (by omega)
end QS2

