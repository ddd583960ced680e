/-! a project: how many tasks, the fields of each (0 duration, 1 resource, 2 demand, 3 release, 4 needs, 5 start in the baseline), the limits, whether there is a baseline -/
abbrev qP : Type := Nat × (Nat → Nat → Int32) × (Nat → Int32) × Int32
abbrev pn (P : qP) : Nat := P.1
abbrev pf (P : qP) (f t : Nat) : Int32 := P.2.1 f t
abbrev pl (P : qP) (r : Nat) : Int32 := P.2.2.1 r
abbrev ph (P : qP) : Int32 := P.2.2.2
abbrev ped (P : qP) (t u : Nat) : Bool := qbit (pf P 4 t) u
/-- where the class has it, where the reference -/
def Rep (σ : qS) (j : Nat) (P : qP) : Prop := σ 1 j 7 = nI (pn P) ∧ (∀ f t, f < 6 → t < pn P → σ (2 + f) j t = pf P f t) ∧ (∀ r, r < 3 → σ 8 j r = pl P r) ∧ σ 1 j 8 = ph P
/-- it is as a project may be -/
def PW (P : qP) : Prop := pn P ≤ 12 ∧
  (∀ t, t < pn P → (1 ≤ (pf P 0 t).toInt ∧ (pf P 0 t).toInt ≤ 9) ∧ (0 ≤ (pf P 1 t).toInt ∧ (pf P 1 t).toInt ≤ 2) ∧ (1 ≤ (pf P 2 t).toInt ∧ (pf P 2 t).toInt ≤ 5) ∧ (0 ≤ (pf P 3 t).toInt ∧ (pf P 3 t).toInt ≤ 30) ∧ (∀ u, ped P t u = true → u < pn P) ∧ (-1 ≤ (pf P 5 t).toInt ∧ (pf P 5 t).toInt ≤ 1000)) ∧
  (∀ r, r < 3 → 5 ≤ (pl P r).toInt ∧ (pl P r).toInt ≤ 20) ∧ (∃ h : Nat → Nat, ∀ t u, t < pn P → ped P t u = true → h u < h t) ∧ (ph P = 0 ∨ ph P = 1) ∧ (ph P = 0 → ∀ t, t < pn P → pf P 5 t = -1)
theorem i_nI {x : Int32} {n : Nat} (h : x.toInt = (n : Int)) (hn : n < 2 ^ 31) : x = nI n := by
  apply Int32.toInt_inj.mp
  rw [h, nI_toInt hn]
/-! the class's leaves -/
section LC
variable {σ : qS} {j : Nat} {P : qP} {t : Nat}
theorem Rep.n (H : Rep σ j P) : σ 1 j 7 = nI (pn P) := H.1
theorem c_fld (H : Rep σ j P) (W : PW P) (h : t < pn P) {f : Nat} (hf : f < 6) : f_X7_at (2 + f) j (nI t) σ = qan (pf P f t) σ := by
  have hn := W.1
  have hq : qlen (2 + f) = 12 := by
    rcases (show f = 0 ∨ f = 1 ∨ f = 2 ∨ f = 3 ∨ f = 4 ∨ f = 5 by omega) with rfl | rfl | rfl | rfl | rfl | rfl <;> rfl
  rw [e_at (by rw [hq]; omega) (by rw [hq]; omega), H.2.1 f t hf h]
theorem c_dur (H : Rep σ j P) (W : PW P) (h : t < pn P) : f_X7_at 2 j (nI t) σ = qan (pf P 0 t) σ := c_fld (f := 0) H W h (by decide)
theorem c_res (H : Rep σ j P) (W : PW P) (h : t < pn P) : f_X7_at 3 j (nI t) σ = qan (pf P 1 t) σ := c_fld (f := 1) H W h (by decide)
theorem c_dem (H : Rep σ j P) (W : PW P) (h : t < pn P) : f_X7_at 4 j (nI t) σ = qan (pf P 2 t) σ := c_fld (f := 2) H W h (by decide)
theorem c_rel (H : Rep σ j P) (W : PW P) (h : t < pn P) : f_X7_at 5 j (nI t) σ = qan (pf P 3 t) σ := c_fld (f := 3) H W h (by decide)
theorem c_need (H : Rep σ j P) (W : PW P) (h : t < pn P) : f_X7_at 6 j (nI t) σ = qan (pf P 4 t) σ := c_fld (f := 4) H W h (by decide)
theorem c_base (H : Rep σ j P) (W : PW P) (h : t < pn P) : f_X7_at 7 j (nI t) σ = qan (pf P 5 t) σ := c_fld (f := 5) H W h (by decide)
theorem c_lim (H : Rep σ j P) {r : Nat} (h : r < 3) : f_X7_at 8 j (nI r) σ = qan (pl P r) σ := by
  rw [e_at (show r < qlen 8 from h) (by decide), H.2.2.1 r h]
theorem c_linked (H : Rep σ j P) (W : PW P) (h : t < pn P) {u : Nat} (hu : u < 32) : f_X5_isLinked j (nI t) (nI u) σ = qan (qb1 (ped P t u)) σ := by
  unfold f_X5_isLinked
  rw [c_need H W h, qb_I, e_hasBit hu, qb_I, if_pos (qb1_bo _)]
/-- a task that is not placed, all that it needs is -/
def pready (P : qP) (placed : Int32) (t : Nat) : Bool := !qbit placed t && decide (pf P 4 t &&& (placed ^^^ (-1 : Int32)) = 0)
theorem c_ready (H : Rep σ j P) (W : PW P) (h : t < pn P) {x : Int32} : f_X5_isReady j (nI t) x σ = qan (qb1 (pready P x t)) σ := by
  have hn := W.1
  unfold f_X5_isReady pready
  rw [e_hasBit (by omega), qb_I]
  cases hb : qbit x t
  · rw [if_pos (by rfl), c_need H W h, qb_I]
    by_cases h0 : pf P 4 t &&& (x ^^^ (-1 : Int32)) = 0
    · rw [if_pos h0, decide_eq_true h0]; rfl
    · rw [if_neg h0, decide_eq_false h0]; rfl
  · rw [if_neg (by decide)]
    rfl
end LC
/-! the reference's leaves -/
section LR
variable {σ : qS} {P : qP} {t : Nat}
theorem i_in {x : Int32} {n : Nat} (hn : n < 2 ^ 31) : ((0 : Int32) ≤ x ∧ x ≤ nI n - 1) ↔ ∃ t, t < n ∧ x = nI t := by
  constructor
  · rintro ⟨h1, h2⟩
    have e : (nI n - 1).toInt = (n : Int) - 1 := by
      rcases n with _ | k
      · rfl
      · rw [nI_pred, nI_toInt (by omega)]; omega
    rw [Int32.le_iff_toInt_le] at h1 h2
    rw [e] at h2
    rw [show (0 : Int32).toInt = 0 from rfl] at h1
    exact ⟨x.toInt.toNat, by omega, i_nI (by omega) (by omega)⟩
  · rintro ⟨t, ht, rfl⟩
    rcases n with _ | k
    · omega
    · rw [nI_pred]
      exact ⟨nI_pos' (by omega), nI_le (by omega) (by omega)⟩
theorem e_task {n : Nat} (hn : n < 2 ^ 31) (x : Int32) : (decide ((0 : Int32) ≤ x ∧ x ≤ nI n - 1)) = true ↔ ∃ t, t < n ∧ x = nI t := by
  rw [decide_eq_true_iff]
  exact i_in hn
end LR

