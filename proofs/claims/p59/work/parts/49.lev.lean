/-! levelling: the plan itself, in numbers -/
def pdn (P : qP) (t : Nat) : Nat := (pf P 0 t).toInt.toNat
def prn (P : qP) (t : Nat) : Nat := (pf P 1 t).toInt.toNat
def pmn (P : qP) (t : Nat) : Nat := (pf P 2 t).toInt.toNat
def pln (P : qP) (r : Nat) : Nat := (pl P r).toInt.toNat
def gsum (f : Nat → Nat) : Nat → Nat
  | 0 => 0
  | k + 1 => gsum f k + f k
theorem gsum_congr {f g : Nat → Nat} : ∀ k, (∀ i, i < k → f i = g i) → gsum f k = gsum g k
  | 0, _ => rfl
  | k + 1, h => by unfold gsum; rw [gsum_congr k (fun i hi => h i (by omega)), h k (by omega)]
theorem gsum_put {f g : Nat → Nat} {x v : Nat} (hx : g x = f x + v) (ho : ∀ i, i ≠ x → g i = f i) : ∀ k, gsum g k = gsum f k + (if x < k then v else 0)
  | 0 => by simp [gsum]
  | k + 1 => by
    unfold gsum
    rw [gsum_put hx ho k]
    by_cases hk : k = x
    · subst hk
      rw [hx, if_neg (Nat.lt_irrefl _), if_pos (Nat.lt_succ_self _)]
      omega
    · rw [ho k hk]
      by_cases hlt : x < k
      · rw [if_pos hlt, if_pos (show x < k + 1 by omega)]; omega
      · rw [if_neg hlt, if_neg (show ¬ x < k + 1 by omega)]
        omega
theorem gsum_zero {f : Nat → Nat} : ∀ k, (∀ i, i < k → f i = 0) → gsum f k = 0
  | 0, _ => rfl
  | k + 1, h => by unfold gsum; rw [gsum_zero k (fun i hi => h i (by omega)), h k (by omega)]
theorem gsum_le {f : Nat → Nat} {b : Nat} : ∀ k, (∀ i, i < k → f i ≤ b) → gsum f k ≤ b * k
  | 0, _ => Nat.le_refl _
  | k + 1, h => by
    unfold gsum
    have := gsum_le k (fun i hi => h i (by omega))
    have := h k (by omega)
    rw [Nat.mul_succ]
    omega
/-- units used on a day -/
def pU (P : qP) (x : Int32) (lev : Nat → Nat) (r d : Nat) : Nat := gsum (fun t => if qbit x t = true ∧ prn P t = r ∧ lev t ≤ d ∧ d < lev t + pdn P t then pmn P t else 0) (pn P)
def pfd (P : qP) (x : Int32) (lev : Nat → Nat) (t : Nat) : Nat → Nat → Bool
  | 0, _ => true
  | k + 1, d => decide (pU P x lev (prn P t) d + pmn P t ≤ pln P (prn P t)) && pfd P x lev t k (d + 1)
def pfit (P : qP) (x : Int32) (lev : Nat → Nat) (t s : Nat) : Bool := pfd P x lev t (pdn P t) s
def plow (P : qP) (x : Int32) (lev : Nat → Nat) (t : Nat) : Nat → Nat → Nat
  | 0, s => s
  | k + 1, s => if pfit P x lev t s = true then s else plow P x lev t k (s + 1)
def pug (P : qP) (x : Int32) : Nat → Nat → Nat → Nat
  | 0, _, a => a
  | d + 1, i, a => pug P x d (i + 1) (if pready P x i = true then (if a = pn P then i else if pL P i < pL P a then i else a) else a)
def pur (P : qP) (x : Int32) : Nat := pug P x (pn P) 0 (pn P)
def ps0 (P : qP) (lev : Nat → Nat) (t : Nat) : Nat := (psoon P (fun u => nI (lev u)) t).toInt.toNat
def pst (P : qP) : Nat → Int32 × (Nat → Nat)
  | 0 => (0, fun _ => 0)
  | i + 1 => ((pst P i).1 ||| ((1 : Int32) <<< (nI (pur P (pst P i).1) &&& 31)), fun u => if u = pur P (pst P i).1 then plow P (pst P i).1 (pst P i).2 (pur P (pst P i).1) 200 (ps0 P (pst P i).2 (pur P (pst P i).1)) else (pst P i).2 u)
section LV
variable {P : qP}
theorem PW.dn (W : PW P) {t : Nat} (ht : t < pn P) : pf P 0 t = nI (pdn P t) ∧ 1 ≤ pdn P t ∧ pdn P t ≤ 9 := by
  have := (W.2.1 t ht).1
  unfold pdn
  exact ⟨i_nI (by omega) (by omega), by omega, by omega⟩
theorem PW.rn (W : PW P) {t : Nat} (ht : t < pn P) : pf P 1 t = nI (prn P t) ∧ prn P t < 3 := by
  have := (W.2.1 t ht).2.1
  unfold prn
  exact ⟨i_nI (by omega) (by omega), by omega⟩
theorem PW.mn (W : PW P) {t : Nat} (ht : t < pn P) : pf P 2 t = nI (pmn P t) ∧ 1 ≤ pmn P t ∧ pmn P t ≤ 5 := by
  have := (W.2.1 t ht).2.2.1
  unfold pmn
  exact ⟨i_nI (by omega) (by omega), by omega, by omega⟩
theorem PW.ln (W : PW P) {r : Nat} (hr : r < 3) : pl P r = nI (pln P r) ∧ 5 ≤ pln P r ∧ pln P r ≤ 20 := by
  have := W.2.2.1 r hr
  unfold pln
  exact ⟨i_nI (by omega) (by omega), by omega, by omega⟩
theorem pU_le (W : PW P) {x : Int32} {lev : Nat → Nat} {r d : Nat} : pU P x lev r d ≤ 60 := by
  have hn := W.1
  have h1 := gsum_le (f := fun t => if qbit x t = true ∧ prn P t = r ∧ lev t ≤ d ∧ d < lev t + pdn P t then pmn P t else 0) (b := 5) (pn P) (fun i hi => by
    split
    · exact (W.mn hi).2.2
    · omega)
  unfold pU
  omega
theorem pfd_iff {x : Int32} {lev : Nat → Nat} {t : Nat} : ∀ {k s : Nat}, pfd P x lev t k s = true ↔ ∀ d, s ≤ d → d < s + k → pU P x lev (prn P t) d + pmn P t ≤ pln P (prn P t)
  | 0, s => ⟨fun _ d h1 h2 => by omega, fun _ => rfl⟩
  | k + 1, s => by
    unfold pfd
    rw [Bool.and_eq_true, decide_eq_true_iff, pfd_iff]
    constructor
    · rintro ⟨h1, h2⟩ d hd1 hd2
      by_cases hds : d = s
      · subst hds; exact h1
      · exact h2 d (by omega) (by omega)
    · intro h
      exact ⟨h s (Nat.le_refl _) (by omega), fun d h1 h2 => h d (by omega) (by omega)⟩
theorem plow_spec {x : Int32} {lev : Nat → Nat} {t : Nat} : ∀ (k s D : Nat), s ≤ D → D < s + k → pfit P x lev t D = true → s ≤ plow P x lev t k s ∧ plow P x lev t k s ≤ D ∧ pfit P x lev t (plow P x lev t k s) = true
  | 0, s, D, h1, h2, _ => by omega
  | k + 1, s, D, h1, h2, h3 => by
    unfold plow
    by_cases h : pfit P x lev t s = true
    · rw [if_pos h]; exact ⟨Nat.le_refl _, h1, h⟩
    · rw [if_neg h]
      have hsD : s ≠ D := fun e => h (e ▸ h3)
      obtain ⟨a1, a2, a3⟩ := plow_spec k (s + 1) D (by omega) (by omega) h3
      exact ⟨by omega, a2, a3⟩
/-- the most urgent: ready, when one is -/
theorem pug_spec {x : Int32} : ∀ (d i a : Nat), i + d = pn P → a ≤ pn P → (a < pn P → pready P x a = true) → (pug P x d i a ≤ pn P) ∧ (pug P x d i a < pn P → pready P x (pug P x d i a) = true) ∧ (a < pn P ∨ (∃ r, i ≤ r ∧ r < pn P ∧ pready P x r = true) → pug P x d i a < pn P)
  | 0, i, a, hi, ha, hr => by
    unfold pug
    exact ⟨ha, hr, fun h => by rcases h with h | ⟨r, h1, h2, _⟩ <;> omega⟩
  | d + 1, i, a, hi, ha, hr => by
    unfold pug
    by_cases h : pready P x i = true
    · rw [if_pos h]
      have key : ∀ b, b = i ∨ b = a → b < pn P → pready P x b = true := fun b hb hb2 => by
        rcases hb with rfl | rfl
        · exact h
        · exact hr hb2
      by_cases h1 : a = pn P
      · rw [if_pos h1]
        obtain ⟨c1, c2, c3⟩ := pug_spec (x := x) d (i + 1) i (by omega) (by omega) (fun _ => h)
        exact ⟨c1, c2, fun _ => c3 (Or.inl (by omega))⟩
      · rw [if_neg h1]
        by_cases h2 : pL P i < pL P a
        · rw [if_pos h2]
          obtain ⟨c1, c2, c3⟩ := pug_spec (x := x) d (i + 1) i (by omega) (by omega) (fun _ => h)
          exact ⟨c1, c2, fun _ => c3 (Or.inl (by omega))⟩
        · rw [if_neg h2]
          obtain ⟨c1, c2, c3⟩ := pug_spec (x := x) d (i + 1) a (by omega) ha hr
          exact ⟨c1, c2, fun _ => c3 (Or.inl (by omega))⟩
    · rw [if_neg h]
      obtain ⟨c1, c2, c3⟩ := pug_spec (x := x) d (i + 1) a (by omega) ha hr
      refine ⟨c1, c2, fun hh => c3 ?_⟩
      rcases hh with hh | ⟨r, h1, h2, h3⟩
      · exact Or.inl hh
      · refine Or.inr ⟨r, ?_, h2, h3⟩
        rcases Nat.lt_or_ge i r with h4 | h4
        · exact h4
        · have : r = i := by omega
          rw [this] at h3
          exact absurd h3 h
theorem pur_spec (W : PW P) {x : Int32} {t : Nat} (ht : t < pn P) (hx : qbit x t = false) : pur P x < pn P ∧ pready P x (pur P x) = true := by
  obtain ⟨r, hr, hrr⟩ := g_ready W ht hx
  obtain ⟨c1, c2, c3⟩ := pug_spec (P := P) (x := x) (pn P) 0 (pn P) (by omega) (Nat.le_refl _) (fun h => by omega)
  have := c3 (Or.inr ⟨r, Nat.zero_le _, hr, hrr⟩)
  exact ⟨this, c2 this⟩
theorem ps0_spec (W : PW P) {lev : Nat → Nat} {t B : Nat} (ht : t < pn P) (hB : B ≤ 1000) (h30 : 30 ≤ B) (hl : ∀ u, u < pn P → ped P t u = true → lev u + pdn P u ≤ B) : psoon P (fun u => nI (lev u)) t = nI (ps0 P lev t) ∧ ps0 P lev t ≤ B := by
  have h1 := psoon_ge P (fun u => nI (lev u)) t
  rw [i_le] at h1
  have h2 := (W.2.1 t ht).2.2.2.1
  have h3 : (psoon P (fun u => nI (lev u)) t).toInt ≤ (B : Int) := by
    rw [psoon_le]
    refine ⟨by omega, fun u hu e => ?_⟩
    have h4 := hl u hu e
    rw [(W.dn hu).1, nI_add, nI_toInt (by omega)]
    omega
  unfold ps0
  exact ⟨i_nI (by omega) (by omega), by omega⟩
theorem pU_none {x : Int32} {lev : Nat → Nat} {r d B : Nat} (h : ∀ u, qbit x u = true → lev u + pdn P u ≤ B) (hd : B ≤ d) : pU P x lev r d = 0 := by
  refine gsum_zero _ (fun i _ => if_neg (fun hh => ?_))
  have := h i hh.1
  omega
/-- a task finds its day by B, when all that is placed ends by B -/
theorem plow_ok (W : PW P) {x : Int32} {lev : Nat → Nat} {t B : Nat} (ht : t < pn P) (hB : B ≤ 130) (h30 : 30 ≤ B) (h : ∀ u, qbit x u = true → lev u + pdn P u ≤ B) (hr : ∀ u, ped P t u = true → qbit x u = true) :
    psoon P (fun u => nI (lev u)) t = nI (ps0 P lev t) ∧ ps0 P lev t ≤ plow P x lev t 200 (ps0 P lev t) ∧ plow P x lev t 200 (ps0 P lev t) ≤ B ∧ pfit P x lev t (plow P x lev t 200 (ps0 P lev t)) = true := by
  obtain ⟨a1, a2⟩ := ps0_spec W (lev := lev) ht (by omega) h30 (fun u hu e => h u (hr u e))
  have hf : pfit P x lev t B = true := by
    refine pfd_iff.mpr (fun d h1 h2 => ?_)
    rw [pU_none h h1]
    have b1 := (W.mn ht).2.2
    have b2 := (W.ln (W.rn ht).2).2.1
    omega
  obtain ⟨b1, b2, b3⟩ := plow_spec (P := P) (x := x) (lev := lev) (t := t) 200 (ps0 P lev t) B a2 (by omega) hf
  exact ⟨a1, b1, b2, b3⟩
/-- the stages: i tasks are placed, they end by 30 + 9 i -/
theorem pst_spec (W : PW P) : ∀ i, i ≤ pn P → gcnt (fun u => qbit (pst P i).1 u) (pn P) = i ∧ (∀ u, qbit (pst P i).1 u = true → u < pn P ∧ (pst P i).2 u + pdn P u ≤ 30 + 9 * i ∧ ∀ v, ped P u v = true → qbit (pst P i).1 v = true) := by
  have hn := W.1
  intro i
  induction i with
  | zero =>
    intro _
    exact ⟨gcnt_none (fun u => qbit_0 u) _, fun u hu => by rw [pst, qbit_0] at hu; cases hu⟩
  | succ i ih =>
    intro hi
    obtain ⟨h1, h2⟩ := ih (by omega)
    obtain ⟨t, ht, hx⟩ := gcnt_some (p := fun u => qbit (pst P i).1 u) (k := pn P) (by omega)
    obtain ⟨u1, u2⟩ := pur_spec W ht hx
    obtain ⟨u3, u4⟩ := pready_iff.mp u2
    have hbit : ∀ u, qbit (pst P (i + 1)).1 u = (qbit (pst P i).1 u || decide (pur P (pst P i).1 = u)) := fun u => qbit_put (by omega)
    refine ⟨?_, fun u hu => ?_⟩
    · rw [gcnt_put (p := fun u => qbit (pst P i).1 u) (x := pur P (pst P i).1) u3 (by show qbit (pst P (i + 1)).1 _ = true; rw [hbit]; simp) (fun u hu => by show qbit (pst P (i + 1)).1 u = qbit (pst P i).1 u; rw [hbit]; simp [Ne.symm hu]), h1, if_pos u1]
    · obtain ⟨p1, p2, p3, p4⟩ := plow_ok W (x := (pst P i).1) (lev := (pst P i).2) (B := 30 + 9 * i) u1 (by omega) (by omega) (fun u hu => (h2 u hu).2.1) (fun v e => u4 v (by have := W.ed_lt u1 e; omega) e)
      have hl : ∀ u, (pst P (i + 1)).2 u = if u = pur P (pst P i).1 then plow P (pst P i).1 (pst P i).2 (pur P (pst P i).1) 200 (ps0 P (pst P i).2 (pur P (pst P i).1)) else (pst P i).2 u := fun u => rfl
      rw [hbit, Bool.or_eq_true, decide_eq_true_iff] at hu
      rw [hl]
      by_cases e : u = pur P (pst P i).1
      · rw [if_pos e]
        subst e
        refine ⟨u1, by have := (W.dn u1).2.2; omega, fun v e => ?_⟩
        rw [hbit, u4 v (by have := W.ed_lt u1 e; omega) e]
        rfl
      · rw [if_neg e]
        rcases hu with hu | hu
        · obtain ⟨c1, c2, c3⟩ := h2 u hu
          refine ⟨c1, by omega, fun v e => ?_⟩
          rw [hbit, c3 v e]
          rfl
        · exact absurd hu.symm e
/-- a stage: who is placed, where -/
theorem pst_step (W : PW P) {i : Nat} (hi : i < pn P) : pur P (pst P i).1 < pn P ∧ pready P (pst P i).1 (pur P (pst P i).1) = true ∧ psoon P (fun u => nI ((pst P i).2 u)) (pur P (pst P i).1) = nI (ps0 P (pst P i).2 (pur P (pst P i).1)) ∧
    ps0 P (pst P i).2 (pur P (pst P i).1) ≤ plow P (pst P i).1 (pst P i).2 (pur P (pst P i).1) 200 (ps0 P (pst P i).2 (pur P (pst P i).1)) ∧ plow P (pst P i).1 (pst P i).2 (pur P (pst P i).1) 200 (ps0 P (pst P i).2 (pur P (pst P i).1)) + pdn P (pur P (pst P i).1) ≤ 138 ∧
    pfit P (pst P i).1 (pst P i).2 (pur P (pst P i).1) (plow P (pst P i).1 (pst P i).2 (pur P (pst P i).1) 200 (ps0 P (pst P i).2 (pur P (pst P i).1))) = true := by
  have hn := W.1
  obtain ⟨h1, h2⟩ := pst_spec W i (by omega)
  obtain ⟨t, ht, hx⟩ := gcnt_some (p := fun u => qbit (pst P i).1 u) (k := pn P) (by omega)
  obtain ⟨u1, u2⟩ := pur_spec W ht hx
  obtain ⟨u3, u4⟩ := pready_iff.mp u2
  obtain ⟨p1, p2, p3, p4⟩ := plow_ok W (x := (pst P i).1) (lev := (pst P i).2) (B := 30 + 9 * i) u1 (by omega) (by omega) (fun u hu => (h2 u hu).2.1) (fun v e => u4 v (by have := W.ed_lt u1 e; omega) e)
  exact ⟨u1, u2, p1, p2, by have := (W.dn u1).2.2; omega, p4⟩
/-- placing one more -/
theorem pU_put {x : Int32} {lev : Nat → Nat} {t s : Nat} (ht : t < pn P) (h32 : t < 32) (hx : qbit x t = false) (r d : Nat) :
    pU P (x ||| ((1 : Int32) <<< (nI t &&& 31))) (fun u => if u = t then s else lev u) r d = pU P x lev r d + (if prn P t = r ∧ s ≤ d ∧ d < s + pdn P t then pmn P t else 0) := by
  unfold pU
  rw [gsum_put (f := fun t => if qbit x t = true ∧ prn P t = r ∧ lev t ≤ d ∧ d < lev t + pdn P t then pmn P t else 0) (x := t) (v := if prn P t = r ∧ s ≤ d ∧ d < s + pdn P t then pmn P t else 0) ?_ ?_ (pn P), if_pos ht]
  · dsimp only
    simp [qbit_put h32, hx]
  · intro i hi
    dsimp only
    simp [qbit_put h32, hi, Ne.symm hi]
end LV

