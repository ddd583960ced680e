/-! numbers that don't run over; the starts by rounds -/
theorem i_add {a b : Int32} (h1 : -100000 ≤ a.toInt) (h2 : a.toInt ≤ 100000) (h3 : -100000 ≤ b.toInt) (h4 : b.toInt ≤ 100000) : (a + b).toInt = a.toInt + b.toInt := by
  rw [Int32.toInt_add]
  exact Int.bmod_eq_of_le (by omega) (by omega)
theorem i_sub {a b : Int32} (h1 : -100000 ≤ a.toInt) (h2 : a.toInt ≤ 100000) (h3 : -100000 ≤ b.toInt) (h4 : b.toInt ≤ 100000) : (a - b).toInt = a.toInt - b.toInt := by
  rw [Int32.toInt_sub]
  exact Int.bmod_eq_of_le (by omega) (by omega)
theorem i_mul {a b : Int32} (h1 : -10000 ≤ a.toInt) (h2 : a.toInt ≤ 10000) (h3 : 0 ≤ b.toInt) (h4 : b.toInt ≤ 200) : (a * b).toInt = a.toInt * b.toInt := by
  rw [Int32.toInt_mul]
  have k1 : a.toInt * b.toInt ≤ 10000 * b.toInt := Int.mul_le_mul_of_nonneg_right h2 h3
  have k2 : -10000 * b.toInt ≤ a.toInt * b.toInt := Int.mul_le_mul_of_nonneg_right h1 h3
  exact Int.bmod_eq_of_le (by omega) (by omega)
theorem i_max (a b : Int32) : (qmax a b).toInt = max a.toInt b.toInt := by
  unfold qmax
  split
  · rename_i h; rw [Int32.lt_iff_toInt_lt] at h; omega
  · rename_i h; rw [Int32.lt_iff_toInt_lt] at h; omega
theorem i_min (a b : Int32) : (qmin a b).toInt = min a.toInt b.toInt := by
  unfold qmin
  split
  · rename_i h; rw [Int32.lt_iff_toInt_lt] at h; omega
  · rename_i h; rw [Int32.lt_iff_toInt_lt] at h; omega
theorem i_le {a b : Int32} : a ≤ b ↔ a.toInt ≤ b.toInt := Int32.le_iff_toInt_le
theorem i_lt {a b : Int32} : a < b ↔ a.toInt < b.toInt := Int32.lt_iff_toInt_lt
theorem i_eq {a b : Int32} (h : a.toInt = b.toInt) : a = b := Int32.toInt_inj.mp h
/-- the greatest of some, the least of some -/
theorem fo_max {c : Nat → Bool} {v : Nat → Int32} (x : Int) : ∀ (d i : Nat) (a : Int32), (fo (fun u a => if c u = true then qmax a (v u) else a) d i a).toInt ≤ x ↔ a.toInt ≤ x ∧ ∀ u, i ≤ u → u < i + d → c u = true → (v u).toInt ≤ x
  | 0, i, a => by
    simp only [fo]
    exact ⟨fun h => ⟨h, fun u h1 h2 => by omega⟩, fun h => h.1⟩
  | d + 1, i, a => by
    simp only [fo]
    rw [fo_max x d (i + 1)]
    constructor
    · rintro ⟨h1, h2⟩
      by_cases e : c i = true
      · rw [if_pos e, i_max] at h1
        refine ⟨by omega, fun u hu hu2 eu => ?_⟩
        by_cases hui : u = i
        · subst hui; omega
        · exact h2 u (by omega) (by omega) eu
      · rw [if_neg e] at h1
        refine ⟨h1, fun u hu hu2 eu => ?_⟩
        by_cases hui : u = i
        · subst hui; exact absurd eu e
        · exact h2 u (by omega) (by omega) eu
    · rintro ⟨h1, h2⟩
      refine ⟨?_, fun u hu hu2 eu => h2 u (by omega) (by omega) eu⟩
      by_cases e : c i = true
      · rw [if_pos e, i_max]
        have := h2 i (Nat.le_refl _) (by omega) e
        omega
      · rw [if_neg e]; exact h1
theorem fo_min {c : Nat → Bool} {v : Nat → Int32} (x : Int) : ∀ (d i : Nat) (a : Int32), x ≤ (fo (fun u a => if c u = true then qmin a (v u) else a) d i a).toInt ↔ x ≤ a.toInt ∧ ∀ u, i ≤ u → u < i + d → c u = true → x ≤ (v u).toInt
  | 0, i, a => by
    simp only [fo]
    exact ⟨fun h => ⟨h, fun u h1 h2 => by omega⟩, fun h => h.1⟩
  | d + 1, i, a => by
    simp only [fo]
    rw [fo_min x d (i + 1)]
    constructor
    · rintro ⟨h1, h2⟩
      by_cases e : c i = true
      · rw [if_pos e, i_min] at h1
        refine ⟨by omega, fun u hu hu2 eu => ?_⟩
        by_cases hui : u = i
        · subst hui; omega
        · exact h2 u (by omega) (by omega) eu
      · rw [if_neg e] at h1
        refine ⟨h1, fun u hu hu2 eu => ?_⟩
        by_cases hui : u = i
        · subst hui; exact absurd eu e
        · exact h2 u (by omega) (by omega) eu
    · rintro ⟨h1, h2⟩
      refine ⟨?_, fun u hu hu2 eu => h2 u (by omega) (by omega) eu⟩
      by_cases e : c i = true
      · rw [if_pos e, i_min]
        have := h2 i (Nat.le_refl _) (by omega) e
        omega
      · rw [if_neg e]; exact h1
section IM
variable {P : qP}
theorem psoon_le {f : Nat → Int32} {t : Nat} {x : Int} : (psoon P f t).toInt ≤ x ↔ (pf P 3 t).toInt ≤ x ∧ ∀ u, u < pn P → ped P t u = true → (f u + pf P 0 u).toInt ≤ x := by
  unfold psoon
  rw [fo_max (c := fun u => ped P t u) (v := fun u => f u + pf P 0 u)]
  exact ⟨fun h => ⟨h.1, fun u hu e => h.2 u (Nat.zero_le _) (by omega) e⟩, fun h => ⟨h.1, fun u _ hu e => h.2 u (by omega) e⟩⟩
/-- the earliest starts are small -/
theorem pE_bd (W : PW P) : ∃ h : Nat → Nat, (∀ t u, t < pn P → ped P t u = true → h u < h t) ∧ (∀ t, t < pn P → h t < pn P) ∧ ∀ t, t < pn P → 0 ≤ (pE P t).toInt ∧ (pE P t).toInt ≤ 30 + 9 * (h t : Int) := by
  have hc : ∀ t u, t < pn P → ped P t u = true → u < pn P := fun t u h1 h2 => W.ed_lt h1 h2
  have hn := W.1
  obtain ⟨h, hh, hb⟩ := g_rank hc W.2.2.2.1
  have hE := pE_is W
  refine ⟨h, hh, hb, ?_⟩
  have key : ∀ k t, t < pn P → h t ≤ k → 0 ≤ (pE P t).toInt ∧ (pE P t).toInt ≤ 30 + 9 * (h t : Int) := by
    intro k
    induction k with
    | zero =>
      intro t ht h0
      have h1 := hE.ge W ht
      rw [i_le] at h1
      refine ⟨h1, ?_⟩
      rw [hE t ht, psoon_le]
      refine ⟨?_, fun u hu e => ?_⟩
      · have := (W.2.1 t ht).2.2.2.1; omega
      · have := hh t u ht e; omega
    | succ k ih =>
      intro t ht h0
      have h1 := hE.ge W ht
      rw [i_le] at h1
      refine ⟨h1, ?_⟩
      rw [hE t ht, psoon_le]
      refine ⟨?_, fun u hu e => ?_⟩
      · have := (W.2.1 t ht).2.2.2.1; omega
      · have h2 := hh t u ht e
        have h3 := ih u hu (by omega)
        have h4 := (W.2.1 u hu).1
        have h5 := hb u hu
        rw [i_add (by omega) (by omega) (by omega) (by omega)]
        omega
  exact fun t ht => key (h t) t ht (Nat.le_refl _)
theorem pE_small (W : PW P) {t : Nat} (ht : t < pn P) : 0 ≤ (pE P t).toInt ∧ (pE P t).toInt ≤ 129 := by
  obtain ⟨h, -, hb, hE⟩ := pE_bd W
  have := hb t ht
  have := hE t ht
  have := W.1
  omega
/-- starts between the releases and the earliest -/
def IBt (P : qP) (f : Nat → Int32) : Prop := ∀ t, t < pn P → 0 ≤ (f t).toInt ∧ (f t).toInt ≤ (pE P t).toInt
theorem psoon_below (W : PW P) {f : Nat → Int32} (hf : IBt P f) {t : Nat} (ht : t < pn P) : (psoon P f t).toInt ≤ (pE P t).toInt := by
  rw [psoon_le]
  have h1 : (psoon P (pE P) t).toInt ≤ (pE P t).toInt := by rw [← pE_is W t ht]; exact Int.le_refl _
  rw [psoon_le] at h1
  refine ⟨h1.1, fun u hu e => ?_⟩
  have h2 := h1.2 u hu e
  have h3 := hf u hu
  have h4 := (W.2.1 u hu).1
  have h5 := pE_small W hu
  rw [i_add (by omega) (by omega) (by omega) (by omega)] at h2 ⊢
  omega
theorem c_improve_loop {j : Nat} (W : PW P) {f0 : Nat → Int32} (h0 : IBt P f0) : ∀ (d i m : Nat) (fl : Bool) (σ : qS), i + d = pn P → d < m → Rep σ j P → IBt P (σ 15 0) → (∀ t, t < pn P → (f0 t).toInt ≤ (σ 15 0 t).toInt) →
    (∀ t, t < i → (∀ u, u < pn P → ped P t u = true → f0 u = pE P u) → σ 15 0 t = pE P t) → (fl = false → (∀ t, t < pn P → σ 15 0 t = f0 t) ∧ ∀ t, t < i → (psoon P f0 t).toInt ≤ (f0 t).toInt) →
    ∃ (σ' : qS) (fl' : Bool), l_X4_improve_4 j m (qb1 fl) (nI i) σ = qan (qb1 fl') σ' ∧ qsm [15] σ σ' ∧ IBt P (σ' 15 0) ∧ (∀ t, t < pn P → (∀ u, u < pn P → ped P t u = true → f0 u = pE P u) → σ' 15 0 t = pE P t) ∧ (fl' = false → (∀ t, t < pn P → σ' 15 0 t = f0 t) ∧ ∀ t, t < pn P → (psoon P f0 t).toInt ≤ (f0 t).toInt) := by
  have hn := W.1
  intro d
  induction d with
  | zero =>
    intro i m fl σ hi hm H hB hge h1 h2
    obtain ⟨m, rfl⟩ : ∃ m', m = m' + 1 := ⟨m - 1, by omega⟩
    have hi : i = pn P := by omega
    subst hi
    refine ⟨σ, fl, ?_, qsm.refl _ _, hB, h1, h2⟩
    simp only [l_X4_improve_4, b_X4_improve_4]
    rw [if_pos (by rw [H.1]; exact Int32.le_refl _), if_pos (qb1_bo _)]
  | succ d ih =>
    intro i m fl σ hi hm H hB hge h1 h2
    obtain ⟨m, rfl⟩ : ∃ m', m = m' + 1 := ⟨m - 1, by omega⟩
    have hin : i < pn P := by omega
    simp only [l_X4_improve_4, b_X4_improve_4]
    rw [if_neg (by rw [H.1]; exact nI_ge (by omega) (by omega)), c_soonest W H rfl hin, qb_I, e_at (show i < 12 by omega) (by decide), qb_I]
    have hlow := psoon_below W hB hin
    have hfull : (∀ u, u < pn P → ped P i u = true → f0 u = pE P u) → psoon P (σ 15 0) i = pE P i := by
      intro hu
      rw [pE_is W i hin]
      refine psoon_congr (fun u hu2 e => i_eq ?_)
      have a1 := hge u hu2
      have a2 := hB u hu2
      rw [hu u hu2 e] at a1
      omega
    by_cases hle : psoon P (σ 15 0) i ≤ σ 15 0 i
    · rw [if_pos hle, nI_1]
      rw [i_le] at hle
      refine ih (i + 1) m fl σ (by omega) (by omega) H hB hge (fun t ht hu => ?_) (fun hf => ?_)
      · by_cases hti : t = i
        · subst hti
          have a1 := hfull hu
          have a2 := hB t hin
          rw [a1] at hle
          exact i_eq (by omega)
        · exact h1 t (by omega) hu
      · obtain ⟨k1, k2⟩ := h2 hf
        refine ⟨k1, fun t ht => ?_⟩
        by_cases hti : t = i
        · subst hti
          rw [← k1 t hin]
          rw [psoon_congr (f := f0) (f' := σ 15 0) (fun u hu _ => (k1 u hu).symm)]
          exact hle
        · exact k2 t (by omega)
    · rw [if_neg hle, e_put (show i < 12 by omega) (by decide), qb_V, nI_1]
      rw [i_le] at hle
      have q1 := qsm_qu σ 15 0 i (psoon P (σ 15 0) i)
      have hee : qu σ 15 0 i (psoon P (σ 15 0) i) 15 0 i = psoon P (σ 15 0) i := by rw [qu_at, if_pos ⟨rfl, rfl, rfl⟩]
      have hne : ∀ t, t ≠ i → qu σ 15 0 i (psoon P (σ 15 0) i) 15 0 t = σ 15 0 t := fun t ht => by rw [qu_at, if_neg (fun h => ht h.2.2)]
      have hB' : IBt P (qu σ 15 0 i (psoon P (σ 15 0) i) 15 0) := by
        intro t ht
        by_cases hti : t = i
        · subst hti
          rw [hee]
          have := hB t hin
          omega
        · rw [hne t hti]; exact hB t ht
      obtain ⟨σ2, fl2, e2, q2, b2, r2, r3⟩ := ih (i + 1) m true (qu σ 15 0 i (psoon P (σ 15 0) i)) (by omega) (by omega) (H.same q1 (by simp)) hB' (fun t ht => by
        by_cases hti : t = i
        · subst hti; rw [hee]; have := hge t hin; omega
        · rw [hne t hti]; exact hge t ht) (fun t ht hu => by
        by_cases hti : t = i
        · subst hti; rw [hee]; exact hfull hu
        · rw [hne t hti]; exact h1 t (by omega) hu) (fun hf => by cases hf)
      exact ⟨σ2, fl2, e2, q1.trans q2, b2, r2, r3⟩
theorem c_improve {j : Nat} (W : PW P) {σ : qS} (H : Rep σ j P) (hB : IBt P (σ 15 0)) : ∃ (σ' : qS) (fl' : Bool), f_X4_improve j σ = qan (qb1 fl') σ' ∧ qsm [15] σ σ' ∧ IBt P (σ' 15 0) ∧ (∀ t, t < pn P → (∀ u, u < pn P → ped P t u = true → σ 15 0 u = pE P u) → σ' 15 0 t = pE P t) ∧ (fl' = false → (∀ t, t < pn P → σ' 15 0 t = σ 15 0 t) ∧ ∀ t, t < pn P → (psoon P (σ 15 0) t).toInt ≤ (σ 15 0 t).toInt) := by
  have hn := W.1
  exact c_improve_loop W hB (pn P) 0 qFU false σ (by omega) (by unfold qFU; omega) H hB (fun _ _ => Int.le_refl _) (fun t ht => by omega) (fun _ => ⟨fun _ _ => rfl, fun t ht => by omega⟩)
/-- nothing moves any more: these are the earliest -/
theorem pE_still (W : PW P) {f : Nat → Int32} (hB : IBt P f) (hs : ∀ t, t < pn P → (psoon P f t).toInt ≤ (f t).toInt) : ∀ t, t < pn P → f t = pE P t := by
  obtain ⟨h, hh⟩ := W.2.2.2.1
  have key : ∀ k t, t < pn P → h t ≤ k → f t = pE P t := by
    intro k
    induction k with
    | zero =>
      intro t ht h0
      have a1 : psoon P f t = pE P t := by rw [pE_is W t ht]; exact psoon_congr (fun u hu e => by have := hh t u ht e; omega)
      have a2 := hs t ht
      have a3 := hB t ht
      rw [a1] at a2
      exact i_eq (by omega)
    | succ k ih =>
      intro t ht h0
      have a1 : psoon P f t = pE P t := by rw [pE_is W t ht]; exact psoon_congr (fun u hu e => ih u hu (by have := hh t u ht e; omega))
      have a2 := hs t ht
      have a3 := hB t ht
      rw [a1] at a2
      exact i_eq (by omega)
  exact fun t ht => key (h t) t ht (Nat.le_refl _)
theorem c_findImproved_loop {j : Nat} (W : PW P) {h : Nat → Nat} (hh : ∀ t u, t < pn P → ped P t u = true → h u < h t) (hb : ∀ t, t < pn P → h t < pn P) : ∀ (d r m : Nat) (fl : Bool) (σ : qS), r + d = 12 → d < m → Rep σ j P → IBt P (σ 15 0) → (∀ t, t < pn P → h t < r → σ 15 0 t = pE P t) → (fl = false → ∀ t, t < pn P → σ 15 0 t = pE P t) →
    ∃ σ', l_X4_findImproved_15 j m (qb1 fl) (nI r) σ = qdo σ' ∧ qsm [15] σ σ' ∧ ∀ t, t < pn P → σ' 15 0 t = pE P t := by
  have hn := W.1
  intro d
  induction d with
  | zero =>
    intro r m fl σ hr hm H hB h1 h2
    obtain ⟨m, rfl⟩ : ∃ m', m = m' + 1 := ⟨m - 1, by omega⟩
    simp only [l_X4_findImproved_15, b_X4_findImproved_15]
    refine ⟨σ, ?_, qsm.refl _ _, fun t ht => h1 t ht (by have := hb t ht; omega)⟩
    by_cases hf : qb1 fl = 0
    · rw [if_pos hf]
    · rw [if_neg hf, if_pos (by rw [show (12 : Int32) = nI 12 from rfl]; exact nI_le (by omega) (by omega))]
  | succ d ih =>
    intro r m fl σ hr hm H hB h1 h2
    obtain ⟨m, rfl⟩ : ∃ m', m = m' + 1 := ⟨m - 1, by omega⟩
    simp only [l_X4_findImproved_15, b_X4_findImproved_15]
    by_cases hf : qb1 fl = 0
    · rw [if_pos hf]
      exact ⟨σ, rfl, qsm.refl _ _, h2 ((qb1_0 fl).mp hf)⟩
    · obtain ⟨σ1, fl1, e1, q1, b1, r1, r2⟩ := c_improve W H hB
      rw [if_neg hf, if_neg (by rw [show (12 : Int32) = nI 12 from rfl]; exact nI_ge (by omega) (by omega)), e1, qb_I, nI_1]
      obtain ⟨σ2, e2, q2, r3⟩ := ih (r + 1) m fl1 σ1 (by omega) (by omega) (H.same q1 (by simp)) b1 (fun t ht ht2 => r1 t ht (fun u hu e => h1 u hu (by have := hh t u ht e; omega))) (fun hf1 => by
        obtain ⟨k1, k2⟩ := r2 hf1
        intro t ht
        rw [k1 t ht]
        exact pE_still W hB k2 t ht)
      exact ⟨σ2, e2, q1.trans q2, r3⟩
theorem c_findImproved {j : Nat} (W : PW P) {σ : qS} (H : Rep σ j P) : ∃ σ', f_X4_findImproved j σ = qdo σ' ∧ qsm [15] σ σ' ∧ ∀ t, t < pn P → σ' 15 0 t = pE P t := by
  have hn := W.1
  have hc : ∀ t u, t < pn P → ped P t u = true → u < pn P := fun t u h1 h2 => W.ed_lt h1 h2
  obtain ⟨h, hh, hb⟩ := g_rank hc W.2.2.2.1
  obtain ⟨σ1, e1, e2, e3⟩ := e_copyRow (k1 := 5) (j1 := j) (k2 := 15) (j2 := 0) (L := 12) rfl rfl (by decide) (fun h => by cases h.1) σ
  have q1 : qsm [15] σ σ1 := fun a b ha => e2 a b (fun h => ha (by rw [h.1]; exact List.mem_singleton.mpr rfl))
  have hrow : ∀ t, t < pn P → σ1 15 0 t = pf P 3 t := fun t ht => by rw [e3 t (by omega)]; exact H.2.1 3 t (by decide) ht
  obtain ⟨σ2, a1, a2, a3⟩ := c_findImproved_loop (j := j) W hh hb 12 0 qFU true σ1 (by omega) (by unfold qFU; omega) (H.same q1 (by simp)) (fun t ht => by
    rw [hrow t ht]
    have := psoon_ge P (pE P) t
    rw [← pE_is W t ht, i_le] at this
    exact ⟨(W.2.1 t ht).2.2.2.1.1, this⟩) (fun t ht h0 => by omega) (fun hf => by cases hf)
  refine ⟨σ2, ?_, q1.trans a2, a3⟩
  unfold f_X4_findImproved
  rw [e1, qb_V]
  exact a1
end IM

