/-! levelling in the class -/
def qno (P : qP) (a : Nat) : Int32 := if a = pn P then -1 else nI a
theorem n_ne (a : Nat) (h : a < 2 ^ 31) : ¬ nI a = (-1 : Int32) := by
  intro e
  have := congrArg Int32.toInt e
  rw [nI_toInt h] at this
  have h2 : (-1 : Int32).toInt = -1 := by decide
  omega
theorem qno_m (P : qP) : qno P (pn P) = -1 := if_pos rfl
theorem qno_n {P : qP} {a : Nat} (h : a ≠ pn P) : qno P a = nI a := if_neg h
theorem n_mul (a b : Nat) : nI a * nI b = nI (a * b) := by simp [nI, Int32.ofNat_mul]
theorem n_sub {a b : Nat} (h : b ≤ a) : nI a - nI b = nI (a - b) := by
  have e : nI a = nI (a - b) + nI b := by rw [nI_add]; congr 1; omega
  rw [e, Int32.add_sub_cancel]
def pend (P : qP) : Nat → Nat
  | 0 => 0
  | i + 1 => max (pend P i) (plow P (pst P i).1 (pst P i).2 (pur P (pst P i).1) 200 (ps0 P (pst P i).2 (pur P (pst P i).1)) + pdn P (pur P (pst P i).1))
theorem pend_s (P : qP) (i : Nat) : pend P (i + 1) = max (pend P i) (plow P (pst P i).1 (pst P i).2 (pur P (pst P i).1) 200 (ps0 P (pst P i).2 (pur P (pst P i).1)) + pdn P (pur P (pst P i).1)) := rfl
theorem pst0 (P : qP) (u : Nat) : qbit (pst P 0).1 u = false := qbit_0 u
section LC2
variable {P : qP} {j : Nat}
theorem c_urgent_loop (W : PW P) {x : Int32} {σ : qS} (H : Rep σ j P) (h16 : ∀ t, t < pn P → σ 16 0 t = pL P t) : ∀ (d i m a : Nat), i + d = pn P → d < m → a ≤ pn P → l_X4_mostUrgent_5 j m x (qno P a) (nI i) σ = qan (qno P (pug P x d i a)) σ := by
  have hn := W.1
  intro d
  induction d with
  | zero =>
    intro i m a hi hm ha
    obtain ⟨m, rfl⟩ : ∃ m', m = m' + 1 := ⟨m - 1, by omega⟩
    simp only [l_X4_mostUrgent_5, b_X4_mostUrgent_5, pug]
    rw [if_pos (by rw [H.1]; exact nI_le (by omega) (by omega))]
  | succ d ih =>
    intro i m a hi hm ha
    obtain ⟨m, rfl⟩ : ∃ m', m = m' + 1 := ⟨m - 1, by omega⟩
    have at16 : ∀ t, t < pn P → f_X7_at 16 0 (nI t) σ = qan (pL P t) σ := fun t ht => by rw [e_at (show t < 12 by omega) (by decide), h16 t ht]
    simp only [l_X4_mostUrgent_5, b_X4_mostUrgent_5, pug]
    rw [if_neg (by rw [H.1]; exact nI_ge (by omega) (by omega)), c_ready H W (by omega), qb_I, nI_1]
    have hii : nI i = qno P i := (qno_n (by omega)).symm
    by_cases hr : pready P x i = true
    · rw [hr, if_neg (by decide), if_pos rfl]
      by_cases ha0 : a = pn P
      · subst ha0
        rw [if_pos (qno_m P), if_pos rfl, hii, ih (i + 1) m i (by omega) (by omega) (by omega)]
      · rw [qno_n ha0, if_neg (n_ne a (by omega)), at16 i (by omega), qb_I, at16 a (by omega), qb_I, if_neg ha0]
        by_cases hl : pL P i < pL P a
        · rw [if_neg (Int32.not_le.mpr hl), if_pos hl, hii, ih (i + 1) m i (by omega) (by omega) (by omega)]
        · rw [if_pos (Int32.not_lt.mp hl), if_neg hl, ← qno_n (P := P) ha0, ih (i + 1) m a (by omega) (by omega) ha]
    · rw [show pready P x i = false by simpa using hr, if_pos (by rfl), if_neg (by decide), ih (i + 1) m a (by omega) (by omega) ha]
theorem c_urgent (W : PW P) {x : Int32} {σ : qS} (H : Rep σ j P) (h16 : ∀ t, t < pn P → σ 16 0 t = pL P t) (hu : pur P x < pn P) : f_X4_mostUrgent j x σ = qan (nI (pur P x)) σ := by
  have hn := W.1
  have := c_urgent_loop W (x := x) H h16 (pn P) 0 qFU (pn P) (by omega) (by unfold qFU; omega) (Nat.le_refl _)
  rw [qno_m, show pug P x (pn P) 0 (pn P) = pur P x from rfl, qno_n (by omega)] at this
  exact this
/-- what levelling has so far -/
def LvC (P : qP) (σ : qS) (x : Int32) (lev : Nat → Nat) : Prop := (∀ t, t < pn P → qbit x t = true → σ 17 0 t = nI (lev t)) ∧ ∀ r d, r < 3 → d < 138 → σ 18 0 (138 * r + d) = nI (pU P x lev r d)
theorem c_fits_loop (W : PW P) {x : Int32} {lev : Nat → Nat} {σ : qS} (HL : LvC P σ x lev) {t : Nat} (ht : t < pn P) : ∀ (k d m : Nat), d + k ≤ 138 → k < m →
    l_X4_fits_53 j m (nI (138 * prn P t)) (nI (pln P (prn P t) - pmn P t)) (nI (d + k)) (nI d) σ = qan (qb1 (pfd P x lev t k d)) σ := by
  have hr := (W.rn ht).2
  have h5 := (W.mn ht).2.2
  have h6 := (W.ln hr).2
  intro k
  induction k with
  | zero =>
    intro d m hd hm
    obtain ⟨m, rfl⟩ : ∃ m', m = m' + 1 := ⟨m - 1, by omega⟩
    simp only [l_X4_fits_53, b_X4_fits_53, pfd]
    rw [Nat.add_zero, if_pos (Int32.le_refl _)]
    rfl
  | succ k ih =>
    intro d m hd hm
    obtain ⟨m, rfl⟩ : ∃ m', m = m' + 1 := ⟨m - 1, by omega⟩
    have hu := pU_le W (x := x) (lev := lev) (r := prn P t) (d := d)
    simp only [l_X4_fits_53, b_X4_fits_53, pfd]
    rw [if_neg (nI_ge (by omega) (by omega)), nI_add, e_at (show 138 * prn P t + d < 414 by omega) (by decide), qb_I, HL.2 _ d hr (by omega)]
    by_cases hc : pU P x lev (prn P t) d + pmn P t ≤ pln P (prn P t)
    · rw [if_pos (nI_le (by omega) (by omega)), decide_eq_true hc, Bool.true_and, nI_1]
      have := ih (d + 1) m (by omega) (by omega)
      rw [show d + 1 + k = d + (k + 1) by omega] at this
      exact this
    · rw [if_neg (nI_ge (by omega) (by omega)), decide_eq_false hc]
      rfl
theorem c_fits (W : PW P) {x : Int32} {lev : Nat → Nat} {σ : qS} (H : Rep σ j P) (HL : LvC P σ x lev) {t s : Nat} (ht : t < pn P) (hs : s + pdn P t ≤ 138) : f_X4_fits j (nI t) (nI s) σ = qan (qb1 (pfit P x lev t s)) σ := by
  have hr := (W.rn ht).2
  have h5 := (W.mn ht).2.2
  have h6 := (W.ln hr).2
  have h7 := (W.dn ht).2
  unfold f_X4_fits
  rw [c_res H W ht, qb_I, (W.rn ht).1, c_lim H hr, qb_I, c_dem H W ht, qb_I, c_dur H W ht, qb_I, (W.ln hr).1, (W.mn ht).1, (W.dn ht).1, nI_add, n_sub (by omega), show (138 : Int32) = nI 138 from rfl, n_mul, Nat.mul_comm (prn P t) 138]
  exact c_fits_loop W HL ht (pdn P t) s qFU hs (by unfold qFU; omega)
theorem c_low_loop (W : PW P) {x : Int32} {lev : Nat → Nat} {σ : qS} (H : Rep σ j P) (HL : LvC P σ x lev) {t D : Nat} (ht : t < pn P) (hD : D + pdn P t ≤ 138) (hf : pfit P x lev t D = true) : ∀ (k s m : Nat), s ≤ D → D < s + k → k < m →
    l_X4_lowestFit_10 j m (nI t) (nI s) σ = qan (nI (plow P x lev t k s)) σ := by
  have h7 := (W.dn ht).2
  intro k
  induction k with
  | zero => intro s m h1 h2; omega
  | succ k ih =>
    intro s m h1 h2 hm
    obtain ⟨m, rfl⟩ : ∃ m', m = m' + 1 := ⟨m - 1, by omega⟩
    simp only [l_X4_lowestFit_10, b_X4_lowestFit_10, plow]
    rw [if_neg (by rw [show (138 : Int32) = nI 138 from rfl]; exact nI_ge (by omega) (by omega)), c_fits W H HL ht (by omega), qb_I]
    by_cases h : pfit P x lev t s = true
    · rw [h, if_neg (by decide), if_pos rfl]
    · have hsD : s ≠ D := fun e => h (e ▸ hf)
      rw [show pfit P x lev t s = false by simpa using h, if_pos (by rfl), if_neg (by decide), nI_1, ih (s + 1) m (by omega) (by omega) (by omega)]
theorem c_place_loop (W : PW P) {t : Nat} (ht : t < pn P) : ∀ (k d m : Nat) (σ : qS), d + k ≤ 138 → k < m → Rep σ j P →
    ∃ σ', l_X4_place_38 j m (nI t) (nI (138 * prn P t)) (nI (d + k)) (nI d) σ = qdo σ' ∧ qsm [18, 11] σ σ' ∧ (∀ y, σ' 18 0 y = if 138 * prn P t + d ≤ y ∧ y < 138 * prn P t + d + k then σ 18 0 y + nI (pmn P t) else σ 18 0 y) ∧ σ' 11 0 8 = qmax (σ 11 0 8) (nI (d + k)) ∧ (∀ y, ¬ y = 8 → σ' 11 0 y = σ 11 0 y) := by
  have hr := (W.rn ht).2
  intro k
  induction k with
  | zero =>
    intro d m σ hd hm H
    obtain ⟨m, rfl⟩ : ∃ m', m = m' + 1 := ⟨m - 1, by omega⟩
    simp only [l_X4_place_38, b_X4_place_38]
    simp only [Nat.add_zero]
    rw [if_pos (Int32.le_refl _), qlet_eq]
    refine ⟨_, rfl, (qsm_qu σ 11 0 8 _).mono (by simp), fun y => ?_, by rw [qu_at, if_pos ⟨rfl, rfl, rfl⟩], fun y hy => by rw [qu_at, if_neg (fun h => hy h.2.2)]⟩
    rw [if_neg (by omega), qu_at, if_neg (by simp)]
  | succ k ih =>
    intro d m σ hd hm H
    obtain ⟨m, rfl⟩ : ∃ m', m = m' + 1 := ⟨m - 1, by omega⟩
    simp only [l_X4_place_38, b_X4_place_38]
    have hy : 138 * prn P t + d < 414 := by omega
    rw [if_neg (nI_ge (by omega) (by omega)), nI_add, e_at (show 138 * prn P t + d < qlen 18 from hy) (by decide), qb_I, c_dem H W ht, qb_I, (W.mn ht).1, e_put (show 138 * prn P t + d < qlen 18 from hy) (by decide), qb_V, nI_1]
    have q1 := qsm_qu σ 18 0 (138 * prn P t + d) (σ 18 0 (138 * prn P t + d) + nI (pmn P t))
    obtain ⟨σ2, e2, q2, r1, r2, r3⟩ := ih (d + 1) m (qu σ 18 0 (138 * prn P t + d) (σ 18 0 (138 * prn P t + d) + nI (pmn P t))) (by omega) (by omega) (H.same q1 (by simp))
    rw [show d + 1 + k = d + (k + 1) by omega] at e2 r2
    refine ⟨σ2, e2, (q1.mono (by simp)).trans q2, fun y => ?_, by rw [r2, q1 11 0 (by simp)], fun y hy => by rw [r3 y hy, q1 11 0 (by simp)]⟩
    rw [r1 y, qu_at]
    by_cases e : y = 138 * prn P t + d
    · rw [if_neg (by omega), if_pos ⟨rfl, rfl, e⟩, if_pos (by omega), e]
    · rw [if_neg (show ¬ (18 = 18 ∧ 0 = 0 ∧ y = 138 * prn P t + d) from fun h => e h.2.2)]
      by_cases h : 138 * prn P t + (d + 1) ≤ y ∧ y < 138 * prn P t + (d + 1) + k
      · rw [if_pos h, if_pos (by omega)]
      · rw [if_neg h, if_neg (by omega)]
theorem c_place (W : PW P) {x : Int32} {lev : Nat → Nat} {σ : qS} (H : Rep σ j P) (HL : LvC P σ x lev) {t s : Nat} (ht : t < pn P) (hx : qbit x t = false) (hs : s + pdn P t ≤ 138) :
    ∃ σ', f_X4_place j (nI t) (nI s) σ = qdo σ' ∧ qsm [17, 18, 11] σ σ' ∧ LvC P σ' (x ||| ((1 : Int32) <<< (nI t &&& 31))) (fun u => if u = t then s else lev u) ∧ σ' 11 0 8 = qmax (σ 11 0 8) (nI (s + pdn P t)) ∧ (∀ y, ¬ y = 8 → σ' 11 0 y = σ 11 0 y) := by
  have hn := W.1
  have hr := (W.rn ht).2
  have q1 := qsm_qu σ 17 0 t (nI s)
  have H1 := H.same q1 (by simp)
  obtain ⟨σ2, e2, q2, r1, r2, r3⟩ := c_place_loop (j := j) W ht (pdn P t) s qFU (qu σ 17 0 t (nI s)) hs (by have := (W.dn ht).2; unfold qFU; omega) H1
  refine ⟨σ2, ?_, (q1.mono (by simp)).trans (q2.mono (by simp)), ⟨fun u hu hb => ?_, fun r d hr' hd => ?_⟩, by rw [r2, q1 11 0 (by simp)], fun y hy => by rw [r3 y hy, q1 11 0 (by simp)]⟩
  · unfold f_X4_place
    rw [e_put (show t < 12 by omega) (by decide), qb_V, c_res H1 W ht, qb_I, c_dur H1 W ht, qb_I, (W.rn ht).1, (W.dn ht).1, nI_add, show (138 : Int32) = nI 138 from rfl, n_mul, Nat.mul_comm (prn P t) 138]
    exact e2
  · show _ = nI (if u = t then s else lev u)
    rw [q2 17 0 (by simp), qu_at]
    by_cases e : u = t
    · rw [if_pos ⟨rfl, rfl, e⟩, if_pos e]
    · rw [if_neg (fun h => e h.2.2), if_neg e]
      rw [qbit_put (by omega)] at hb
      simp only [Bool.or_eq_true, decide_eq_true_eq] at hb
      exact HL.1 u hu (hb.elim (fun h => h) (fun h => absurd h.symm e))
  · rw [r1, q1 18 0 (by simp), HL.2 r d hr' hd, pU_put ht (by omega) hx]
    by_cases h : prn P t = r ∧ s ≤ d ∧ d < s + pdn P t
    · rw [if_pos h, if_pos (by obtain ⟨h1, h2, h3⟩ := h; subst h1; omega), nI_add]
    · rw [if_neg h, Nat.add_zero, if_neg (fun h2 => h ?_)]
      rcases Nat.lt_trichotomy (prn P t) r with h3 | h3 | h3
      · have : 138 * (prn P t + 1) ≤ 138 * r := Nat.mul_le_mul_left _ h3
        omega
      · subst h3; omega
      · have : 138 * (r + 1) ≤ 138 * prn P t := Nat.mul_le_mul_left _ h3
        omega
theorem LvC.same {ks : List Nat} {σ σ' : qS} {x : Int32} {lev : Nat → Nat} (HL : LvC P σ x lev) (h : qsm ks σ σ') (h17 : 17 ∉ ks) (h18 : 18 ∉ ks) : LvC P σ' x lev :=
  ⟨fun t ht hb => by rw [h 17 0 h17]; exact HL.1 t ht hb, fun r d hr hd => by rw [h 18 0 h18]; exact HL.2 r d hr hd⟩
theorem c_lev_loop (W : PW P) : ∀ (d i m : Nat) (σ : qS), i + d = pn P → d < m → Rep σ j P → (∀ t, t < pn P → σ 16 0 t = pL P t) → LvC P σ (pst P i).1 (pst P i).2 → σ 11 0 8 = nI (pend P i) → pend P i ≤ 138 →
    ∃ σ', l_X4_findLevelled_17 j m (pst P i).1 (nI i) σ = qdo σ' ∧ qsm [17, 18, 11] σ σ' ∧ LvC P σ' (pst P (pn P)).1 (pst P (pn P)).2 ∧ σ' 11 0 8 = nI (pend P (pn P)) ∧ (∀ y, ¬ y = 8 → σ' 11 0 y = σ 11 0 y) ∧ pend P (pn P) ≤ 138 := by
  have hn := W.1
  intro d
  induction d with
  | zero =>
    intro i m σ hi hm H h16 HL he hb
    obtain ⟨m, rfl⟩ : ∃ m', m = m' + 1 := ⟨m - 1, by omega⟩
    have hi : i = pn P := by omega
    subst hi
    refine ⟨σ, ?_, qsm.refl _ _, HL, he, fun _ _ => rfl, hb⟩
    simp only [l_X4_findLevelled_17, b_X4_findLevelled_17]
    rw [if_pos (by rw [H.1]; exact Int32.le_refl _)]
  | succ d ih =>
    intro i m σ hi hm H h16 HL he hb
    obtain ⟨m, rfl⟩ : ∃ m', m = m' + 1 := ⟨m - 1, by omega⟩
    obtain ⟨s1, s2, s3, s4, s5, s6⟩ := pst_step W (i := i) (by omega)
    have hps : psoon P (σ 17 0) (pur P (pst P i).1) = nI (ps0 P (pst P i).2 (pur P (pst P i).1)) := by
      rw [← s3]
      exact psoon_congr (fun u hu e => HL.1 u hu ((pready_iff.mp s2).2 u (by omega) e))
    have hlow : f_X4_lowestFit j (nI (pur P (pst P i).1)) σ = qan (nI (plow P (pst P i).1 (pst P i).2 (pur P (pst P i).1) 200 (ps0 P (pst P i).2 (pur P (pst P i).1)))) σ := by
      unfold f_X4_lowestFit
      rw [c_soonest W H rfl s1, qb_I, hps]
      exact c_low_loop W H HL s1 s5 s6 200 _ qFU s4 (by omega) (by unfold qFU; omega)
    simp only [l_X4_findLevelled_17, b_X4_findLevelled_17]
    rw [if_neg (by rw [H.1]; exact nI_ge (by omega) (by omega)), c_urgent W H h16 s1, qb_I, hlow, qb_I]
    obtain ⟨σ1, e1, q1, L1, r1, r2⟩ := c_place W H HL s1 (pready_iff.mp s2).1 s5
    rw [e1, qb_V, nI_1]
    have hd := (W.dn s1).2
    obtain ⟨σ2, e2, q2, L2, k1, k2, k3⟩ := ih (i + 1) m σ1 (by omega) (by omega) (H.same q1 (by simp)) (fun t ht => by rw [q1 16 0 (by simp)]; exact h16 t ht) L1 (by
      rw [r1, he]
      apply i_eq
      rw [pend_s, i_max, nI_toInt (by omega), nI_toInt (by omega), nI_toInt (by omega)]
      omega) (by rw [pend_s]; omega)
    exact ⟨σ2, e2, q1.trans q2, L2, k1, fun y hy => by rw [k2 y hy, r2 y hy], k3⟩
theorem c_findLevelled (W : PW P) {σ : qS} (H : Rep σ j P) (h16 : ∀ t, t < pn P → σ 16 0 t = pL P t) : ∃ σ', f_X4_findLevelled j σ = qdo σ' ∧ qsm [17, 18, 11] σ σ' ∧ LvC P σ' (pst P (pn P)).1 (pst P (pn P)).2 ∧ σ' 11 0 8 = nI (pend P (pn P)) ∧ (∀ y, ¬ y = 8 → σ' 11 0 y = σ 11 0 y) ∧ pend P (pn P) ≤ 138 := by
  have hn := W.1
  obtain ⟨σ1, e1, e2, e3⟩ := e_fillRow (k := 18) (j := 0) (L := 414) rfl (by decide) (0 : Int32) σ
  have q1 : qsm [17, 18, 11] σ (qu σ1 11 0 8 0) := (show qsm [17, 18, 11] σ σ1 from fun a b ha => e2 a b (fun h => ha (by rw [h.1]; simp))).qu (by simp)
  obtain ⟨σ2, a1, a2, a3, a4, a5, a6⟩ := c_lev_loop (j := j) W (pn P) 0 qFU (qu σ1 11 0 8 0) (by omega) (by unfold qFU; omega) (H.same q1 (by simp)) (fun t ht => by rw [q1 16 0 (by simp)]; exact h16 t ht)
    ⟨fun t ht hb => absurd (hb.symm.trans (pst0 P t)) (by decide), fun r d hr hd => by
      rw [qu_at, if_neg (by simp), e3 _ (by omega), pU_none (B := 0) (fun u hu => absurd (hu.symm.trans (pst0 P u)) (by decide)) (Nat.zero_le _)]
      rfl⟩ (by rw [qu_at, if_pos ⟨rfl, rfl, rfl⟩]; rfl) (Nat.zero_le _)
  refine ⟨σ2, ?_, q1.trans a2, a3, a4, fun y hy => by rw [a5 y hy, qu_at, if_neg (fun h => hy h.2.2), e2 11 0 (by simp)], a6⟩
  unfold f_X4_findLevelled
  rw [e1, qb_V, qlet_eq]
  exact a1
end LC2

