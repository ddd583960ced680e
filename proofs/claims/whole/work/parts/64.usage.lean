/-! the order's places, the last task; the use of the resources -/
section QS2
variable {P : qP} {hs : List qP} {sv : qP} {σ : qS}
/-- the reference's place in the order -/
theorem r_ord_in (W : PW P) (H : RepR σ 27 0 P) {rk : Int32 → Int32 → Int32 → Int32 → qS → Option qO} {v1 v3 v4 x : Int32} : ∀ (i m : Nat), i ≤ pn P → i < m →
    l_X8_taskInOrder_31 rk m v1 x v3 v4 (qno P (pfs P x (pn P - i) i)) (nI i - 1) σ = if v4 = v1 then rk v1 (x ||| ((1 : Int32) <<< (qno P (pfs P x (pn P) 0) &&& 31))) (qno P (pfs P x (pn P) 0)) (v4 + 1) σ else rk v1 (x ||| ((1 : Int32) <<< (qno P (pfs P x (pn P) 0) &&& 31))) v3 (v4 + 1) σ := by
  have hn := W.1
  intro i
  induction i with
  | zero =>
    intro m hi hm
    obtain ⟨m, rfl⟩ : ∃ m', m = m' + 1 := ⟨m - 1, by omega⟩
    simp only [l_X8_taskInOrder_31, b_X8_taskInOrder_31]
    rw [if_pos (by decide), Nat.sub_zero]
  | succ i ih =>
    intro m hi hm
    obtain ⟨m, rfl⟩ : ∃ m', m = m' + 1 := ⟨m - 1, by omega⟩
    have hp : pfs P x (pn P - i) i = if pready P x i = true then i else pfs P x (pn P - (i + 1)) (i + 1) := by
      obtain ⟨d, hd⟩ : ∃ d, pn P - i = d + 1 := ⟨pn P - i - 1, by omega⟩
      rw [hd, pfs, show pn P - (i + 1) = d by omega]
    simp only [l_X8_taskInOrder_31, b_X8_taskInOrder_31]
    rw [nI_pred, if_neg (n_ge0 (by omega)), n_dec]
    by_cases hb : qbit x i = true
    · have hr : pready P x i = false := by unfold pready; rw [hb]; rfl
      rw [if_neg (fun h => by rw [(qbit_has0 (by omega)).mp h] at hb; cases hb)]
      have := ih m (by omega) (by omega)
      rw [hp, hr, if_neg (by decide)] at this
      exact this
    · have hb : qbit x i = false := by simpa using hb
      rw [if_pos ((qbit_has0 (by omega)).mpr hb), r_need H W (by omega), qb_I]
      by_cases hz : pf P 4 i &&& (x ^^^ (-1 : Int32)) = 0
      · have hr : pready P x i = true := by unfold pready; rw [hb, decide_eq_true hz]; rfl
        rw [if_pos hz]
        have := ih m (by omega) (by omega)
        rw [hp, hr, if_pos rfl, qno_n (by omega)] at this
        exact this
      · have hr : pready P x i = false := by unfold pready; rw [decide_eq_false hz, Bool.and_false]
        rw [if_neg hz]
        have := ih m (by omega) (by omega)
        rw [hp, hr, if_neg (by decide)] at this
        exact this
def pfound (P : qP) (x : Int32) : Nat → Int32
  | 0 => -1
  | i + 1 => if nI i = x then nI (pord P i) else pfound P x i
theorem pfound_out {x : Int32} : ∀ i, (∀ q, q < i → x ≠ nI q) → pfound P x i = -1
  | 0, _ => rfl
  | i + 1, h => by rw [pfound, if_neg (fun e => h i (by omega) e.symm)]; exact pfound_out i (fun q hq => h q (by omega))
theorem pfound_in {q : Nat} : ∀ i, q < i → i < 2 ^ 31 → pfound P (nI q) i = nI (pord P q)
  | 0, h, _ => by omega
  | i + 1, h, hb => by
    rw [pfound]
    by_cases e : i = q
    · rw [if_pos (by rw [e]), e]
    · rw [if_neg (fun h2 => e ((n_eq (by omega) (by omega)).mp h2))]
      exact pfound_in i (by omega) (by omega)
theorem r_ord_out (W : PW P) (H : RepR σ 27 0 P) (x : Int32) : ∀ (d i m : Nat), i + d = pn P → d < m →
    l_X8_taskInOrder_7 m x (pmask P i) (pfound P x i) (nI i) σ = qan (if pfound P x (pn P) = -1 then 0 else pfound P x (pn P)) (qu σ 26 0 17 (if pfound P x (pn P) = -1 then 1 else 0)) := by
  have hn := W.1
  intro d
  induction d with
  | zero =>
    intro i m hi hm
    obtain ⟨m, rfl⟩ : ∃ m', m = m' + 1 := ⟨m - 1, by omega⟩
    have hi : i = pn P := by omega
    subst hi
    simp only [l_X8_taskInOrder_7, b_X8_taskInOrder_7]
    rw [if_pos (by rw [H.1]; exact Int32.le_refl _)]
    by_cases e : pfound P x (pn P) = -1
    · rw [if_pos e, if_pos e, if_pos e, show (0 : Int32) = qb1 false from rfl, r_goes, qb_I, if_pos (by decide)]
      rfl
    · rw [if_neg e, if_neg e, if_neg e, show (1 : Int32) = qb1 true from rfl, r_goes, qb_I, if_neg (by decide)]
      rfl
  | succ d ih =>
    intro i m hi hm
    obtain ⟨m, rfl⟩ : ∃ m', m = m' + 1 := ⟨m - 1, by omega⟩
    have hlt := pord_lt W (k := i) (by omega)
    simp only [l_X8_taskInOrder_7, b_X8_taskInOrder_7]
    have k1 := r_ord_in W H (rk := l_X8_taskInOrder_7 m) (v1 := x) (v3 := pfound P x i) (v4 := nI i) (x := pmask P i) (pn P) qFU (Nat.le_refl _) (by unfold qFU; omega)
    rw [Nat.sub_self, show pfs P (pmask P i) 0 (pn P) = pn P from rfl, qno_m, show pfs P (pmask P i) (pn P) 0 = pord P i from rfl, qno_n (show pord P i ≠ pn P by omega), nI_1] at k1
    rw [if_neg (by rw [H.1]; exact nI_ge (by omega) (by omega)), show σ 27 0 0 = nI (pn P) from H.1, k1]
    have k2 := ih (i + 1) m (by omega) (by omega)
    by_cases e : nI i = x
    · rw [if_pos e]
      rw [show pfound P x (i + 1) = nI (pord P i) by rw [pfound, if_pos e]] at k2
      exact k2
    · rw [if_neg e]
      rw [show pfound P x (i + 1) = pfound P x i by rw [pfound, if_neg e]] at k2
      exact k2
theorem k_taskInOrder (a : Int32) (h : Inv σ) : CaseL (f_L_taskInOrder a) (f_X8_taskInOrder a) σ := by
  obtain ⟨P, hs, sv, I, S⟩ := h
  have W := I.1
  have H := I.2.1
  have hn := W.1
  cases hx : isT P a
  · have ho : pfound P a (pn P) = -1 := pfound_out _ (fun q hq e => by
      rw [(isT_iff W).mpr ⟨q, hq, e⟩] at hx; cases hx)
    refine casek (k := 1) (b := 0) (σ1 := σ) (σ2 := qu σ 26 0 17 1) (by decide) (by decide) ?_ I S ?_ (thr_at _ _) (Qr.thr _ _)
    · unfold f_L_taskInOrder f_X7_taskInOrder
      rw [e_isWithin, qb_I, H.1, show decide ((0 : Int32) ≤ a ∧ a ≤ nI (pn P) - 1) = false from hx]
      rfl
    · have := r_ord_out W I.2.2.1 a (pn P) 0 qFU (by omega) (by unfold qFU; omega)
      rw [ho, if_pos rfl, if_pos rfl] at this
      exact this
  · obtain ⟨q, hq, rfl⟩ := (isT_iff W).mp hx
    obtain ⟨σ1, c1, q1, I1, s8, p1⟩ := c_plan I S
    have hi : pfound P (nI q) (pn P) = nI (pord P q) := pfound_in _ hq (by omega)
    have hlt := pord_lt W hq
    refine case0 (r := nI (pord P q)) (σ1 := σ1) (σ2 := qu (qu σ1 38 0 0 (nI (pord P q))) 26 0 17 0) ?_ I1 (Or.inr ⟨s8, p1⟩) ?_ (thr_at _ _) (Qr.thr _ _)
    · unfold f_L_taskInOrder f_X7_taskInOrder
      rw [e_isWithin, qb_I, H.1, show decide ((0 : Int32) ≤ nI q ∧ nI q ≤ nI (pn P) - 1) = true from hx, if_neg (by decide), c1, qb_P, e_at (show q < 12 by omega) (by decide), qb_I, p1.1 q hq]
      rfl
    · have := r_ord_out W (I1.out (nI (pord P q))).2.2.1 (nI q) (pn P) 0 qFU (by omega) (by unfold qFU; omega)
      rw [hi, if_neg (n_ne _ (by omega)), if_neg (n_ne _ (by omega))] at this
      exact this
/-! the first task with its finish at the end -/
def gfs (c : Nat → Bool) : Nat → Nat → Nat
  | 0, i => i
  | d + 1, i => if c i = true then i else gfs c d (i + 1)
theorem gfs_le (c : Nat → Bool) : ∀ d i, gfs c d i ≤ i + d
  | 0, _ => Nat.le_refl _
  | d + 1, i => by
    unfold gfs
    split
    · omega
    · exact Nat.le_trans (gfs_le c d (i + 1)) (by omega)
def plc (P : qP) (t : Nat) : Bool := decide (pE P t + pf P 0 t = plast P (pE P))
theorem c_last_loop (W : PW P) (H : Rep σ 0 P) (p1 : PlanOK P σ) : ∀ (d i m : Nat), i + d = pn P → d < m → l_X7_lastTask_7 m (nI i) σ = if gfs (plc P) d i = pn P then qth qNSE σ else qan (nI (gfs (plc P) d i)) σ := by
  have hn := W.1
  intro d
  induction d with
  | zero =>
    intro i m hi hm
    obtain ⟨m, rfl⟩ : ∃ m', m = m' + 1 := ⟨m - 1, by omega⟩
    simp only [l_X7_lastTask_7, b_X7_lastTask_7]
    rw [if_pos (by rw [H.1]; exact nI_le (by omega) (by omega)), show gfs (plc P) 0 i = i from rfl, if_pos (by omega)]
  | succ d ih =>
    intro i m hi hm
    obtain ⟨m, rfl⟩ : ∃ m', m = m' + 1 := ⟨m - 1, by omega⟩
    have hg : gfs (plc P) (d + 1) i = if plc P i = true then i else gfs (plc P) d (i + 1) := rfl
    simp only [l_X7_lastTask_7, b_X7_lastTask_7]
    rw [if_neg (by rw [H.1]; exact nI_ge (by omega) (by omega)), e_at (show i < 12 by omega) (by decide), qb_I, c_dur H W (by omega), qb_I, p1.2.2.1 i (by omega), p1.2.2.2.2.2.2.1, nI_1]
    by_cases e : pE P i + pf P 0 i = plast P (pE P)
    · rw [show plc P i = true from decide_eq_true e, if_pos rfl] at hg
      rw [if_pos e, hg, if_neg (by omega)]
    · rw [show plc P i = false from decide_eq_false e, if_neg (show ¬ false = true by decide)] at hg
      rw [if_neg e, hg]
      exact ih (i + 1) m (by omega) (by omega)
theorem r_last2_loop (W : PW P) (H : RepR σ 27 0 P) (h31 : ∀ t, t < pn P → σ 31 0 t = pE P t) : ∀ (i m : Nat), i ≤ pn P → i < m →
    l_X8_lastTask_24 m (plast P (pE P)) (qno P (gfs (plc P) (pn P - i) i)) (nI i - 1) σ = qan (if gfs (plc P) (pn P) 0 = pn P then 0 else nI (gfs (plc P) (pn P) 0)) (qu σ 26 0 17 (if gfs (plc P) (pn P) 0 = pn P then 1 else 0)) := by
  have hn := W.1
  intro i
  induction i with
  | zero =>
    intro m hi hm
    obtain ⟨m, rfl⟩ : ∃ m', m = m' + 1 := ⟨m - 1, by omega⟩
    simp only [l_X8_lastTask_24, b_X8_lastTask_24]
    have hle := gfs_le (plc P) (pn P) 0
    rw [if_pos (by decide), Nat.sub_zero]
    by_cases e : gfs (plc P) (pn P) 0 = pn P
    · rw [e, qno_m, if_pos rfl, if_pos rfl, if_pos rfl, show (0 : Int32) = qb1 false from rfl, r_goes, qb_I, if_pos (by decide)]
      rfl
    · rw [if_neg e, if_neg e, qno_n e, if_neg (n_ne _ (by omega)), show (1 : Int32) = qb1 true from rfl, r_goes, qb_I, if_neg (by decide)]
      rfl
  | succ i ih =>
    intro m hi hm
    obtain ⟨m, rfl⟩ : ∃ m', m = m' + 1 := ⟨m - 1, by omega⟩
    have hp : gfs (plc P) (pn P - i) i = if plc P i = true then i else gfs (plc P) (pn P - (i + 1)) (i + 1) := by
      obtain ⟨d, hd⟩ : ∃ d, pn P - i = d + 1 := ⟨pn P - i - 1, by omega⟩
      rw [hd, gfs, show pn P - (i + 1) = d by omega]
    simp only [l_X8_lastTask_24, b_X8_lastTask_24]
    rw [nI_pred, if_neg (n_ge0 (by omega)), if_pos (n_in (by omega) (by decide)), r_dur H W (by omega), qb_I, nI_clamp (by omega), h31 i (by omega), n_dec]
    have k := ih m (by omega) (by omega)
    by_cases e : pE P i + pf P 0 i = plast P (pE P)
    · rw [if_pos e]
      rw [hp, show plc P i = true from decide_eq_true e, if_pos rfl, qno_n (show i ≠ pn P by omega)] at k
      exact k
    · rw [if_neg e]
      rw [hp, show plc P i = false from decide_eq_false e, if_neg (show ¬ false = true by decide)] at k
      exact k
theorem k_lastTask (h : Inv σ) : CaseL f_L_lastTask f_X8_lastTask σ := by
  obtain ⟨P, hs, sv, I, S⟩ := h
  have W := I.1
  have hn := W.1
  obtain ⟨σ1, c1, q1, I1, s8, p1⟩ := c_plan I S
  have cl := c_last_loop W I1.2.1 p1 (pn P) 0 qFU (by omega) (by unfold qFU; omega)
  have ref : ∀ σ3 : qS, RepR σ3 27 0 P → ∃ σ2, Qr σ3 σ2 ∧ σ2 26 0 17 = (if gfs (plc P) (pn P) 0 = pn P then 1 else 0) ∧ f_X8_lastTask σ3 = qan (if gfs (plc P) (pn P) 0 = pn P then 0 else nI (gfs (plc P) (pn P) 0)) σ2 := by
    intro σ3 R1
    obtain ⟨σ2, e2, q2, a2, b2⟩ := r_starts W R1
    have R2 := R1.same q2 (by simp)
    refine ⟨_, (Qr.of q2 (by simp)).trans (Qr.thr _ _), thr_at _ _, ?_⟩
    unfold f_X8_lastTask
    rw [e2, qb_V, r_lastOf W R2 rfl, qb_I, plast_congr a2, show σ2 27 0 0 = nI (pn P) from R2.1]
    have := r_last2_loop W R2 a2 (pn P) qFU (Nat.le_refl _) (by unfold qFU; omega)
    rw [Nat.sub_self, show gfs (plc P) 0 (pn P) = pn P from rfl, qno_m] at this
    exact this
  by_cases e : gfs (plc P) (pn P) 0 = pn P
  · obtain ⟨σ2, r1, r2, r3⟩ := ref σ1 I1.2.2.1
    rw [if_pos e] at r2 r3 cl
    exact casek (k := 1) (b := 0) (by decide) (by decide) (by unfold f_L_lastTask f_X7_lastTask; rw [c1, qb_P, show (0 : Int32) = nI 0 from rfl, cl]; rfl) I1 (Or.inr ⟨s8, p1⟩) r3 r2 r1
  · rw [if_neg e] at cl
    obtain ⟨σ2, r1, r2, r3⟩ := ref _ (I1.out (nI (gfs (plc P) (pn P) 0))).2.2.1
    rw [if_neg e] at r2 r3
    exact case0 (by unfold f_L_lastTask f_X7_lastTask; rw [c1, qb_P, show (0 : Int32) = nI 0 from rfl, cl]; rfl) I1 (Or.inr ⟨s8, p1⟩) r3 r2 r1
end QS2
