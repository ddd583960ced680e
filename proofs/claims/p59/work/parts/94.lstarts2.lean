/-! THE STARTS are right -/
section ST
variable {P : qP} {hs : List qP} {σ σ' : qS}
theorem slack_ge (W : PW P) {t : Nat} (ht : t < pn P) : (pE P t).toInt ≤ (pL P t).toInt := by
  have hn := W.1
  obtain ⟨h, h1, h2⟩ := g_rank (n := pn P) (ed := ped P) (fun t u ht e => W.ed_lt ht e) W.2.2.2.1
  have sum : ∀ u, u < pn P → (pE P u + pf P 0 u).toInt = (pE P u).toInt + (pf P 0 u).toInt := fun u hu => by
    have b1 := pE_small W hu
    have b2 := (W.2.1 u hu).1
    exact i_add (by omega) (by omega) (by omega) (by omega)
  have key : ∀ m t, t < pn P → pn P ≤ h t + m → (pE P t).toInt ≤ (pL P t).toInt := by
    intro m
    induction m with
    | zero => intro t ht hm; have := h2 t ht; omega
    | succ m ih =>
      intro t ht hm
      refine pL_ge W ht ?_ (fun o ho e => ?_)
      · have := (plast_le (P := P) (f := pE P) (x := (plast P (pE P)).toInt)).mp (Int.le_refl _)
        have := this.2 t ht
        rw [sum t ht] at this
        omega
      · have a1 := (psoon_le (P := P) (f := pE P) (t := o) (x := (psoon P (pE P) o).toInt)).mp (Int.le_refl _)
        have a2 := a1.2 t ht e
        rw [← pE_is W o ho, sum t ht] at a2
        have a3 := ih o ho (by have := h1 o t ho e; omega)
        omega
  exact key (pn P) t ht (by omega)
theorem gfs_step {c : Nat → Bool} : ∀ d i, gfs c (d + 1) i = if gfs c d i < i + d then gfs c d i else if c (i + d) = true then i + d else i + d + 1
  | 0, i => by
    show (if c i = true then i else i + 1) = if i < i + 0 then i else if c (i + 0) = true then i + 0 else i + 0 + 1
    rw [if_neg (show ¬ i < i + 0 by omega)]
    rfl
  | d + 1, i => by
    have e : gfs c (d + 1 + 1) i = if c i = true then i else gfs c (d + 1) (i + 1) := rfl
    have e2 : gfs c (d + 1) i = if c i = true then i else gfs c d (i + 1) := rfl
    rw [e, e2]
    by_cases h : c i = true
    · rw [if_pos h, if_pos h, if_pos (by omega)]
    · rw [if_neg h, if_neg h, gfs_step d (i + 1), show i + 1 + d = i + (d + 1) by omega]
def pen (P : qP) (i : Nat) : Int32 := if gfs (plc P) i 0 = i then -2004 else nI (gfs (plc P) i 0)
theorem pen_step {i : Nat} (hi : i < 1000) : pen P (i + 1) = if 0 ≤ pen P i then pen P i else if plc P i = true then nI i else pen P i := by
  have hg := gfs_step (c := plc P) i 0
  have hl := gfs_le (plc P) i 0
  rw [Nat.zero_add] at hg hl
  by_cases h : gfs (plc P) i 0 = i
  · have hp : pen P i = -2004 := by unfold pen; rw [if_pos h]
    rw [if_neg (show ¬ gfs (plc P) i 0 < i by omega)] at hg
    rw [hp, if_neg (show ¬ (0 : Int32) ≤ -2004 by decide)]
    unfold pen
    by_cases h2 : plc P i = true
    · rw [if_pos h2] at hg
      rw [hg, if_neg (by omega), if_pos h2]
    · rw [if_neg h2] at hg
      rw [hg, if_pos rfl, if_neg h2]
  · have hp : pen P i = nI (gfs (plc P) i 0) := by unfold pen; rw [if_neg h]
    rw [if_pos (show gfs (plc P) i 0 < i by omega)] at hg
    rw [hp, if_pos (nI_pos' (by omega))]
    unfold pen
    rw [hg, if_neg (by omega)]
def pcr (P : qP) (t : Nat) : Bool := decide (pL P t = pE P t)
theorem l_j123 {rk : Int32 → Int32 → Int32 → Int32 → Int32 → Int32 → Int32 → qS → Option qO} {v3 v4 v5 v6 w0 : Int32} {i : Nat} (hi : i < pn P) (I : InvB σ P hs) (S : PlanSt P σ) (R1 : Row σ 1 (pn P) (pE P)) (R2 : Row σ 2 (pn P) (pL P)) :
    ∃ σ', j_L_areStartsRight_123 rk v3 v4 v5 v6 1 (nI i) (pL P i - pE P i) w0 σ = rk v3 v4 v5 v6 w0 1 (nI (i + 1)) σ' ∧ Wk σ σ' ∧ InvB σ' P hs ∧ PlanSt P σ' := by
  have W := I.1
  have hn := W.1
  obtain ⟨σ1, e1, Q1, I1, S1⟩ := m_early I S hi
  obtain ⟨σ2, e2, Q2, I2, S2⟩ := m_rounds I1 S1 hi
  obtain ⟨σ3, e3, Q3, I3, S3⟩ := m_late I2 S2 hi
  obtain ⟨σ4, e4, Q4, I4, S4⟩ := m_slack I3 S3 hi
  obtain ⟨σ5, e5, Q5, I5, S5⟩ := m_critical I4 S4 hi
  have r1 := R1.wk Q1.wk
  have r2 := r1.wk Q2.wk
  have r3 := (R2.wk (Q1.wk.trans Q2.wk)).wk Q3.wk
  have b1 := slack_ge W hi
  have b2 := pE_small W hi
  have b3 := pL_bd W hi
  have hge : ¬ (pL P i - pE P i < 0) := fun h => by
    rw [i_lt, i_sub (by omega) (by omega) (by omega) (by omega), show (0 : Int32).toInt = 0 from rfl] at h
    omega
  refine ⟨σ5, ?_, (((Q1.trans Q2).trans Q3).trans (Q4.trans Q5)).wk, I5, S5⟩
  have q : ∀ {s : qS} {j : Nat} {f : Nat → Int32}, Row s j (pn P) f → qin (nI i) (qln (s 50 j)) := fun R => by rw [R.len (by omega)]; exact n_in (by omega) (by omega)
  unfold j_L_areStartsRight_123
  rw [if_neg (by decide), e1, qb_I, if_pos (q r1), nI_clamp (show i < 2 ^ 31 by omega), r1.2 i hi, if_pos rfl, e2, qb_I, if_pos (q r2), r2.2 i hi, if_pos rfl, e3, qb_I, if_pos (q r3), r3.2 i hi, if_pos rfl, e4, qb_I, if_pos rfl, e5, qb_I]
  unfold j_L_areStartsRight_196
  by_cases h : pL P i = pE P i
  · rw [if_pos (i_sub0.mpr h), decide_eq_true h, if_pos (by rfl), if_neg hge, nI_1]
  · rw [if_neg (fun h2 => h (i_sub0.mp h2)), decide_eq_false h, if_pos (by rfl), if_neg hge, nI_1]
theorem l_j82 {rk : Int32 → Int32 → Int32 → Int32 → Int32 → Int32 → Int32 → qS → Option qO} {v3 : Int32} {i : Nat} (hi : i < pn P) (I : InvB σ P hs) (S : PlanSt P σ) (R1 : Row σ 1 (pn P) (pE P)) (R2 : Row σ 2 (pn P) (pL P)) :
    ∃ σ', j_L_areStartsRight_82 rk v3 (plast P (pE P)) (pslk P i 0 0) (pen P i) 1 (nI i) (pL P i - pE P i) (nI (gcnt (pcr P) i)) (qb1 (pcr P i)) σ = rk v3 (plast P (pE P)) (nI (gcnt (pcr P) (i + 1))) (pslk P (i + 1) 0 0) (pen P (i + 1)) 1 (nI (i + 1)) σ' ∧ Wk σ σ' ∧ InvB σ' P hs ∧ PlanSt P σ' := by
  have W := I.1
  have hn := W.1
  obtain ⟨σ1, e1, k1, I1, S1⟩ := l_j123 (rk := rk) (v3 := v3) (v4 := plast P (pE P)) (v5 := nI (gcnt (pcr P) (i + 1))) (v6 := pslk P (i + 1) 0 0) (w0 := pen P (i + 1)) hi I S R1 R2
  refine ⟨σ1, ?_, k1, I1, S1⟩
  have hs6 : pslk P i 0 0 + (pL P i - pE P i) = pslk P (i + 1) 0 0 := by
    unfold pslk
    rw [fo_last, Nat.zero_add]
  have hp := pen_step (P := P) (show i < 1000 by omega)
  unfold j_L_areStartsRight_82
  rw [e_told, qb_I, gcnt_told, hs6]
  by_cases h : 0 ≤ pen P i
  · rw [if_pos h] at hp
    rw [if_pos h, ← hp]
    exact e1
  · rw [if_neg h] at hp
    rw [if_neg h, if_pos (by rw [R1.len (by omega)]; exact n_in (by omega) (by omega)), m_duration I hi, qb_I, nI_clamp (show i < 2 ^ 31 by omega), R1.2 i hi]
    by_cases h2 : pE P i + pf P 0 i = plast P (pE P)
    · rw [if_pos (show plc P i = true from decide_eq_true h2)] at hp
      rw [hp] at e1 ⊢
      rw [if_pos h2]
      exact e1
    · rw [if_neg (show ¬ plc P i = true from fun h3 => h2 (of_decide_eq_true h3))] at hp
      rw [if_neg h2, ← hp]
      exact e1
theorem l_st_loop : ∀ (d i m : Nat) (σ : qS), i + d = pn P → d < m → InvB σ P hs → PlanSt P σ → Row σ 1 (pn P) (pE P) → Row σ 2 (pn P) (pL P) →
    ∃ σ', l_L_areStartsRight_53 m (nI (pn P)) (plast P (pE P)) (nI (gcnt (pcr P) i)) (pslk P i 0 0) (pen P i) 1 (nI i) σ = l_L_areStartsRight_220 qFU (nI (pn P)) (nI (gcnt (pcr P) (pn P))) (pslk P (pn P) 0 0) (pen P (pn P)) 1 0 σ' ∧ Wk σ σ' ∧ InvB σ' P hs ∧ PlanSt P σ' := by
  intro d
  induction d with
  | zero =>
    intro i m σ hi hm I S R1 R2
    have hn := I.1.1
    obtain ⟨m, rfl⟩ : ∃ m', m = m' + 1 := ⟨m - 1, by omega⟩
    have hi : i = pn P := by omega
    subst hi
    refine ⟨σ, ?_, Wk.refl σ, I, S⟩
    simp only [l_L_areStartsRight_53, b_L_areStartsRight_53]
    rw [if_pos (Int32.le_refl _)]
  | succ d ih =>
    intro i m σ hi hm I S R1 R2
    have hn := I.1.1
    obtain ⟨m, rfl⟩ : ∃ m', m = m' + 1 := ⟨m - 1, by omega⟩
    obtain ⟨σ1, e1, k1, I1, S1⟩ := l_j82 (rk := l_L_areStartsRight_53 m) (v3 := nI (pn P)) (show i < pn P by omega) I S R1 R2
    obtain ⟨σ2, e2, k2, I2, S2⟩ := ih (i + 1) m σ1 (by omega) (by omega) I1 S1 (R1.wk k1) (R2.wk k1)
    refine ⟨σ2, ?_, k1.trans k2, I2, S2⟩
    simp only [l_L_areStartsRight_53, b_L_areStartsRight_53]
    rw [if_neg (nI_ge (by omega) (by omega)), if_pos (by rw [R2.len (by omega)]; exact n_in (by omega) (by omega)), if_pos (by rw [R1.len (by omega)]; exact n_in (by omega) (by omega)), nI_clamp (show i < 2 ^ 31 by omega), R1.2 i (by omega), R2.2 i (by omega)]
    by_cases h : pL P i = pE P i
    · rw [show pcr P i = true from decide_eq_true h, qb1_t] at e1
      rw [if_pos (i_sub0.mpr h), e1]
      exact e2
    · rw [show pcr P i = false from decide_eq_false h, qb1_f] at e1
      rw [if_neg (fun h2 => h (i_sub0.mp h2)), e1]
      exact e2
/-! the ranks by slack -/
theorem l_rk_end {k m : Nat} (hk : pn P ≤ k + 1) (hk2 : k < 1000) (I : InvB σ P hs) (S : PlanSt P σ) : ∃ σ', l_L_areStartsRight_220 (m + 1) (nI (pn P)) (nI (gcnt (pcr P) (pn P))) (pslk P (pn P) 0 0) (pen P (pn P)) 1 (nI k) σ = qan 1 σ' ∧ Wk σ σ' ∧ InvB σ' P hs ∧ PlanSt P σ' := by
  have W := I.1
  have hn := W.1
  obtain ⟨σ1, e1, Q1, I1, S1⟩ := m_criticalCount I S
  obtain ⟨σ2, e2, Q2, I2, S2⟩ := a_last I1 S1
  obtain ⟨σ3, e3, Q3, I3, S3⟩ := a_bySlack I2 S2 0
  have hc : fo (fun t a => if pL P t = pE P t then a + 1 else a) (pn P) 0 0 = nI (gcnt (pcr P) (pn P)) := by
    have h := fo_cnt (p := pcr P) (pn P) 0
    rw [Nat.zero_add] at h
    rw [← h]
    refine fo_congr (pn P) 0 _ (fun u _ _ a => ?_)
    by_cases e : pL P u = pE P u
    · rw [if_pos e, if_pos (show pcr P u = true from decide_eq_true e)]
    · rw [if_neg e, if_neg (show ¬ pcr P u = true from fun h2 => e (of_decide_eq_true h2))]
  rw [hc] at e1
  have e2' : f_L_ask 4 0 0 σ1 = qan (pen P (pn P)) σ2 := e2
  simp only [l_L_areStartsRight_220, b_L_areStartsRight_220]
  rw [nI_1, if_pos (nI_le (by omega) (by omega)), if_neg (by decide), e1, qb_I, if_pos rfl, e2', qb_I, if_pos rfl, e3, qb_I, if_pos rfl]
  by_cases h0 : pn P = 0
  · rw [if_pos (by rw [h0]; rfl)]
    exact ⟨σ3, rfl, ((Q1.trans Q2).trans Q3).wk, I3, S3⟩
  · have hz : ¬ nI (pn P) = 0 := fun h2 => by rw [show (0 : Int32) = nI 0 from rfl, n_eq (by omega) (by omega)] at h2; omega
    obtain ⟨σ4, e4, Q4, I4, S4⟩ := m_mean I3 S3 (by omega)
    have hq := qn64_div (pslk P (pn P) 0 0) hz
    have hnn : Jvm.FP.Core.dIsNaN (FP.ddiv (FP.i2d (pslk P (pn P) 0 0)) (FP.i2d (nI (pn P)))) = false := Jvm.FP.Core.ddiv_out (d_nn (Jvm.FP.Core.i2d_fin _)) (Jvm.FP.Core.i2d_fin _) (d_zero hz)
    rw [if_neg hz, e4, qb_D, if_pos hq, dcmp_self hnn, if_pos (by rfl)]
    exact ⟨σ4, rfl, (((Q1.trans Q2).trans Q3).trans Q4).wk, I4, S4⟩
theorem l_rk_loop : ∀ (d k m : Nat) (σ : qS), pn P ≤ k + 1 + d → k < 1000 → d < m → InvB σ P hs → PlanSt P σ →
    ∃ σ', l_L_areStartsRight_220 m (nI (pn P)) (nI (gcnt (pcr P) (pn P))) (pslk P (pn P) 0 0) (pen P (pn P)) 1 (nI k) σ = qan 1 σ' ∧ Wk σ σ' ∧ InvB σ' P hs ∧ PlanSt P σ' := by
  intro d
  induction d with
  | zero =>
    intro k m σ hk hk2 hm I S
    obtain ⟨m, rfl⟩ : ∃ m', m = m' + 1 := ⟨m - 1, by omega⟩
    exact l_rk_end (by omega) hk2 I S
  | succ d ih =>
    intro k m σ hk hk2 hm I S
    have W := I.1
    have hn := W.1
    obtain ⟨m, rfl⟩ : ∃ m', m = m' + 1 := ⟨m - 1, by omega⟩
    by_cases hlt : pn P ≤ k + 1
    · exact l_rk_end hlt hk2 I S
    · obtain ⟨t, ht, rt, gt⟩ := rank_at (A := sA P) (B := sB P) W (show k < pn P by omega)
      obtain ⟨u, hu, ru, gu⟩ := rank_at (A := sA P) (B := sB P) W (show k + 1 < pn P by omega)
      have hrb := rb_of_rank (A := sA P) (B := sB P) ht hu (by omega)
      unfold rb at hrb
      have hrb := of_decide_eq_true hrb
      obtain ⟨σ1, e1, Q1, I1, S1⟩ := m_bySlack I S ht gt
      obtain ⟨σ2, e2, Q2, I2, S2⟩ := m_bySlack I1 S1 hu gu
      obtain ⟨σ3, e3, Q3, I3, S3⟩ := m_slack I2 S2 hu
      obtain ⟨σ4, e4, Q4, I4, S4⟩ := m_slack I3 S3 ht
      obtain ⟨σ5, e5, k5, I5, S5⟩ := ih (k + 1) m σ4 (by omega) (by omega) (by omega) I4 S4
      refine ⟨σ5, ?_, (((Q1.trans Q2).trans Q3).trans Q4).wk.trans k5, I5, S5⟩
      have bt := pE_small W ht
      have bt2 := pL_bd W ht
      have bu := pE_small W hu
      have bu2 := pL_bd W hu
      have dt := (W.2.1 t ht).1
      have du := (W.2.1 u hu).1
      have x1 : (pL P t - pE P t).toInt = (pL P t).toInt - (pE P t).toInt := i_sub (by omega) (by omega) (by omega) (by omega)
      have x2 : (pL P u - pE P u).toInt = (pL P u).toInt - (pE P u).toInt := i_sub (by omega) (by omega) (by omega) (by omega)
      have x3 : (pL P u - pE P u - (pL P t - pE P t)).toInt = (pL P u).toInt - (pE P u).toInt - ((pL P t).toInt - (pE P t).toInt) := by
        rw [i_sub (by omega) (by omega) (by omega) (by omega), x1, x2]
      have x4 : (pf P 0 t - pf P 0 u).toInt = (pf P 0 t).toInt - (pf P 0 u).toInt := i_sub (by omega) (by omega) (by omega) (by omega)
      have z0 : (0 : Int32).toInt = 0 := rfl
      simp only [l_L_areStartsRight_220, b_L_areStartsRight_220]
      rw [nI_1, if_neg (nI_ge (by omega) (by omega)), e1, qb_I, e2, qb_I, e3, qb_I, e4, qb_I, m_duration I4 ht, qb_I, m_duration I4 hu, qb_I, if_neg (by decide)]
      rcases hrb with h | ⟨h1, h | ⟨h2, h3⟩⟩
      · rw [if_pos (by rw [i_lt, x3, z0]; show (0 : Int) < sA P u - sA P t; omega)]
        exact e5
      · rw [if_neg (by rw [i_lt, x3, z0]; show ¬ (0 : Int) < sA P u - sA P t; omega), if_pos (i_eq (by rw [x3, z0]; show sA P u - sA P t = 0; omega)), if_pos (by rw [i_lt, x4, z0]; show (0 : Int) < sB P t - sB P u; omega)]
        exact e5
      · rw [if_neg (by rw [i_lt, x3, z0]; show ¬ (0 : Int) < sA P u - sA P t; omega), if_pos (i_eq (by rw [x3, z0]; show sA P u - sA P t = 0; omega)), if_neg (by rw [i_lt, x4, z0]; show ¬ (0 : Int) < sB P t - sB P u; omega), if_pos (i_eq (by rw [x4, z0]; show sB P t - sB P u = 0; omega)), if_neg (nI_ge (by omega) (by omega))]
        exact e5
theorem l_starts (I : InvB σ P hs) (S : PlanSt P σ) (R1 : Row σ 1 (pn P) (pE P)) (R2 : Row σ 2 (pn P) (pL P)) : ∃ σ', f_L_areStartsRight σ = qan 1 σ' ∧ Wk σ σ' ∧ InvB σ' P hs ∧ PlanSt P σ' := by
  have W := I.1
  have hn := W.1
  obtain ⟨σ1, e1, Q1, I1, S1⟩ := m_projectLength I S
  obtain ⟨σ2, e2, k2, I2, S2⟩ := l_st_loop (pn P) 0 qFU σ1 (by omega) (by unfold qFU; omega) I1 S1 (R1.wk Q1.wk) (R2.wk Q1.wk)
  obtain ⟨σ3, e3, k3, I3, S3⟩ := l_rk_loop (pn P) 0 qFU σ2 (by omega) (by omega) (by unfold qFU; omega) I2 S2
  refine ⟨σ3, ?_, (Q1.wk.trans k2).trans k3, I3, S3⟩
  have hl := n_ofl (R1.len (show pn P < 1000 by omega))
  unfold f_L_areStartsRight
  rw [l_last I R1, qb_I, e1, qb_I, if_pos rfl, hl, a_early I1, qb_I, if_pos rfl]
  have e2' : l_L_areStartsRight_53 qFU (nI (pn P)) (plast P (pE P)) 0 0 (-2004) 1 0 σ1 = _ := e2
  rw [e2']
  exact e3
end ST
