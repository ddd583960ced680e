/-! the dependencies are right -/
section LD2
variable {P : qP} {hs : List qP} {σ σ' : qS}
theorem need_k (W : PW P) {t : Nat} (ht : t < pn P) : ∃ k, k < 4096 ∧ pf P 4 t = nI k ∧ ∀ i, ped P t i = Nat.testBit k i := by
  have hn := W.1
  have h1 : ∀ i, ped P t i = Nat.testBit (pf P 4 t).toBitVec.toNat i := fun i => rfl
  have h2 : (pf P 4 t).toBitVec.toNat < 2 ^ 12 := Nat.lt_pow_two_of_testBit _ (fun i hi => by
    cases e : Nat.testBit (pf P 4 t).toBitVec.toNat i
    · rfl
    · have := W.ed_lt ht (u := i) (by rw [h1]; exact e)
      omega)
  refine ⟨(pf P 4 t).toBitVec.toNat, h2, ?_, h1⟩
  apply Int32.toBitVec_inj.mp
  apply BitVec.eq_of_toNat_eq
  have h3 : (nI (pf P 4 t).toBitVec.toNat).toBitVec = BitVec.ofNat 32 (pf P 4 t).toBitVec.toNat := by simp [nI]
  rw [h3, BitVec.toNat_ofNat]
  exact (Nat.mod_eq_of_lt (by omega)).symm
theorem m_needed (I : InvB σ P hs) {t : Nat} (ht : t < pn P) : f_X7_neededCountZ (nI t) σ = qan (nI (gcnt (ped P t) (pn P))) σ := by
  have W := I.1
  have hn := W.1
  obtain ⟨k, h1, h2, h3⟩ := need_k W ht
  have hb := bc_key ⟨k / 64, by omega⟩ ⟨k % 64, by omega⟩
  rw [show 64 * (⟨k / 64, by omega⟩ : Fin 64).val + (⟨k % 64, by omega⟩ : Fin 64).val = k from Nat.div_add_mod k 64] at hb
  have hc : gcnt (fun i => Nat.testBit k i) 12 = gcnt (ped P t) (pn P) := by
    rw [gcnt_ext (q := ped P t) 12 (fun i _ => (h3 i).symm)]
    refine gcnt_cut (fun i hi => ?_) 12 hn
    cases e : ped P t i
    · rfl
    · have := W.ed_lt ht e
      omega
  unfold f_X7_neededCountZ
  rw [m_reqT I ht, qb_V, c_need I.2.1 W ht, qb_I, bc_eq, qb_I, h2, hb, hc]
theorem m_depcn (I : InvB σ P hs) {t : Nat} (ht : t < pn P) : f_X7_dependentCountZ (nI t) σ = qan (nI (gcnt (fun o => ped P o t) (pn P))) σ := by
  rw [m_depc I ht]
  have h := fo_cnt (p := fun o => ped P o t) (pn P) 0
  rw [Nat.zero_add] at h
  rw [← h]
  rfl
theorem l_dep_in {rk : Int32 → Int32 → Int32 → qS → Option qO} {t : Nat} (ht : t < pn P) : ∀ (d i m : Nat) (σ : qS), i + d = pn P → d < m → InvB σ P hs → PlanSt P σ → Row σ 0 (pn P) (fun k => nI (pord P k)) →
    ∃ σ', l_L_areDependenciesRight_86 rk m (nI (pn P)) 1 (nI t) (nI (gcnt (ped P t) i)) (nI (gcnt (fun o => ped P o t) i)) (nI i) σ = rk (nI (pn P)) 1 (nI (t + 1)) σ' ∧ Wk σ σ' ∧ InvB σ' P hs ∧ PlanSt P σ' := by
  intro d
  induction d with
  | zero =>
    intro i m σ hi hm I S R
    have W := I.1
    have hn := W.1
    obtain ⟨m, rfl⟩ : ∃ m', m = m' + 1 := ⟨m - 1, by omega⟩
    have hi : i = pn P := by omega
    subst hi
    obtain ⟨σ1, e1, Q1, I1, S1⟩ := m_order I S ht
    refine ⟨σ1, ?_, Q1.wk, I1, S1⟩
    have R1 := R.wk Q1.wk
    simp only [l_L_areDependenciesRight_86, b_L_areDependenciesRight_86]
    rw [if_pos (Int32.le_refl _), if_neg (by decide), m_needed I ht, qb_I, if_pos rfl, m_depcn I ht, qb_I, if_pos rfl, m_depends I ht ht, qb_I, prea_self W ht, if_pos (by rfl), e1, qb_I, if_pos (by rw [R1.len (by omega)]; exact n_in (by omega) (by omega)), nI_clamp (show t < 2 ^ 31 by omega), R1.2 t ht, if_pos rfl, nI_1]
  | succ d ih =>
    intro i m σ hi hm I S R
    have W := I.1
    have hn := W.1
    obtain ⟨m, rfl⟩ : ∃ m', m = m' + 1 := ⟨m - 1, by omega⟩
    obtain ⟨σ1, e1, Q1, I1, S1⟩ := m_closure I S ht (show i < pn P by omega)
    obtain ⟨σ2, e2, k2, I2, S2⟩ := ih (i + 1) m σ1 (by omega) (by omega) I1 S1 (R.wk Q1.wk)
    refine ⟨σ2, ?_, Q1.wk.trans k2, I2, S2⟩
    simp only [l_L_areDependenciesRight_86, b_L_areDependenciesRight_86]
    rw [if_neg (nI_ge (by omega) (by omega)), l_behind I ht (by omega), qb_I, m_direct I ht (by omega), qb_I, e_told, qb_I, m_direct I (by omega) ht, qb_I, e_told, qb_I, if_neg (by decide), m_depends I ht (by omega), qb_I, if_pos rfl, e1, qb_I, if_pos rfl, gcnt_told (ped P t) i, gcnt_told (fun o => ped P o t) i, nI_1]
    exact e2
theorem l_dep_out : ∀ (d i m : Nat) (σ : qS), i + d = pn P → d < m → InvB σ P hs → PlanSt P σ → Row σ 0 (pn P) (fun k => nI (pord P k)) →
    ∃ σ', l_L_areDependenciesRight_71 m (nI (pn P)) 1 (nI i) σ = qan 1 σ' ∧ Wk σ σ' ∧ InvB σ' P hs ∧ PlanSt P σ' := by
  intro d
  induction d with
  | zero =>
    intro i m σ hi hm I S R
    have hn := I.1.1
    obtain ⟨m, rfl⟩ : ∃ m', m = m' + 1 := ⟨m - 1, by omega⟩
    refine ⟨σ, ?_, Wk.refl σ, I, S⟩
    simp only [l_L_areDependenciesRight_71, b_L_areDependenciesRight_71]
    rw [if_pos (nI_le (by omega) (by omega)), if_pos (show qbo 1 from qb1_bo true)]
  | succ d ih =>
    intro i m σ hi hm I S R
    have hn := I.1.1
    obtain ⟨m, rfl⟩ : ∃ m', m = m' + 1 := ⟨m - 1, by omega⟩
    obtain ⟨σ1, e1, k1, I1, S1⟩ := l_dep_in (rk := l_L_areDependenciesRight_71 m) (show i < pn P by omega) (pn P) 0 qFU σ (by omega) (by unfold qFU; omega) I S R
    obtain ⟨σ2, e2, k2, I2, S2⟩ := ih (i + 1) m σ1 (by omega) (by omega) I1 S1 (R.wk k1)
    refine ⟨σ2, ?_, k1.trans k2, I2, S2⟩
    simp only [l_L_areDependenciesRight_71, b_L_areDependenciesRight_71]
    rw [if_neg (nI_ge (by omega) (by omega))]
    have e1' : l_L_areDependenciesRight_86 (l_L_areDependenciesRight_71 m) qFU (nI (pn P)) 1 (nI i) 0 0 0 σ = l_L_areDependenciesRight_71 m (nI (pn P)) 1 (nI (i + 1)) σ1 := e1
    rw [e1']
    exact e2
theorem l_deps (I : InvB σ P hs) (S : PlanSt P σ) : ∃ σ', f_L_areDependenciesRight σ = qan 1 σ' ∧ (∀ a b, 26 ≤ a → (a, b) ∉ [(50, 0), (51, 0)] → σ' a b = σ a b) ∧ InvB σ' P hs ∧ PlanSt P σ' := by
  have W := I.1
  have hn := W.1
  obtain ⟨σ1, e1, q1, R⟩ := l_ordered I
  have C1 : Cl σ1 P hs := Cl.hn ⟨I, S⟩ q1 (by simp)
  obtain ⟨I1, S1⟩ := C1
  obtain ⟨σ2, e2, k2, I2, S2⟩ := l_dep_out (pn P) 0 qFU σ1 (by omega) (by unfold qFU; omega) I1 S1 R
  refine ⟨σ2, ?_, fun a b ha hb => (k2 a b ha).trans (q1 a b hb), I2, S2⟩
  unfold f_L_areDependenciesRight
  rw [m_count I, qb_I, e1, qb_M, a_depends I1, qb_I, if_pos rfl, a_duration I1, qb_I, if_pos rfl, a_order I1 (isT_many W), qb_I, if_pos rfl, a_order I1 (isT_m1 W), qb_I, if_pos rfl]
  exact e2
end LD2
