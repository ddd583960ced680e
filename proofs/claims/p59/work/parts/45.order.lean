/-! the order: always the first task that is ready -/
def pfs (P : qP) (x : Int32) : Nat → Nat → Nat
  | 0, i => i
  | d + 1, i => if pready P x i = true then i else pfs P x d (i + 1)
def pmask (P : qP) : Nat → Int32
  | 0 => 0
  | i + 1 => pmask P i ||| ((1 : Int32) <<< (nI (pfs P (pmask P i) (pn P) 0) &&& 31))
def pord (P : qP) (i : Nat) : Nat := pfs P (pmask P i) (pn P) 0
theorem qbit_has0 {x : Int32} {i : Nat} (hi : i < 32) : ((x >>> (nI i &&& 31)) &&& (1 : Int32)) = 0 ↔ qbit x i = false := by
  have e0 : qbit (x >>> (nI i &&& 31)) 0 = qbit x i := qbit_sr (j := 0) hi (by omega)
  have k1 : ∀ j : Fin 32, qbit 1 j = decide ((j : Nat) = 0) := by decide +kernel
  rw [qbit_zero]
  constructor
  · intro h
    have := h 0 (by decide)
    rw [qbit_and, e0, show qbit 1 0 = true from k1 0, Bool.and_true] at this
    exact this
  · intro h j hj
    rw [qbit_and, k1 ⟨j, hj⟩]
    by_cases h0 : j = 0
    · subst h0; rw [e0, h]; rfl
    · simp [h0]
theorem pready_iff {P : qP} {x : Int32} {t : Nat} : pready P x t = true ↔ qbit x t = false ∧ ∀ u, u < 32 → ped P t u = true → qbit x u = true := by
  unfold pready
  rw [Bool.and_eq_true, decide_eq_true_iff, qbit_sub, Bool.not_eq_true']
theorem pfs_spec (P : qP) (x : Int32) : ∀ (d i : Nat), i ≤ pfs P x d i ∧ pfs P x d i ≤ i + d ∧ (∀ k, i ≤ k → k < pfs P x d i → pready P x k = false) ∧ (pfs P x d i < i + d → pready P x (pfs P x d i) = true)
  | 0, i => ⟨Nat.le_refl _, Nat.le_refl _, fun k h1 h2 => by unfold pfs at h2; omega, fun h => by unfold pfs at h; omega⟩
  | d + 1, i => by
    by_cases h : pready P x i = true
    · have e : pfs P x (d + 1) i = i := by unfold pfs; rw [if_pos h]
      rw [e]
      exact ⟨Nat.le_refl _, by omega, fun k h1 h2 => by omega, fun _ => h⟩
    · have e : pfs P x (d + 1) i = pfs P x d (i + 1) := by rw [pfs, if_neg h]
      obtain ⟨h1, h2, h3, h4⟩ := pfs_spec P x d (i + 1)
      rw [e]
      refine ⟨by omega, by omega, fun k hk1 hk2 => ?_, fun hl => h4 (by omega)⟩
      by_cases hki : k = i
      · subst hki; simpa using h
      · exact h3 k (by omega) hk2
section OR
variable {P : qP}
theorem g_ready (W : PW P) {x : Int32} {t : Nat} (ht : t < pn P) (hx : qbit x t = false) : ∃ r, r < pn P ∧ pready P x r = true := by
  obtain ⟨h, hh⟩ := W.2.2.2.1
  have key : ∀ k t, t < pn P → h t ≤ k → qbit x t = false → ∃ r, r < pn P ∧ pready P x r = true := by
    intro k
    induction k with
    | zero =>
      intro t ht h0 hx
      refine ⟨t, ht, pready_iff.mpr ⟨hx, fun u hu e => ?_⟩⟩
      have := hh t u ht e
      omega
    | succ k ih =>
      intro t ht h0 hx
      by_cases hall : ∀ u, u < 32 → ped P t u = true → qbit x u = true
      · exact ⟨t, ht, pready_iff.mpr ⟨hx, hall⟩⟩
      · obtain ⟨u, hall⟩ := Classical.not_forall.mp hall
        obtain ⟨hu, hall⟩ := Classical.not_imp.mp hall
        obtain ⟨e, hxu⟩ := Classical.not_imp.mp hall
        exact ih u (W.ed_lt ht e) (by have := hh t u ht e; omega) (by simpa using hxu)
  exact key (h t) t ht (Nat.le_refl _) hx
theorem gcnt_all {p : Nat → Bool} : ∀ k, (∀ i, i < k → p i = true) → gcnt p k = k
  | 0, _ => rfl
  | k + 1, h => by
    unfold gcnt
    rw [gcnt_all k (fun i hi => h i (by omega)), h k (by omega)]
    rfl
theorem gcnt_none {p : Nat → Bool} (h : ∀ i, p i = false) : ∀ k, gcnt p k = 0
  | 0 => rfl
  | k + 1 => by
    unfold gcnt
    rw [gcnt_none h k, h k]
    rfl
theorem gcnt_some {p : Nat → Bool} {k : Nat} (h : gcnt p k < k) : ∃ i, i < k ∧ p i = false := by
  by_cases hall : ∀ i, i < k → p i = true
  · rw [gcnt_all k hall] at h; omega
  · obtain ⟨i, hall⟩ := Classical.not_forall.mp hall
    obtain ⟨hi, hp⟩ := Classical.not_imp.mp hall
    exact ⟨i, hi, by simpa using hp⟩
theorem gcnt_put {p q : Nat → Bool} {x : Nat} (hx : p x = false) (hq : q x = true) (hpq : ∀ i, i ≠ x → q i = p i) : ∀ k, gcnt q k = gcnt p k + (if x < k then 1 else 0)
  | 0 => by simp [gcnt]
  | k + 1 => by
    have ih := gcnt_put hx hq hpq k
    unfold gcnt
    rw [ih]
    by_cases hk : k = x
    · subst hk
      rw [hx, hq]
      simp
    · rw [hpq k hk]
      by_cases hlt : x < k
      · rw [if_pos hlt, if_pos (show x < k + 1 by omega)]; omega
      · rw [if_neg hlt, if_neg (show ¬ x < k + 1 by omega)]
        omega
/-- the masks: i tasks are placed at i, and there is a next one -/
theorem pord_spec (W : PW P) : ∀ i, i ≤ pn P → (∀ u, qbit (pmask P i) u = true ↔ ∃ k, k < i ∧ pord P k = u) ∧ gcnt (fun u => qbit (pmask P i) u) (pn P) = i ∧ ∀ k, k < i → pord P k < pn P ∧ pready P (pmask P k) (pord P k) = true := by
  have hn := W.1
  intro i
  induction i with
  | zero =>
    intro _
    refine ⟨fun u => ?_, ?_, fun k hk => by omega⟩
    · rw [pmask, qbit_0]
      exact ⟨fun h => absurd h (by decide), fun ⟨k, hk, _⟩ => by omega⟩
    · exact gcnt_none (fun u => qbit_0 u) _
  | succ i ih =>
    intro hi
    obtain ⟨h1, h2, h3⟩ := ih (by omega)
    obtain ⟨t, ht, hx⟩ := gcnt_some (p := fun u => qbit (pmask P i) u) (k := pn P) (by omega)
    obtain ⟨r, hr, hrr⟩ := g_ready W ht hx
    obtain ⟨s1, s2, s3, s4⟩ := pfs_spec P (pmask P i) (pn P) 0
    have ho : pord P i < pn P := by
      unfold pord
      by_cases hc : pfs P (pmask P i) (pn P) 0 < pn P
      · exact hc
      · have := s3 r (Nat.zero_le _) (by omega)
        rw [hrr] at this; cases this
    have hor : pready P (pmask P i) (pord P i) = true := s4 (by rw [Nat.zero_add]; exact ho)
    have hbit : ∀ u, qbit (pmask P (i + 1)) u = (qbit (pmask P i) u || decide (pord P i = u)) := fun u => by
      rw [pmask]
      exact qbit_put (by show pord P i < 32; omega)
    refine ⟨fun u => ?_, ?_, fun k hk => ?_⟩
    · rw [hbit, Bool.or_eq_true, h1, decide_eq_true_iff]
      constructor
      · rintro (⟨k, hk, e⟩ | e)
        · exact ⟨k, by omega, e⟩
        · exact ⟨i, by omega, e⟩
      · rintro ⟨k, hk, e⟩
        by_cases hki : k = i
        · subst hki; exact Or.inr e
        · exact Or.inl ⟨k, by omega, e⟩
    · rw [gcnt_put (p := fun u => qbit (pmask P i) u) (x := pord P i) (pready_iff.mp hor).1 (by show qbit (pmask P (i + 1)) (pord P i) = true; rw [hbit]; simp) (fun u hu => by show qbit (pmask P (i + 1)) u = qbit (pmask P i) u; rw [hbit]; simp [Ne.symm hu]), h2, if_pos ho]
    · by_cases hki : k = i
      · subst hki; exact ⟨ho, hor⟩
      · exact h3 k (by omega)
/-- the class's order -/
theorem c_order_in {j : Nat} (W : PW P) {rk : Int32 → Int32 → qS → Option qO} {x v3 : Int32} {σ : qS} (H : Rep σ j P) : ∀ (d i m : Nat), i + d = pn P → d < m →
    l_X4_findOrder_15 j rk m x v3 (nI i) σ = qbind (f_X7_put 12 0 v3 (nI (pfs P x d i)) σ) (qvV (fun s1 => rk (x ||| ((1 : Int32) <<< (nI (pfs P x d i) &&& 31))) (v3 + (1 : Int32)) s1)) qE0 := by
  have hn := W.1
  intro d
  induction d with
  | zero =>
    intro i m hi hm
    obtain ⟨m, rfl⟩ : ∃ m', m = m' + 1 := ⟨m - 1, by omega⟩
    simp only [l_X4_findOrder_15, b_X4_findOrder_15, pfs]
    rw [if_pos (by rw [H.1]; exact nI_le (by omega) (by omega))]
  | succ d ih =>
    intro i m hi hm
    obtain ⟨m, rfl⟩ : ∃ m', m = m' + 1 := ⟨m - 1, by omega⟩
    simp only [l_X4_findOrder_15, b_X4_findOrder_15, pfs]
    rw [if_neg (by rw [H.1]; exact nI_ge (by omega) (by omega)), c_ready H W (by omega), qb_I]
    by_cases hr : pready P x i = true
    · rw [hr, if_neg (by decide), if_pos rfl]
    · rw [show pready P x i = false by simpa using hr, if_pos (by rfl), nI_1, ih (i + 1) m (by omega) (by omega), if_neg (by decide)]
theorem c_order_out {j : Nat} (W : PW P) : ∀ (d i m : Nat) (σ : qS), i + d = pn P → d < m → Rep σ j P → (∀ k, k < i → σ 12 0 k = nI (pord P k)) →
    ∃ σ', l_X4_findOrder_4 j m (pmask P i) (nI i) σ = qdo σ' ∧ qsm [12] σ σ' ∧ ∀ k, k < pn P → σ' 12 0 k = nI (pord P k) := by
  have hn := W.1
  intro d
  induction d with
  | zero =>
    intro i m σ hi hm H h1
    obtain ⟨m, rfl⟩ : ∃ m', m = m' + 1 := ⟨m - 1, by omega⟩
    refine ⟨σ, ?_, qsm.refl _ _, fun k hk => h1 k (by omega)⟩
    simp only [l_X4_findOrder_4, b_X4_findOrder_4]
    rw [if_pos (by rw [H.1]; exact nI_le (by omega) (by omega))]
  | succ d ih =>
    intro i m σ hi hm H h1
    obtain ⟨m, rfl⟩ : ∃ m', m = m' + 1 := ⟨m - 1, by omega⟩
    simp only [l_X4_findOrder_4, b_X4_findOrder_4]
    rw [if_neg (by rw [H.1]; exact nI_ge (by omega) (by omega)), show (0 : Int32) = nI 0 from rfl, c_order_in W H (pn P) 0 qFU (by omega) (by unfold qFU; omega), e_put (show i < 12 by omega) (by decide), qb_V, nI_1]
    obtain ⟨σ2, e2, q2, r2⟩ := ih (i + 1) m (qu σ 12 0 i (nI (pfs P (pmask P i) (pn P) 0))) (by omega) (by omega) (H.same (qsm_qu σ 12 0 i _) (by simp)) (fun k hk => by
      rw [qu_at]
      by_cases hki : k = i
      · subst hki; rw [if_pos ⟨rfl, rfl, rfl⟩]; rfl
      · rw [if_neg (fun h => hki h.2.2)]; exact h1 k (by omega))
    exact ⟨σ2, e2, ((qsm_qu σ 12 0 i _).mono (fun _ h => h)).trans q2, r2⟩
theorem c_findOrder {j : Nat} (W : PW P) {σ : qS} (H : Rep σ j P) : ∃ σ', f_X4_findOrder j σ = qdo σ' ∧ qsm [12] σ σ' ∧ ∀ k, k < pn P → σ' 12 0 k = nI (pord P k) := by
  have hn := W.1
  exact c_order_out W (pn P) 0 qFU σ (by omega) (by unfold qFU; omega) H (fun k hk => by omega)
end OR

