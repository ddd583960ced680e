/-! THE DEPENDENCIES, as the law checks them -/
section LD
variable {P : qP} {hs : List qP} {σ σ' : qS}
def gany (c : Nat → Bool) : Nat → Nat → Bool
  | 0, _ => false
  | d + 1, i => c i || gany c d (i + 1)
theorem gany_iff {c : Nat → Bool} : ∀ d i, gany c d i = true ↔ ∃ u, i ≤ u ∧ u < i + d ∧ c u = true
  | 0, i => ⟨fun h => (by cases h), fun ⟨u, h1, h2, _⟩ => (by omega)⟩
  | d + 1, i => by
    rw [gany, Bool.or_eq_true, gany_iff d (i + 1)]
    constructor
    · rintro (h | ⟨u, h1, h2, h3⟩)
      · exact ⟨i, Nat.le_refl _, by omega, h⟩
      · exact ⟨u, by omega, by omega, h3⟩
    · rintro ⟨u, h1, h2, h3⟩
      rcases Nat.lt_or_ge i u with h | h
      · exact Or.inr ⟨u, h, by omega, h3⟩
      · rw [show u = i by omega] at h3
        exact Or.inl h3
/-! whether one task is behind another -/
theorem l_beh_loop (I : InvB σ P hs) {t u : Nat} (ht : t < pn P) (hu : u < pn P) {rf : Int32 → Int32 → qS → Option qO} (hrf : ∀ o, o < pn P → ped P t o = true → rf (nI o) (nI u) σ = qan (qb1 (prea P o u)) σ) : ∀ (d i m : Nat), i + d = pn P → d < m → l_L_isBehind_2 rf m (nI t) (nI u) (nI i) σ = qan (qb1 (gany (fun o => ped P t o && (decide (o = u) || prea P o u)) d i)) σ := by
  have hn := I.1.1
  intro d
  induction d with
  | zero =>
    intro i m hi hm
    obtain ⟨m, rfl⟩ : ∃ m', m = m' + 1 := ⟨m - 1, by omega⟩
    simp only [l_L_isBehind_2, b_L_isBehind_2]
    rw [m_count I, qb_I, if_pos (nI_le (by omega) (by omega))]
    rfl
  | succ d ih =>
    intro i m hi hm
    obtain ⟨m, rfl⟩ : ∃ m', m = m' + 1 := ⟨m - 1, by omega⟩
    have ih := ih (i + 1) m (by omega) (by omega)
    simp only [l_L_isBehind_2, b_L_isBehind_2]
    rw [m_count I, qb_I, if_neg (nI_ge (by omega) (by omega)), m_direct I ht (by omega), qb_I, nI_1, gany]
    cases e : ped P t i
    · rw [qb1_f, if_pos rfl, Bool.false_and, Bool.false_or]
      exact ih
    · rw [qb1_t, if_neg (by decide), Bool.true_and]
      by_cases h : i = u
      · rw [if_pos (by rw [h]), decide_eq_true h, Bool.true_or, Bool.true_or]; rfl
      · rw [if_neg (fun h2 => h ((n_eq (by omega) (by omega)).mp h2)), hrf i (by omega) e, qb_I, decide_eq_false h, Bool.false_or]
        cases hp : prea P i u
        · rw [qb1_f, if_pos rfl, Bool.false_or]
          exact ih
        · rw [qb1_t, if_neg (by decide), Bool.true_or]; rfl
theorem l_beh_n (I : InvB σ P hs) {h : Nat → Nat} (hh : ∀ t u, t < pn P → ped P t u = true → h u < h t) {u : Nat} (hu : u < pn P) : ∀ (m t : Nat), t < pn P → h t < m → fn_L_isBehind m (nI t) (nI u) σ = qan (qb1 (prea P t u)) σ := by
  intro m
  have W := I.1
  have hn := W.1
  induction m with
  | zero => intro t ht hm; omega
  | succ m ih =>
    intro t ht hm
    have hl := l_beh_loop I ht hu (rf := fn_L_isBehind m) (fun o ho e => ih o ho (by have := hh t o ht e; omega)) (pn P) 0 qFU (by omega) (by unfold qFU; omega)
    have hb : gany (fun o => ped P t o && (decide (o = u) || prea P o u)) (pn P) 0 = prea P t u := by
      rw [Bool.eq_iff_iff, gany_iff, prea_iff]
      constructor
      · rintro ⟨o, -, h2, h3⟩
        rw [Bool.and_eq_true, Bool.or_eq_true, decide_eq_true_iff, prea_iff] at h3
        rcases h3 with ⟨e, rfl | g⟩
        · exact gr_one e
        · exact gr_cons e g
      · intro g
        rcases gr_first g with e | ⟨w, e, g2⟩
        · exact ⟨u, Nat.zero_le _, by omega, by rw [e, decide_eq_true rfl]; rfl⟩
        · exact ⟨w, Nat.zero_le _, by have := W.ed_lt ht e; omega, by rw [e, prea_iff.mpr g2, Bool.or_true]; rfl⟩
    rw [hb] at hl
    exact hl
theorem l_behind (I : InvB σ P hs) {t u : Nat} (ht : t < pn P) (hu : u < pn P) : f_L_isBehind (nI t) (nI u) σ = qan (qb1 (prea P t u)) σ := by
  have W := I.1
  have hn := W.1
  obtain ⟨h, h1, h2⟩ := g_rank (n := pn P) (ed := ped P) (fun t u ht e => W.ed_lt ht e) W.2.2.2.1
  exact l_beh_n I h1 hu 16 t ht (by have := h2 t ht; omega)
/-! how many are needed -/
theorem gcnt_ext {p q : Nat → Bool} : ∀ k, (∀ i, i < k → p i = q i) → gcnt p k = gcnt q k
  | 0, _ => rfl
  | k + 1, h => by rw [gcnt, gcnt, gcnt_ext k (fun i hi => h i (by omega)), h k (by omega)]
theorem gcnt_cut {p : Nat → Bool} {n : Nat} (h : ∀ i, n ≤ i → p i = false) : ∀ k, n ≤ k → gcnt p k = gcnt p n
  | 0, hk => by rw [show n = 0 by omega]
  | k + 1, hk => by
    rcases Nat.lt_or_ge k n with h2 | h2
    · rw [show n = k + 1 by omega]
    · rw [gcnt, h k h2, gcnt_cut h k h2]; rfl
theorem fo_cnt {p : Nat → Bool} : ∀ (d i : Nat), fo (fun o a => if p o = true then a + 1 else a) d i (nI (gcnt p i)) = nI (gcnt p (i + d))
  | 0, i => rfl
  | d + 1, i => by
    rw [fo]
    have h : (if p i = true then nI (gcnt p i) + 1 else nI (gcnt p i)) = nI (gcnt p (i + 1)) := by
      rw [gcnt]
      cases p i
      · rw [if_neg (by decide), if_neg (by decide), Nat.add_zero]
      · rw [if_pos rfl, if_pos rfl, nI_1]
    rw [h, fo_cnt d (i + 1), show i + 1 + d = i + (d + 1) by omega]
theorem gcnt_told (p : Nat → Bool) (i : Nat) : nI (gcnt p i) + qb1 (p i) = nI (gcnt p (i + 1)) := by
  rw [gcnt]
  cases p i
  · rw [qb1_f, if_neg (by decide), Nat.add_zero, Int32.add_zero]
  · rw [qb1_t, if_pos rfl, nI_1]
end LD
