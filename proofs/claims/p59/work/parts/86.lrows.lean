/-! THE LAW'S OWN ROWS: what is read of them; the class in between -/
def Row (σ : qS) (j n : Nat) (f : Nat → Int32) : Prop := σ 50 j qLI = nI n ∧ ∀ i, i < n → σ 50 j i = f i
def Bow (σ : qS) (n : Nat) (b : Nat → Bool) : Prop := σ 51 0 qLI = nI n ∧ ∀ i, i < n → σ 51 0 i = qb1 (b i)
def Cl (σ : qS) (P : qP) (hs : List qP) : Prop := InvB σ P hs ∧ PlanSt P σ
section LR
variable {P : qP} {hs : List qP} {σ σ' : qS}
theorem InvB.hi {ks : List Nat} (I : InvB σ P hs) (q : qsm ks σ σ') (hk : ∀ k ∈ ks, 26 ≤ k) : InvB σ' P hs := by
  have e : ∀ a b, a < 26 → σ' a b = σ a b := fun a b ha => q a b (fun h => by have := hk a h; omega)
  obtain ⟨h1, h2, ⟨nx, h3⟩, h4⟩ := I
  have tr : ∀ {j : Nat} {Q : qP}, Rep σ j Q → Rep σ' j Q := fun {j Q} H => H.tr (fun a h1 h2 => e a j (by omega))
  exact ⟨h1, tr h2, ⟨nx, h3.1, by rw [e 9 0 (by omega)]; exact h3.2.1, h3.2.2.1, by rw [e 9 0 (by omega)]; exact h3.2.2.2.1, fun i Q hQ => tr (h3.2.2.2.2 i Q hQ)⟩, h4⟩
theorem Cl.hi {ks : List Nat} (I : Cl σ P hs) (q : qsm ks σ σ') (hk : ∀ k ∈ ks, 26 ≤ k) : Cl σ' P hs := by
  refine ⟨I.1.hi q hk, ?_⟩
  have e0 : σ' 0 0 = σ 0 0 := q 0 0 (fun h => by have := hk 0 h; omega)
  rcases I.2 with h | ⟨h, p⟩
  · exact Or.inl (by rw [e0]; exact h)
  · exact Or.inr ⟨by rw [e0]; exact h, p.same q (fun k hk2 => Or.inr (by have := hk k hk2; omega))⟩
theorem n_li {i : Nat} (h : i < 1000) : i ≠ qLI := by
  have : qLI = 2147483648 := rfl
  omega
theorem Row.len {j n : Nat} {f : Nat → Int32} (R : Row σ j n f) (hn : n < 1000) : qln (σ 50 j) = n := by
  unfold qln
  rw [R.1, nI_clamp (by omega)]
theorem Bow.len {n : Nat} {b : Nat → Bool} (R : Bow σ n b) (hn : n < 1000) : qln (σ 51 0) = n := by
  unfold qln
  rw [R.1, nI_clamp (by omega)]
theorem Row.tr {j n : Nat} {f : Nat → Int32} (R : Row σ j n f) (e : σ' 50 j = σ 50 j) : Row σ' j n f := by
  unfold Row
  rw [e]
  exact R
theorem Bow.tr {n : Nat} {b : Nat → Bool} (R : Bow σ n b) (e : σ' 51 0 = σ 51 0) : Bow σ' n b := by
  unfold Bow
  rw [e]
  exact R
theorem Row.wk {j n : Nat} {f : Nat → Int32} (R : Row σ j n f) (q : Wk σ σ') : Row σ' j n f := R.tr (q 50 j (by omega))
theorem Bow.wk {n : Nat} {b : Nat → Bool} (R : Bow σ n b) (q : Wk σ σ') : Bow σ' n b := R.tr (q 51 0 (by omega))
theorem Row.put {j n i : Nat} {f : Nat → Int32} {v : Int32} (R : Row σ j n f) (hi : i < 1000) : Row (qu σ 50 j i v) j n (fun x => if x = i then v else f x) := by
  have := n_li hi
  refine ⟨by rw [qu_at, if_neg (by rintro ⟨-, -, h⟩; exact this h.symm)]; exact R.1, fun x hx => ?_⟩
  rw [qu_at]
  show _ = if x = i then v else f x
  by_cases h : x = i
  · rw [if_pos ⟨rfl, rfl, h⟩, if_pos h]
  · rw [if_neg (fun h2 => h h2.2.2), if_neg h]; exact R.2 x hx
theorem Bow.put {n i : Nat} {b : Nat → Bool} (R : Bow σ n b) (hi : i < 1000) : Bow (qu σ 51 0 i 1) n (fun x => b x || decide (i = x)) := by
  have := n_li hi
  refine ⟨by rw [qu_at, if_neg (by rintro ⟨-, -, h⟩; exact this h.symm)]; exact R.1, fun x hx => ?_⟩
  rw [qu_at]
  show _ = qb1 (b x || decide (i = x))
  by_cases h : x = i
  · rw [if_pos ⟨rfl, rfl, h⟩, decide_eq_true h.symm, Bool.or_true]; rfl
  · rw [if_neg (fun h2 => h h2.2.2), decide_eq_false (fun h2 => h h2.symm), Bool.or_false]; exact R.2 x hx
theorem Row.new (σ : qS) (j : Nat) {n : Nat} (hn : n < 1000) : Row (qrw σ 50 j (qzr (nI n))) j n (fun _ => 0) := by
  refine ⟨by rw [qrw_at]; simp [qzr], fun i hi => ?_⟩
  rw [qrw_at]
  have := n_li (show i < 1000 by omega)
  simp [qzr, this]
theorem Bow.new (σ : qS) {n : Nat} (hn : n < 1000) : Bow (qrw σ 51 0 (qzr (nI n))) n (fun _ => false) := by
  refine ⟨by rw [qrw_at]; simp [qzr], fun i hi => ?_⟩
  rw [qrw_at]
  have := n_li (show i < 1000 by omega)
  simp [qzr, this, qb1]
theorem qsm_qrw (σ : qS) (k j : Nat) (r : Nat → Int32) : qsm [k] σ (qrw σ k j r) := fun a b ha => qrw_ne σ r (fun h => ha (by rw [h.1]; exact List.mem_singleton.mpr rfl))
theorem Row.other {k j j' n : Nat} {f : Nat → Int32} {r : Nat → Int32} (R : Row σ j n f) (h : ¬ (50 = k ∧ j = j')) : Row (qrw σ k j' r) j n f := R.tr (qrw_ne σ r h)
theorem Row.otherp {k j j' i n : Nat} {f : Nat → Int32} {v : Int32} (R : Row σ j n f) (h : ¬ (50 = k ∧ j = j')) : Row (qu σ k j' i v) j n f := R.tr (qu_other σ h)
theorem Bow.other {k j' n : Nat} {b : Nat → Bool} {r : Nat → Int32} (R : Bow σ n b) (h : ¬ (51 = k ∧ 0 = j')) : Bow (qrw σ k j' r) n b := R.tr (qrw_ne σ r h)
theorem Bow.otherp {k j' i n : Nat} {b : Nat → Bool} {v : Int32} (R : Bow σ n b) (h : ¬ (51 = k ∧ 0 = j')) : Bow (qu σ k j' i v) n b := R.tr (qu_other σ h)
theorem n_ofl {n : Nat} {r : Nat → Int32} (h : qln r = n) : Int32.ofNat (qln r) = nI n := by rw [h]; rfl
/-! the first day that a task can start -/
theorem l_soon_loop {j : Nat} {f : Nat → Int32} (I : InvB σ P hs) (R : Row σ j (pn P) f) {t : Nat} (ht : t < pn P) : ∀ (d i m : Nat) (a : Int32), i + d = pn P → d < m → l_L_soonest_9 j m (nI t) a (nI i) σ = qan (fo (fun u a => if ped P t u = true then qmax a (f u + pf P 0 u) else a) d i a) σ := by
  have hn := I.1.1
  have hl := R.len (by omega)
  intro d
  induction d with
  | zero =>
    intro i m a hi hm
    obtain ⟨m, rfl⟩ : ∃ m', m = m' + 1 := ⟨m - 1, by omega⟩
    simp only [l_L_soonest_9, b_L_soonest_9, fo]
    rw [if_pos (by rw [n_ofl hl]; exact nI_le (by omega) (by omega))]
  | succ d ih =>
    intro i m a hi hm
    obtain ⟨m, rfl⟩ : ∃ m', m = m' + 1 := ⟨m - 1, by omega⟩
    simp only [l_L_soonest_9, b_L_soonest_9]
    rw [if_neg (by rw [n_ofl hl]; exact nI_ge (by omega) (by omega)), m_direct I ht (by omega), qb_I, fo, nI_1]
    by_cases e : ped P t i = true
    · rw [e, if_neg (by decide), if_pos (by rw [hl]; exact n_in (by omega) (by omega)), m_duration I (by omega), qb_I, nI_clamp (by omega), R.2 i (by omega), ih (i + 1) m _ (by omega) (by omega), if_pos rfl]
    · rw [show ped P t i = false by simpa using e, if_pos (by rfl), ih (i + 1) m _ (by omega) (by omega), if_neg (by decide)]
theorem l_soon {j : Nat} {f : Nat → Int32} (I : InvB σ P hs) (R : Row σ j (pn P) f) {t : Nat} (ht : t < pn P) : f_L_soonest (nI t) j σ = qan (psoon P f t) σ := by
  have hn := I.1.1
  unfold f_L_soonest
  rw [m_release I ht, qb_I]
  exact l_soon_loop I R ht (pn P) 0 qFU _ (by omega) (by unfold qFU; omega)
/-! the last day -/
theorem l_last_loop {j : Nat} {f : Nat → Int32} (I : InvB σ P hs) (R : Row σ j (pn P) f) : ∀ (d i m : Nat) (a : Int32), i + d = pn P → d < m → l_L_last_4 j m a (nI i) σ = qan (fo (fun t a => qmax a (f t + pf P 0 t)) d i a) σ := by
  have hn := I.1.1
  have hl := R.len (by omega)
  intro d
  induction d with
  | zero =>
    intro i m a hi hm
    obtain ⟨m, rfl⟩ : ∃ m', m = m' + 1 := ⟨m - 1, by omega⟩
    simp only [l_L_last_4, b_L_last_4, fo]
    rw [if_pos (by rw [n_ofl hl]; exact nI_le (by omega) (by omega))]
  | succ d ih =>
    intro i m a hi hm
    obtain ⟨m, rfl⟩ : ∃ m', m = m' + 1 := ⟨m - 1, by omega⟩
    simp only [l_L_last_4, b_L_last_4]
    rw [if_neg (by rw [n_ofl hl]; exact nI_ge (by omega) (by omega)), if_pos (by rw [hl]; exact n_in (by omega) (by omega)), m_duration I (by omega), qb_I, fo, nI_1, nI_clamp (by omega), R.2 i (by omega), ih (i + 1) m _ (by omega) (by omega)]
theorem l_last {j : Nat} {f : Nat → Int32} (I : InvB σ P hs) (R : Row σ j (pn P) f) : f_L_last j σ = qan (plast P f) σ := by
  have hn := I.1.1
  unfold f_L_last
  exact l_last_loop I R (pn P) 0 qFU _ (by omega) (by unfold qFU; omega)
/-! whether a task is free -/
def gall (c : Nat → Bool) : Nat → Nat → Bool
  | 0, _ => true
  | d + 1, i => c i && gall c d (i + 1)
theorem gall_iff {c : Nat → Bool} : ∀ d i, gall c d i = true ↔ ∀ u, i ≤ u → u < i + d → c u = true
  | 0, i => ⟨fun _ u h1 h2 => by omega, fun _ => rfl⟩
  | d + 1, i => by
    rw [gall, Bool.and_eq_true, gall_iff d (i + 1)]
    refine ⟨fun ⟨h1, h2⟩ u h3 h4 => ?_, fun h => ⟨h i (Nat.le_refl _) (by omega), fun u h1 h2 => h u (by omega) (by omega)⟩⟩
    rcases Nat.lt_or_ge i u with h5 | h5
    · exact h2 u h5 (by omega)
    · rw [show u = i by omega]; exact h1
theorem l_free_loop {b : Nat → Bool} (I : InvB σ P hs) (R : Bow σ (pn P) b) {t : Nat} (ht : t < pn P) : ∀ (d i m : Nat) (a : Bool), i + d = pn P → d < m → l_L_isFree_5 m (nI t) (qb1 a) (nI i) σ = qan (qb1 (a && gall (fun u => b u || !ped P t u) d i)) σ := by
  have hn := I.1.1
  have hl := R.len (by omega)
  intro d
  induction d with
  | zero =>
    intro i m a hi hm
    obtain ⟨m, rfl⟩ : ∃ m', m = m' + 1 := ⟨m - 1, by omega⟩
    simp only [l_L_isFree_5, b_L_isFree_5]
    rw [if_pos (by rw [n_ofl hl]; exact nI_le (by omega) (by omega)), if_pos (qb1_bo _), gall, Bool.and_true]
  | succ d ih =>
    intro i m a hi hm
    obtain ⟨m, rfl⟩ : ∃ m', m = m' + 1 := ⟨m - 1, by omega⟩
    have ih0 := ih (i + 1) m false (by omega) (by omega)
    have ih1 := ih (i + 1) m true (by omega) (by omega)
    rw [qb1_f, Bool.false_and] at ih0
    rw [qb1_t, Bool.true_and] at ih1
    simp only [l_L_isFree_5, b_L_isFree_5]
    rw [if_neg (by rw [n_ofl hl]; exact nI_ge (by omega) (by omega)), nI_1]
    cases a
    · rw [qb1_f, if_pos rfl, Bool.false_and]
      exact ih0
    · rw [qb1_t, if_neg (by decide), if_pos (by rw [hl]; exact n_in (by omega) (by omega)), nI_clamp (by omega), R.2 i (by omega), Bool.true_and, gall]
      cases hb : b i
      · rw [qb1_f, if_pos rfl, m_direct I ht (by omega), qb_I, Bool.false_or]
        cases hp : ped P t i
        · rw [qb1_f, if_pos rfl, Bool.not_false, Bool.true_and]
          exact ih1
        · rw [qb1_t, if_neg (by decide), Bool.not_true, Bool.false_and]
          exact ih0
      · rw [qb1_t, if_neg (by decide), Bool.true_or, Bool.true_and]
        exact ih1
theorem l_free {b : Nat → Bool} (I : InvB σ P hs) (R : Bow σ (pn P) b) {t : Nat} (ht : t < pn P) : f_L_isFree (nI t) σ = qan (qb1 (gall (fun u => b u || !ped P t u) (pn P) 0)) σ := by
  have hn := I.1.1
  unfold f_L_isFree
  have h := l_free_loop I R ht (pn P) 0 qFU true (by omega) (by unfold qFU; omega)
  rw [Bool.true_and] at h
  exact h
/-- as the class tells it -/
theorem g_free (W : PW P) {x : Int32} {t : Nat} (ht : t < pn P) : (!qbit x t && gall (fun u => qbit x u || !ped P t u) (pn P) 0) = pready P x t := by
  have hn := W.1
  rw [Bool.eq_iff_iff, pready_iff, Bool.and_eq_true, gall_iff]
  refine ⟨fun ⟨h1, h2⟩ => ⟨by simpa using h1, fun u hu e => ?_⟩, fun ⟨h1, h2⟩ => ⟨by rw [h1]; rfl, fun u _ hu => ?_⟩⟩
  · have h3 := h2 u (by omega) (by have := W.ed_lt ht e; omega)
    rw [e] at h3
    simpa using h3
  · cases e : ped P t u
    · simp
    · rw [h2 u (by omega) e]; rfl
end LR
