/-! the earliest starts -/
def fo (g : Nat → Int32 → Int32) : Nat → Nat → Int32 → Int32
  | 0, _, a => a
  | d + 1, i, a => fo g d (i + 1) (g i a)
theorem fo_congr {g g' : Nat → Int32 → Int32} : ∀ (d i : Nat) (a : Int32), (∀ u, i ≤ u → u < i + d → ∀ a, g u a = g' u a) → fo g d i a = fo g' d i a
  | 0, _, _, _ => rfl
  | d + 1, i, a, h => by
    unfold fo
    rw [h i (Nat.le_refl _) (by omega)]
    exact fo_congr d (i + 1) _ (fun u h1 h2 => h u (by omega) (by omega))
theorem fo_inv {g : Nat → Int32 → Int32} {Q : Int32 → Prop} : ∀ (d i : Nat) (a : Int32), Q a → (∀ u a, i ≤ u → u < i + d → Q a → Q (g u a)) → Q (fo g d i a)
  | 0, _, _, h, _ => h
  | d + 1, i, a, h, hg => by
    unfold fo
    exact fo_inv d (i + 1) _ (hg i a (Nat.le_refl _) (by omega) h) (fun u a h1 h2 => hg u a (by omega) (by omega))
theorem fo_last {g : Nat → Int32 → Int32} : ∀ (d i : Nat) (a : Int32), fo g (d + 1) i a = g (i + d) (fo g d i a)
  | 0, i, a => rfl
  | d + 1, i, a => by
    rw [fo, fo_last d (i + 1) (g i a), fo]
    congr 1
    omega
def psoon (P : qP) (f : Nat → Int32) (t : Nat) : Int32 := fo (fun u a => if ped P t u = true then qmax a (f u + pf P 0 u) else a) (pn P) 0 (pf P 3 t)
def plast (P : qP) (f : Nat → Int32) : Int32 := fo (fun t a => qmax a (f t + pf P 0 t)) (pn P) 0 0
theorem psoon_congr {P : qP} {f f' : Nat → Int32} {t : Nat} (h : ∀ u, u < pn P → ped P t u = true → f u = f' u) : psoon P f t = psoon P f' t := by
  refine fo_congr _ _ _ (fun u _ h2 a => ?_)
  by_cases e : ped P t u = true
  · rw [if_pos e, if_pos e, h u (by omega) e]
  · rw [if_neg e, if_neg e]
theorem plast_congr {P : qP} {f f' : Nat → Int32} (h : ∀ u, u < pn P → f u = f' u) : plast P f = plast P f' :=
  fo_congr _ _ _ (fun u _ h2 a => by rw [h u (by omega)])
theorem qmax_l (a b : Int32) : a ≤ qmax a b := by
  unfold qmax
  split
  · exact Int32.le_of_lt ‹a < b›
  · exact Int32.le_refl a
theorem psoon_ge (P : qP) (f : Nat → Int32) (t : Nat) : pf P 3 t ≤ psoon P f t := by
  refine fo_inv (Q := fun x => pf P 3 t ≤ x) _ _ _ (Int32.le_refl _) (fun u a _ _ h => ?_)
  split
  · exact Int32.le_trans h (qmax_l _ _)
  · exact h
def IsE (P : qP) (E : Nat → Int32) : Prop := ∀ t, t < pn P → E t = psoon P E t
section EA
variable {P : qP}
theorem IsE.ge (W : PW P) {E : Nat → Int32} (hE : IsE P E) {t : Nat} (ht : t < pn P) : 0 ≤ E t := by
  rw [hE t ht]
  refine Int32.le_trans ?_ (psoon_ge P E t)
  rw [Int32.le_iff_toInt_le]
  exact (W.2.1 t ht).2.2.2.1.1
theorem IsE.ne (W : PW P) {E : Nat → Int32} (hE : IsE P E) {t : Nat} (ht : t < pn P) : ¬ E t = -1 := by
  intro h
  have := hE.ge W ht
  rw [h] at this
  exact absurd this (by decide)
theorem IsE.uniq (W : PW P) {E E' : Nat → Int32} (h1 : IsE P E) (h2 : IsE P E') : ∀ t, t < pn P → E t = E' t := by
  obtain ⟨h, hh⟩ := W.2.2.2.1
  have key : ∀ k t, t < pn P → h t ≤ k → E t = E' t := by
    intro k
    induction k with
    | zero =>
      intro t ht h0
      rw [h1 t ht, h2 t ht]
      exact psoon_congr (fun u hu e => by have := hh t u ht e; omega)
    | succ k ih =>
      intro t ht h0
      rw [h1 t ht, h2 t ht]
      exact psoon_congr (fun u hu e => ih u hu (by have := hh t u ht e; omega))
  exact fun t ht => key (h t) t ht (Nat.le_refl _)
def pEi (P : qP) : Nat → Nat → Int32
  | 0 => fun _ => 0
  | k + 1 => fun t => psoon P (pEi P k) t
def pE (P : qP) : Nat → Int32 := pEi P (pn P)
theorem pEi_eq (W : PW P) {h : Nat → Nat} (hh : ∀ t u, t < pn P → ped P t u = true → h u < h t) : ∀ k t, t < pn P → h t < k → ∀ k', h t < k' → pEi P k t = pEi P k' t := by
  intro k
  induction k with
  | zero => intro t ht h1; omega
  | succ k ih =>
    intro t ht h1 k' h2
    obtain ⟨k', rfl⟩ : ∃ z, k' = z + 1 := ⟨k' - 1, by omega⟩
    exact psoon_congr (fun u hu e => ih u hu (by have := hh t u ht e; omega) k' (by have := hh t u ht e; omega))
theorem pE_is (W : PW P) : IsE P (pE P) := by
  have hc : ∀ t u, t < pn P → ped P t u = true → u < pn P := fun t u h1 h2 => W.ed_lt h1 h2
  obtain ⟨h, hh, hb⟩ := g_rank hc W.2.2.2.1
  intro t ht
  have h1 := hb t ht
  show pEi P (pn P) t = psoon P (pEi P (pn P)) t
  rw [pEi_eq W hh (pn P) t ht h1 (pn P + 1) (by omega)]
  rfl
/-! the class's soonest start; its memory -/
theorem c_soonest_loop {j k3 j3 : Nat} {σ : qS} (W : PW P) (H : Rep σ j P) (hk : qlen k3 = 12) {t : Nat} (ht : t < pn P) : ∀ (d i m : Nat) (a : Int32), i + d = pn P → d < m →
    l_X4_soonestStart_22 j k3 j3 m a (pf P 4 t) (nI i) σ = qan (fo (fun u a => if ped P t u = true then qmax a (σ k3 j3 u + pf P 0 u) else a) d i a) σ := by
  have hn := W.1
  intro d
  induction d with
  | zero =>
    intro i m a hi hm
    obtain ⟨m, rfl⟩ : ∃ m', m = m' + 1 := ⟨m - 1, by omega⟩
    simp only [l_X4_soonestStart_22, b_X4_soonestStart_22, fo]
    rw [if_pos (by rw [H.1]; exact nI_le (by omega) (by omega))]
  | succ d ih =>
    intro i m a hi hm
    obtain ⟨m, rfl⟩ : ∃ m', m = m' + 1 := ⟨m - 1, by omega⟩
    simp only [l_X4_soonestStart_22, b_X4_soonestStart_22]
    rw [if_neg (by rw [H.1]; exact nI_ge (by omega) (by omega)), e_hasBit (by omega), qb_I, fo]
    by_cases e : ped P t i = true
    · rw [show qbit (pf P 4 t) i = true from e, if_neg (by decide), e_at (by rw [hk]; omega) (by rw [hk]; decide), qb_I, c_dur H W (by omega), qb_I, nI_1, ih (i + 1) m _ (by omega) (by omega), if_pos e]
    · rw [show qbit (pf P 4 t) i = false by simpa using e, if_pos (by rfl), nI_1, ih (i + 1) m _ (by omega) (by omega), if_neg e]
theorem c_soonest {j k3 j3 : Nat} {σ : qS} (W : PW P) (H : Rep σ j P) (hk : qlen k3 = 12) {t : Nat} (ht : t < pn P) : f_X4_soonestStart j (nI t) k3 j3 σ = qan (psoon P (σ k3 j3) t) σ := by
  have hn := W.1
  unfold f_X4_soonestStart
  rw [c_rel H W ht, qb_I, c_need H W ht, qb_I]
  exact c_soonest_loop W H hk ht (pn P) 0 qFU _ (by omega) (by unfold qFU; omega)
/-- what is known of the earliest starts -/
def EKn (P : qP) (σ : qS) : Prop := ∀ t, t < pn P → σ 14 0 t = -1 ∨ σ 14 0 t = pE P t
def EMo (P : qP) (σ σ' : qS) : Prop := ∀ t, t < pn P → σ 14 0 t = pE P t → σ' 14 0 t = pE P t
theorem EMo.trans {σ σ' σ'' : qS} (h : EMo P σ σ') (h2 : EMo P σ' σ'') : EMo P σ σ'' := fun t ht e => h2 t ht (h t ht e)
theorem EMo.put (σ : qS) (t : Nat) : EMo P σ (qu σ 14 0 t (pE P t)) := fun x hx e => by
  rw [qu_at]
  by_cases e2 : x = t
  · subst e2; rw [if_pos ⟨rfl, rfl, rfl⟩]
  · rw [if_neg (fun h => e2 h.2.2)]; exact e
theorem EKn.put {σ : qS} (h : EKn P σ) (t : Nat) : EKn P (qu σ 14 0 t (pE P t)) := fun x hx => by
  rw [qu_at]
  by_cases e : x = t
  · subst e; rw [if_pos ⟨rfl, rfl, rfl⟩]; exact Or.inr rfl
  · rw [if_neg (fun h => e h.2.2)]; exact h x hx
theorem c_earliest_loop {j : Nat} (W : PW P) {rf : Nat → Nat → Nat → Int32 → Int32 → qS → Option qO} {dp t : Nat} (ht : t < pn P)
    (hrf : ∀ (u : Nat) (σ : qS), u < pn P → ped P t u = true → Rep σ j P → EKn P σ → ∃ σ', rf j 14 0 (nI u) (nI (dp + 1)) σ = qan (pE P u) σ' ∧ qsm [14] σ σ' ∧ EKn P σ' ∧ EMo P σ σ') :
    ∀ (d i m : Nat) (a : Int32) (σ : qS), i + d = pn P → d < m → Rep σ j P → EKn P σ → fo (fun u a => if ped P t u = true then qmax a (pE P u + pf P 0 u) else a) d i a = pE P t →
    ∃ σ', l_X4_earliestOf_45 rf j 14 0 m (nI t) (nI dp) a (pf P 4 t) (nI i) σ = qan (pE P t) σ' ∧ qsm [14] σ σ' ∧ EKn P σ' ∧ EMo P σ σ' ∧ σ' 14 0 t = pE P t := by
  have hn := W.1
  intro d
  induction d with
  | zero =>
    intro i m a σ hi hm H hK ha
    obtain ⟨m, rfl⟩ : ∃ m', m = m' + 1 := ⟨m - 1, by omega⟩
    simp only [fo] at ha
    subst ha
    simp only [l_X4_earliestOf_45, b_X4_earliestOf_45]
    rw [if_pos (by rw [H.1]; exact nI_le (by omega) (by omega)), e_put (show t < 12 by omega) (by decide), qb_V]
    exact ⟨_, rfl, qsm_qu σ 14 0 t _, hK.put t, EMo.put σ t, by rw [qu_at, if_pos ⟨rfl, rfl, rfl⟩]⟩
  | succ d ih =>
    intro i m a σ hi hm H hK ha
    obtain ⟨m, rfl⟩ : ∃ m', m = m' + 1 := ⟨m - 1, by omega⟩
    simp only [l_X4_earliestOf_45, b_X4_earliestOf_45]
    rw [if_neg (by rw [H.1]; exact nI_ge (by omega) (by omega)), e_hasBit (by omega), qb_I]
    rw [fo] at ha
    by_cases e : ped P t i = true
    · rw [if_pos e] at ha
      obtain ⟨σ1, e1, q1, K1, M1⟩ := hrf i σ (by omega) e H hK
      have H1 := H.same q1 (by simp)
      rw [show qbit (pf P 4 t) i = true from e, if_neg (by decide), nI_1, e1, qb_I, c_dur H1 W (by omega), qb_I, nI_1]
      obtain ⟨σ2, e2, q2, K2, M2, r2⟩ := ih (i + 1) m _ σ1 (by omega) (by omega) H1 K1 ha
      exact ⟨σ2, e2, q1.trans q2, K2, M1.trans M2, r2⟩
    · rw [if_neg e] at ha
      rw [show qbit (pf P 4 t) i = false by simpa using e, if_pos (by rfl), nI_1]
      exact ih (i + 1) m _ σ (by omega) (by omega) H hK ha
theorem c_earliestOf_n {j : Nat} (W : PW P) {h : Nat → Nat} (hh : ∀ t u, t < pn P → ped P t u = true → h u < h t) : ∀ (m dp t : Nat) (σ : qS), m + dp = 16 → t < pn P → h t + dp ≤ 11 → Rep σ j P → EKn P σ → ∃ σ', fn_X4_earliestOf m j 14 0 (nI t) (nI dp) σ = qan (pE P t) σ' ∧ qsm [14] σ σ' ∧ EKn P σ' ∧ EMo P σ σ' ∧ σ' 14 0 t = pE P t := by
  have hn := W.1
  intro m
  induction m with
  | zero => intro dp t σ h1 h2 h3; omega
  | succ m ih =>
    intro dp t σ h1 ht h3 H hK
    simp only [fn_X4_earliestOf, fb_X4_earliestOf]
    rw [e_at (show t < 12 by omega) (by decide), qb_I]
    by_cases e0 : σ 14 0 t = -1
    · rw [if_pos e0, if_pos (by rw [show (12 : Int32) = nI 12 from rfl, n_le (by omega) (by decide)]; omega), c_rel H W ht, qb_I, c_need H W ht, qb_I]
      exact c_earliest_loop W ht (rf := fn_X4_earliestOf m) (fun u σ2 hu e H2 K2 => by
        obtain ⟨σ3, a1, a2, a3, a4, _⟩ := ih (dp + 1) u σ2 (by omega) hu (by have := hh t u ht e; omega) H2 K2
        exact ⟨σ3, a1, a2, a3, a4⟩) (pn P) 0 qFU _ σ (by omega) (by unfold qFU; omega) H hK (pE_is W t ht).symm
    · rcases hK t ht with e1 | e1
      · exact absurd e1 e0
      · rw [if_neg e0, e1]
        exact ⟨σ, rfl, qsm.refl _ _, hK, fun _ _ e => e, e1⟩
theorem c_findEarliest_loop {j : Nat} (W : PW P) : ∀ (d i m : Nat) (σ : qS), i + d = pn P → d < m → Rep σ j P → EKn P σ → (∀ t, t < i → σ 14 0 t = pE P t) →
    ∃ σ', l_X4_findEarliest_15 j m (nI i) σ = qdo σ' ∧ qsm [14, 11] σ σ' ∧ (∀ t, t < pn P → σ' 14 0 t = pE P t) ∧ σ' 11 0 7 = fo (fun t a => qmax a (pE P t + pf P 0 t)) d i (σ 11 0 7) ∧ (∀ x, ¬ x = 7 → σ' 11 0 x = σ 11 0 x) := by
  have hn := W.1
  have hc : ∀ t u, t < pn P → ped P t u = true → u < pn P := fun t u h1 h2 => W.ed_lt h1 h2
  obtain ⟨h, hh, hb⟩ := g_rank hc W.2.2.2.1
  intro d
  induction d with
  | zero =>
    intro i m σ hi hm H hK h1
    obtain ⟨m, rfl⟩ : ∃ m', m = m' + 1 := ⟨m - 1, by omega⟩
    refine ⟨σ, ?_, qsm.refl _ _, fun t ht => h1 t (by omega), rfl, fun _ _ => rfl⟩
    simp only [l_X4_findEarliest_15, b_X4_findEarliest_15]
    rw [if_pos (by rw [H.1]; exact nI_le (by omega) (by omega))]
  | succ d ih =>
    intro i m σ hi hm H hK h1
    obtain ⟨m, rfl⟩ : ∃ m', m = m' + 1 := ⟨m - 1, by omega⟩
    simp only [l_X4_findEarliest_15, b_X4_findEarliest_15]
    obtain ⟨σ1, e1, q1, K1, M1, r1⟩ := c_earliestOf_n W hh 16 0 i σ rfl (by omega) (by have := hb i (by omega); omega) H hK
    have H1 := H.same q1 (by simp)
    have e1' : f_X4_earliestOf j 14 0 (nI i) 0 σ = qan (pE P i) σ1 := e1
    have ea : ∀ a b, a ≠ 14 → σ1 a b = σ a b := fun a b ha => q1 a b (by simpa using ha)
    rw [if_neg (by rw [H.1]; exact nI_ge (by omega) (by omega)), e1', qb_I, c_dur H1 W (by omega), qb_I, qlet_eq, nI_1, ea 11 0 (by decide)]
    have q2 : qsm [14, 11] σ (qu σ1 11 0 7 (qmax (σ 11 0 7) (pE P i + pf P 0 i))) := (q1.mono (by simp)).qu (by simp)
    have hne : ∀ t, qu σ1 11 0 7 (qmax (σ 11 0 7) (pE P i + pf P 0 i)) 14 0 t = σ1 14 0 t := fun t => by rw [qu_at, if_neg (by simp)]
    obtain ⟨σ2, e2, q3, r2, r3, r4⟩ := ih (i + 1) m (qu σ1 11 0 7 (qmax (σ 11 0 7) (pE P i + pf P 0 i))) (by omega) (by omega) (H.same q2 (by simp)) (fun t ht => by rw [hne]; exact K1 t ht) (fun t ht => by
      rw [hne]
      by_cases hti : t = i
      · subst hti; exact r1
      · exact M1 t (by omega) (h1 t (by omega)))
    refine ⟨σ2, e2, q2.trans q3, r2, ?_, fun x hx => ?_⟩
    · rw [r3, qu_at, if_pos ⟨rfl, rfl, rfl⟩, fo]
    · rw [r4 x hx, qu_at, if_neg (fun h => hx h.2.2), ea 11 0 (by decide)]
theorem c_findEarliest {j : Nat} (W : PW P) {σ : qS} (H : Rep σ j P) : ∃ σ', f_X4_findEarliest j σ = qdo σ' ∧ qsm [14, 11] σ σ' ∧ (∀ t, t < pn P → σ' 14 0 t = pE P t) ∧ σ' 11 0 7 = plast P (pE P) ∧ (∀ x, ¬ x = 7 → σ' 11 0 x = σ 11 0 x) := by
  have hn := W.1
  obtain ⟨σ1, e1, e2, e3⟩ := e_fillRow (k := 14) (j := 0) (L := 12) rfl (by decide) (-1 : Int32) σ
  have q1 : qsm [14, 11] σ (qu σ1 11 0 7 0) := (show qsm [14, 11] σ σ1 from fun a b ha => e2 a b (fun h => ha (by rw [h.1]; simp))).qu (by simp)
  have hne : ∀ t, qu σ1 11 0 7 0 14 0 t = σ1 14 0 t := fun t => by rw [qu_at, if_neg (by simp)]
  obtain ⟨σ2, a1, a2, a3, a4, a5⟩ := c_findEarliest_loop (j := j) W (pn P) 0 qFU (qu σ1 11 0 7 0) (by omega) (by unfold qFU; omega) (H.same q1 (by simp)) (fun t ht => by rw [hne, e3 t (by omega)]; exact Or.inl rfl) (fun t ht => by omega)
  refine ⟨σ2, ?_, q1.trans a2, a3, ?_, fun x hx => ?_⟩
  · unfold f_X4_findEarliest
    rw [e1, qb_V, qlet_eq]
    exact a1
  · rw [a4, qu_at, if_pos ⟨rfl, rfl, rfl⟩]
    rfl
  · rw [a5 x hx, qu_at, if_neg (fun h => hx h.2.2), e2 11 0 (by simp)]
end EA

