/-! links, settings, marks: both sides -/
section CL2
variable {P : qP} {σ : qS}
theorem prea_self (W : PW P) {t : Nat} (ht : t < pn P) : prea P t t = false := by
  cases h : prea P t t
  · rfl
  · obtain ⟨r, hr⟩ := W.2.2.2.1
    have := (gr_low (n := pn P) (h := r) (fun a b ha e => W.ed_lt ha e) hr ht (prea_iff.mp h)).2
    omega
theorem qch46 : qch (46 : Int32) := by decide
theorem qch105 : qch (105 : Int32) := by decide
theorem c_faultP {j : Nat} (H : Rep σ j P) (a b : Int32) : f_X5_faultOfPair j a b σ = qan (if (isT P a && isT P b) = true then 46 else 105) σ := by
  unfold f_X5_faultOfPair
  rw [c_faultT H, qb_I]
  cases isT P a
  · rw [if_neg (show ¬ false = true by decide), if_neg (by decide)]; rfl
  · rw [if_pos rfl, if_pos rfl, c_faultT H, qb_I]
    cases isT P b
    · rw [if_neg (show ¬ false = true by decide), if_pos qch105]; rfl
    · rw [if_pos rfl, if_pos qch46]; rfl
/-- the kinds of a link -/
theorem c_faultL {j : Nat} (W : PW P) (H : Rep σ j P) (a b : Int32) : ((isT P a && isT P b) = false ∧ f_X5_faultOfLinking j a b σ = qan 105 σ) ∨ (∃ t u, t < pn P ∧ u < pn P ∧ a = nI t ∧ b = nI u ∧ f_X5_faultOfLinking j a b σ = qan (if t = u then 97 else if prea P u t = true then 117 else 46) σ) := by
  have hn := W.1
  unfold f_X5_faultOfLinking
  rw [c_faultP H, qb_I]
  cases hx : isT P a
  · exact Or.inl ⟨rfl, by rw [show (false && isT P b) = false from rfl, if_neg (show ¬ false = true by decide), if_neg (by decide)]⟩
  · cases hy : isT P b
    · exact Or.inl ⟨rfl, by rw [show (true && false) = false from rfl, if_neg (show ¬ false = true by decide), if_neg (by decide)]⟩
    · obtain ⟨t, ht, rfl⟩ := (isT_iff W).mp hx
      obtain ⟨u, hu, rfl⟩ := (isT_iff W).mp hy
      refine Or.inr ⟨t, u, ht, hu, rfl, rfl, ?_⟩
      rw [show (true && true) = true from rfl, if_pos rfl, if_pos rfl]
      by_cases e : t = u
      · rw [if_pos (by rw [e]), if_pos e]
      · rw [if_neg (fun h => e ((n_eq (by omega) (by omega)).mp h)), if_neg e, c_reaches H W hu (by omega), qb_I]
        cases prea P u t <;> rfl
theorem c_link {j : Nat} (W : PW P) (H : Rep σ j P) {t u : Nat} (ht : t < pn P) : f_X5_link j (nI t) (nI u) σ = qdo (qu σ 6 j t (pf P 4 t ||| ((1 : Int32) <<< (nI u &&& 31)))) := by
  have hn := W.1
  unfold f_X5_link
  rw [c_need H W ht, qb_I, e_put (show t < qlen 6 by show t < 12; omega) (by decide), qb_V]
theorem c_unlink {j : Nat} (W : PW P) (H : Rep σ j P) {t u : Nat} (ht : t < pn P) : f_X5_unlink j (nI t) (nI u) σ = qdo (qu σ 6 j t (pf P 4 t &&& (((1 : Int32) <<< (nI u &&& 31)) ^^^ (-1 : Int32)))) := by
  have hn := W.1
  unfold f_X5_unlink
  rw [c_need H W ht, qb_I, e_put (show t < qlen 6 by show t < 12; omega) (by decide), qb_V]
theorem r_links74 (W : PW P) (H : RepR σ 27 0 P) {t u : Nat} (ht : t < pn P) (w : Int32) : j_X8_links_74 (nI t) (nI u) w σ = qan w (qu σ 27 0 (5 + 6 * t + 4) (pf P 4 t ||| ((1 : Int32) <<< (nI u &&& 31)))) := by
  have hn := W.1
  unfold j_X8_links_74
  have e := H.2.2.2 4 t (by decide) ht
  rw [show 0 + 5 + 6 * t + 4 = 5 + 6 * t + 4 by omega] at e
  rw [e_taskAt (by omega), qb_I, show (4 : Int32) = nI 4 from rfl, nI_add, if_pos (n_in (show 5 + 6 * t + 4 < 77 by omega) (by decide)), if_pos (n_in (show 5 + 6 * t + 4 < 77 by omega) (by decide)), nI_clamp (by omega), e, qlet_eq]
theorem r_links (W : PW P) (H : RepR σ 27 0 P) (a b : Int32) : ((isT P a && isT P b) = false ∧ f_X8_links a b σ = qan 0 (qu σ 26 0 17 1)) ∨ (∃ t u, t < pn P ∧ u < pn P ∧ a = nI t ∧ b = nI u ∧ ((t = u ∧ f_X8_links a b σ = qan 0 (qu σ 26 0 17 2)) ∨ (t ≠ u ∧ prea P u t = true ∧ f_X8_links a b σ = qan 0 (qu σ 26 0 17 3)) ∨ (t ≠ u ∧ prea P u t = false ∧ ∃ σ', f_X8_links a b σ = qan (qb1 (ped P t u)) σ' ∧ RepR σ' 27 0 (psetf P 4 t (pf P 4 t ||| ((1 : Int32) <<< (nI u &&& 31)))) ∧ σ' 26 0 17 = 0 ∧ Wo σ σ'))) := by
  have hn := W.1
  have h52 : ∀ x y z : Bool, j_X8_links_52 a b (qb1 x) (qb1 y) (qb1 z) σ = _ := fun x y z => r_holds3 (σ := σ) x y z
  have h34n : ∀ w : Bool, j_X8_links_34 a b (qb1 false) (qb1 false) (qb1 w) σ = qan 0 (qu σ 26 0 17 1) := fun w => by
    unfold j_X8_links_34
    rw [if_pos (by rfl)]
    exact (h52 false w false).trans (by rw [if_neg (show ¬ (false && w && false) = true by simp)]; rfl)
  have hno : (if a = b then j_X8_links_34 a b 0 0 0 σ else j_X8_links_34 a b 0 0 1 σ) = qan 0 (qu σ 26 0 17 1) := by
    split
    · exact h34n false
    · exact h34n true
  unfold f_X8_links
  rw [r_isT H, qb_I]
  cases hx : isT P a
  · exact Or.inl ⟨rfl, by rw [if_pos (by rfl)]; exact hno⟩
  · rw [if_neg (by decide), r_isT H, qb_I]
    cases hy : isT P b
    · exact Or.inl ⟨rfl, by rw [if_pos (by rfl)]; exact hno⟩
    · obtain ⟨t, ht, rfl⟩ := (isT_iff W).mp hx
      obtain ⟨u, hu, rfl⟩ := (isT_iff W).mp hy
      refine Or.inr ⟨t, u, ht, hu, rfl, rfl, ?_⟩
      rw [if_neg (by decide)]
      have h34 : ∀ w : Bool, j_X8_links_34 (nI t) (nI u) 1 (qb1 true) (qb1 w) σ = j_X8_links_52 (nI t) (nI u) (qb1 true) (qb1 w) (qb1 (!prea P u t)) σ := fun w => by
        unfold j_X8_links_34
        rw [if_neg (by decide), r_doesDepend H W hu (by omega), qb_I]
        cases prea P u t <;> rfl
      by_cases e : t = u
      · refine Or.inl ⟨e, ?_⟩
        rw [if_pos (by rw [e])]
        refine (h34 false).trans ((h52 true false _).trans ?_)
        rw [if_neg (show ¬ (true && false && !prea P u t) = true by simp)]
        rfl
      · rw [if_neg (fun h => e ((n_eq (by omega) (by omega)).mp h))]
        cases hp : prea P u t
        · refine Or.inr (Or.inr ⟨e, rfl, ?_⟩)
          have R1 : RepR (qu σ 26 0 17 0) 27 0 P := H.qt (Qt.thr _ _) (Or.inl rfl)
          refine ⟨qu (qu σ 26 0 17 0) 27 0 (5 + 6 * t + 4) (pf P 4 t ||| ((1 : Int32) <<< (nI u &&& 31))), ?_, R1.setf (by decide) _, by rw [qu_at, if_neg (by simp)]; exact thr_at _ _, (Wo.thr _ _).trans (Wo.of (qsm_qu _ 27 0 _ _) (by simp))⟩
          refine (h34 true).trans ((h52 true true _).trans ?_)
          rw [hp, if_pos (show (true && true && !false) = true by decide), r_needed R1 W ht (by omega), qb_I]
          cases ped P t u
          · rw [if_pos (by rfl), r_links74 W R1 ht]; rfl
          · rw [if_neg (by decide), r_links74 W R1 ht]; rfl
        · refine Or.inr (Or.inl ⟨e, rfl, ?_⟩)
          refine (h34 true).trans ((h52 true true _).trans ?_)
          rw [hp]
          rfl
theorem r_unlinks44 (W : PW P) (H : RepR σ 27 0 P) {t u : Nat} (ht : t < pn P) (w : Int32) : j_X8_unlinks_44 (nI t) (nI u) w σ = qan w (qu σ 27 0 (5 + 6 * t + 4) (pf P 4 t &&& (((1 : Int32) <<< (nI u &&& 31)) ^^^ (-1 : Int32)))) := by
  have hn := W.1
  unfold j_X8_unlinks_44
  have e := H.2.2.2 4 t (by decide) ht
  rw [show 0 + 5 + 6 * t + 4 = 5 + 6 * t + 4 by omega] at e
  rw [e_taskAt (by omega), qb_I, show (4 : Int32) = nI 4 from rfl, nI_add, if_pos (n_in (show 5 + 6 * t + 4 < 77 by omega) (by decide)), if_pos (n_in (show 5 + 6 * t + 4 < 77 by omega) (by decide)), nI_clamp (by omega), e, qlet_eq]
theorem r_unlinks (W : PW P) (H : RepR σ 27 0 P) (a b : Int32) : ((isT P a && isT P b) = false ∧ f_X8_unlinks a b σ = qan 0 (qu σ 26 0 17 1)) ∨ (∃ t u, t < pn P ∧ u < pn P ∧ a = nI t ∧ b = nI u ∧ ∃ σ', f_X8_unlinks a b σ = qan (qb1 (ped P t u)) σ' ∧ RepR σ' 27 0 (psetf P 4 t (pf P 4 t &&& (((1 : Int32) <<< (nI u &&& 31)) ^^^ (-1 : Int32)))) ∧ σ' 26 0 17 = 0 ∧ Wo σ σ') := by
  have hn := W.1
  have h22 : ∀ x : Bool, j_X8_unlinks_22 a b (qb1 x) σ = _ := fun x => r_goes1 (σ := σ) x
  unfold f_X8_unlinks
  rw [r_isT H, qb_I]
  cases hx : isT P a
  · exact Or.inl ⟨rfl, by rw [if_pos (by rfl)]; exact h22 false⟩
  · rw [if_neg (by decide), r_isT H, qb_I]
    cases hy : isT P b
    · exact Or.inl ⟨rfl, by rw [if_pos (by rfl)]; exact h22 false⟩
    · obtain ⟨t, ht, rfl⟩ := (isT_iff W).mp hx
      obtain ⟨u, hu, rfl⟩ := (isT_iff W).mp hy
      refine Or.inr ⟨t, u, ht, hu, rfl, rfl, ?_⟩
      have R1 : RepR (qu σ 26 0 17 0) 27 0 P := H.qt (Qt.thr _ _) (Or.inl rfl)
      refine ⟨qu (qu σ 26 0 17 0) 27 0 (5 + 6 * t + 4) (pf P 4 t &&& (((1 : Int32) <<< (nI u &&& 31)) ^^^ (-1 : Int32))), ?_, R1.setf (by decide) _, by rw [qu_at, if_neg (by simp)]; exact thr_at _ _, (Wo.thr _ _).trans (Wo.of (qsm_qu _ 27 0 _ _) (by simp))⟩
      rw [if_neg (by decide)]
      refine (h22 true).trans ?_
      rw [if_pos rfl, r_needed R1 W ht (by omega), qb_I]
      cases ped P t u
      · rw [if_pos (by rfl), r_unlinks44 W R1 ht]; rfl
      · rw [if_neg (by decide), r_unlinks44 W R1 ht]; rfl
/-! settings -/
theorem c_faultD {j : Nat} (H : Rep σ j P) (a v : Int32) : f_X5_faultOfDuration j a v σ = qan (if isT P a = false then 105 else if ((1 : Int32) ≤ v ∧ v ≤ 9) then 46 else 97) σ := by
  unfold f_X5_faultOfDuration
  rw [c_faultT H, qb_I]
  cases isT P a
  · rw [if_neg (show ¬ false = true by decide), if_neg (by decide), if_pos rfl]
  · rw [if_pos rfl, if_pos rfl, e_isWithin, qb_I, if_neg (show ¬ true = false by decide)]
    by_cases h : (1 : Int32) ≤ v ∧ v ≤ 9
    · rw [decide_eq_true h, if_neg (by decide), if_pos h]
    · rw [decide_eq_false h, if_pos (by rfl), if_neg h]
theorem c_faultR {j : Nat} (H : Rep σ j P) (a v : Int32) : f_X5_faultOfRelease j a v σ = qan (if isT P a = false then 105 else if ((0 : Int32) ≤ v ∧ v ≤ 30) then 46 else 97) σ := by
  unfold f_X5_faultOfRelease
  rw [c_faultT H, qb_I]
  cases isT P a
  · rw [if_neg (show ¬ false = true by decide), if_neg (by decide), if_pos rfl]
  · rw [if_pos rfl, if_pos rfl, e_isWithin, qb_I, if_neg (show ¬ true = false by decide)]
    by_cases h : (0 : Int32) ≤ v ∧ v ≤ 30
    · rw [decide_eq_true h, if_neg (by decide), if_pos h]
    · rw [decide_eq_false h, if_pos (by rfl), if_neg h]
theorem c_faultLim {j : Nat} (a v : Int32) : f_X5_faultOfLimit j a v σ = qan (if isR a = true ∧ ((5 : Int32) ≤ v ∧ v ≤ 20) then 46 else 97) σ := by
  unfold f_X5_faultOfLimit isR
  rw [e_isWithin, qb_I]
  cases decide ((0 : Int32) ≤ a ∧ a ≤ 2)
  · rw [if_pos (by rfl), if_pos rfl, if_neg (fun h => by cases h.1)]
  · rw [if_neg (by decide), e_isWithin, qb_I]
    by_cases h : (5 : Int32) ≤ v ∧ v ≤ 20
    · rw [decide_eq_true h, if_neg (by decide), if_neg (by decide), if_pos ⟨rfl, h⟩]
    · rw [decide_eq_false h, if_pos (by rfl), if_pos rfl, if_neg (fun hh => h hh.2)]
theorem r_ofx (H : RepR σ 27 0 P) {x : Int32} (hx : isT P x = false) {f : Nat} (hf : f < 6) : ∃ v, f_X8_of x (nI f) σ = qan v σ := by
  unfold f_X8_of
  rw [r_isT H, hx, qb_I, if_pos (by rfl), show (0 : Int32) = nI 0 from rfl, e_taskAt (by omega), qb_I, nI_add, if_pos (n_in (by omega) (by decide))]
  exact ⟨_, rfl⟩
theorem r_sets (W : PW P) (H : RepR σ 27 0 P) (a v lo hi : Int32) {f : Nat} (hf : f < 6) : (isT P a = false ∧ ∃ r, f_X8_sets a (nI f) v lo hi σ = qan r (qu σ 26 0 17 1)) ∨ (∃ t, t < pn P ∧ a = nI t ∧ ((¬ (lo ≤ v ∧ v ≤ hi) ∧ ∃ r, f_X8_sets a (nI f) v lo hi σ = qan r (qu σ 26 0 17 2)) ∨ ((lo ≤ v ∧ v ≤ hi) ∧ ∃ σ', f_X8_sets a (nI f) v lo hi σ = qan (pf P f t) σ' ∧ RepR σ' 27 0 (psetf P f t v) ∧ σ' 26 0 17 = 0 ∧ Wo σ σ'))) := by
  have hn := W.1
  unfold f_X8_sets
  cases hx : isT P a
  · obtain ⟨r, hr⟩ := r_ofx H hx hf
    refine Or.inl ⟨rfl, r, ?_⟩
    rw [hr, qb_I, r_isT H, qb_I, r_isIn, qb_I, hx]
    show qbind (f_X8_holds (qb1 false) (qb1 _) (qb1 true) σ) _ _ = _
    rw [r_holds, qb_I, if_pos (by simp [qb1])]
    rfl
  · obtain ⟨t, ht, rfl⟩ := (isT_iff W).mp hx
    refine Or.inr ⟨t, ht, rfl, ?_⟩
    rw [r_of H W ht hf, qb_I, r_isT H, qb_I, r_isIn, qb_I, hx]
    by_cases h : lo ≤ v ∧ v ≤ hi
    · refine Or.inr ⟨h, ?_⟩
      have R1 : RepR (qu σ 26 0 17 0) 27 0 P := H.qt (Qt.thr _ _) (Or.inl rfl)
      refine ⟨qu (qu σ 26 0 17 0) 27 0 (5 + 6 * t + f) v, ?_, R1.setf hf _, by rw [qu_at, if_neg (by simp)]; exact thr_at _ _, (Wo.thr _ _).trans (Wo.of (qsm_qu _ 27 0 _ _) (by simp))⟩
      rw [decide_eq_true h]
      show qbind (f_X8_holds (qb1 true) (qb1 true) (qb1 true) σ) _ _ = _
      rw [r_holds, qb_I, if_neg (by decide), e_taskAt (by omega), qb_I, nI_add, if_pos (n_in (by omega) (by decide)), nI_clamp (by omega), qlet_eq]
      rfl
    · refine Or.inl ⟨h, pf P f t, ?_⟩
      rw [decide_eq_false h]
      show qbind (f_X8_holds (qb1 true) (qb1 false) (qb1 true) σ) _ _ = _
      rw [r_holds, qb_I, if_pos (by decide)]
      rfl
theorem r_limits (W : PW P) (H : RepR σ 27 0 P) (a v : Int32) : (¬ (isR a = true ∧ ((5 : Int32) ≤ v ∧ v ≤ 20)) ∧ f_X8_limits a v σ = qan 0 (qu σ 26 0 17 1)) ∨ ((isR a = true ∧ ((5 : Int32) ≤ v ∧ v ≤ 20)) ∧ ∃ r, r < 3 ∧ a = nI r ∧ ∃ σ', f_X8_limits a v σ = qan (pl P r) σ' ∧ RepR σ' 27 0 (plimf P r v) ∧ σ' 26 0 17 = 0 ∧ Wo σ σ') := by
  have h23 : ∀ x : Bool, j_X8_limits_23 a v (qb1 x) σ = _ := fun x => r_goes1 (σ := σ) x
  unfold f_X8_limits
  rw [r_isR, qb_I]
  cases hx : isR a
  · exact Or.inl ⟨fun h => (by cases h.1), by rw [if_pos (by rfl)]; exact h23 false⟩
  · rw [if_neg (by decide), r_isIn, qb_I]
    by_cases h : (5 : Int32) ≤ v ∧ v ≤ 20
    · obtain ⟨r, hr, rfl⟩ := isR_iff.mp hx
      have R1 : RepR (qu σ 26 0 17 0) 27 0 P := H.qt (Qt.thr _ _) (Or.inl rfl)
      refine Or.inr ⟨⟨rfl, h⟩, r, hr, rfl, qu (qu σ 26 0 17 0) 27 0 (2 + r) v, ?_, R1.lim hr _, by rw [qu_at, if_neg (by simp)]; exact thr_at _ _, (Wo.thr _ _).trans (Wo.of (qsm_qu _ 27 0 _ _) (by simp))⟩
      rw [decide_eq_true h, if_neg (by decide)]
      refine (h23 true).trans ?_
      rw [if_pos rfl, show (2 : Int32) = nI 2 from rfl, nI_add, if_pos (n_in (show 2 + r < 77 by omega) (by decide)), if_pos (n_in (show 2 + r < 77 by omega) (by decide)), nI_clamp (by omega), r_lim R1 hr, qlet_eq]
    · exact Or.inl ⟨fun hh => h hh.2, by rw [decide_eq_false h, if_pos (by rfl)]; exact h23 false⟩
/-! marks -/
theorem r_marks_loop (W : PW P) : ∀ (d i m : Nat) (s : qS), i + d = pn P → d < m → s 27 0 0 = nI (pn P) → (∀ t, t < pn P → s 33 0 t = nI (pV P t)) → ∃ s', l_X8_marks_11 m (nI i) s = qbind (f_X8_lastOf 33 0 (qu s' 27 0 1 1)) (qvI (fun r1 s4 => (some (.inl (some (qI r1)), s4)))) qE0 ∧ qsm [27] s s' ∧ (∀ y, (∀ t, i ≤ t → t < pn P → y ≠ 5 + 6 * t + 5) → s' 27 0 y = s 27 0 y) ∧ ∀ t, i ≤ t → t < pn P → s' 27 0 (5 + 6 * t + 5) = nI (pV P t) := by
  have hn := W.1
  intro d
  induction d with
  | zero =>
    intro i m s hi hm h0 h33
    obtain ⟨m, rfl⟩ : ∃ m', m = m' + 1 := ⟨m - 1, by omega⟩
    refine ⟨s, ?_, qsm.refl _ s, fun y _ => rfl, fun t h1 h2 => by omega⟩
    simp only [l_X8_marks_11, b_X8_marks_11]
    rw [h0, if_pos (nI_le (by omega) (by omega)), qlet_eq]
  | succ d ih =>
    intro i m s hi hm h0 h33
    obtain ⟨m, rfl⟩ : ∃ m', m = m' + 1 := ⟨m - 1, by omega⟩
    obtain ⟨s', e, o, c, c'⟩ := ih (i + 1) m (qu s 27 0 (5 + 6 * i + 5) (nI (pV P i))) (by omega) (by omega) (by rw [qu_at, if_neg (by omega)]; exact h0) (fun t ht => by rw [qu_at, if_neg (by simp)]; exact h33 t ht)
    refine ⟨s', ?_, (qsm_qu s 27 0 _ _).trans o, fun y hy => ?_, fun t h1 h2 => ?_⟩
    · simp only [l_X8_marks_11, b_X8_marks_11]
      rw [h0, if_neg (nI_ge (by omega) (by omega)), e_taskAt (by omega), qb_I, if_pos (n_in (by omega) (by decide)), show (5 : Int32) = nI 5 from rfl, nI_add, if_pos (n_in (show 5 + 6 * i + 5 < 77 by omega) (by decide)), nI_clamp (by omega), nI_clamp (by omega), h33 i (by omega), qlet_eq, nI_1]
      exact e
    · rw [c y (fun t h1 h2 => hy t (by omega) h2), qu_at, if_neg (fun h => hy i (Nat.le_refl _) (by omega) h.2.2)]
    · by_cases h3 : t = i
      · subst h3
        rw [c _ (fun t' h4 h5 => by omega), qu_at, if_pos ⟨rfl, rfl, rfl⟩]
      · rw [c' t (by omega) h2]
theorem r_marks (W : PW P) (H : RepR σ 27 0 P) : ∃ σ', f_X8_marks σ = qan (nI (pend P (pn P))) σ' ∧ RepR σ' 27 0 (pmark P) ∧ σ' 26 0 17 = 0 ∧ Wo σ σ' := by
  have hn := W.1
  have R1 : RepR (qu σ 26 0 17 0) 27 0 P := H.qt (Qt.thr _ _) (Or.inl rfl)
  obtain ⟨s1, e1, q1, a2, b2, l2⟩ := r_levels W R1
  have R2 := R1.same q1 (by simp)
  have h33 : ∀ t, t < pn P → s1 33 0 t = nI (pV P t) := fun t ht => l2.1 t ht (pst_full W ht)
  obtain ⟨s2, e2, q2, c2, c3⟩ := r_marks_loop W (pn P) 0 qFU s1 (by omega) (by unfold qFU; omega) R2.1 h33
  have q : qsm [27] s1 (qu s2 27 0 1 1) := q2.trans (qsm_qu _ 27 0 _ _)
  have RM : RepR (qu s2 27 0 1 1) 27 0 (pmark P) := by
    refine ⟨?_, ?_, fun r hr => ?_, fun f t hf ht => ?_⟩
    · rw [qu_at, if_neg (by omega), c2 _ (fun t _ _ => by omega)]; exact R2.1
    · rw [qu_at, if_pos ⟨rfl, rfl, rfl⟩]; rfl
    · rw [qu_at, if_neg (by omega), c2 _ (fun t _ _ => by omega)]; exact R2.2.2.1 r hr
    · have ht : t < pn P := ht
      show _ = (if f = 5 then nI (pV P t) else pf P f t)
      rw [qu_at, if_neg (by omega)]
      by_cases h5 : f = 5
      · subst h5
        rw [if_pos rfl, show 0 + 5 + 6 * t + 5 = 5 + 6 * t + 5 by omega, c3 t (by omega) ht]
      · rw [if_neg h5, c2 _ (fun u _ _ => by omega)]
        exact R2.2.2.2 f t hf ht
  refine ⟨qu s2 27 0 1 1, ?_, RM, by rw [q 26 0 (by simp), q1 26 0 (by simp)]; exact thr_at _ _, ((Wo.thr _ _).trans (Wo.of q1 (by simp))).trans (Wo.of q (by simp))⟩
  have hE : pend P (pn P) ≤ 138 := by
    rw [pend_le W (pn P) (Nat.le_refl _)]
    intro u hu
    have := ((pst_spec W (pn P) (Nat.le_refl _)).2 u hu).2.1
    omega
  have h33' : ∀ u, u < pn P → (qu s2 27 0 1 1) 33 0 u = nI (pV P u) := fun u hu => by rw [q 33 0 (by simp)]; exact h33 u hu
  unfold f_X8_marks
  rw [qlet_eq, e1, qb_V]
  erw [e2]
  rw [r_lastOf W.mark RM rfl, qb_I]
  show qan (plast P ((qu s2 27 0 1 1) 33 0)) _ = _
  rw [plast_congr h33', pend_last W hE]
end CL2
