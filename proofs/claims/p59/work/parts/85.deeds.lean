/-! THE DEEDS: whatever is asked of the class, it keeps its order; nothing of the law's own moves -/
def Wk (σ σ' : qS) : Prop := ∀ a b, 26 ≤ a → σ' a b = σ a b
theorem Wk.refl (σ : qS) : Wk σ σ := fun _ _ _ => rfl
theorem Wk.trans {σ σ' σ'' : qS} (h : Wk σ σ') (h2 : Wk σ' σ'') : Wk σ σ'' := fun a b ha => (h2 a b ha).trans (h a b ha)
theorem Qt.wk {σ σ' : qS} (h : Qt σ σ') : Wk σ σ' := fun a b ha => h.1 a b (by simp only [List.mem_cons, List.not_mem_nil, or_false]; omega)
theorem Q0.wk {σ σ' : qS} (h : Q0 0 σ σ') : Wk σ σ' := fun a b ha => h a b (by omega)
def Ch (e : Option qO) (σ : qS) : Prop := ∃ (r : Int32) (P' : qP) (hs' : List qP) (σ' : qS), e = qan r σ' ∧ InvB σ' P' hs' ∧ PlanSt P' σ' ∧ Wk σ σ'
def De (e : Option qO) (σ : qS) : Prop := (∃ E, (E = qIOE ∨ E = qIAE ∨ E = qISE ∨ E = qUOE) ∧ e = qth E σ) ∨ Ch e σ
section DE
variable {P P' : qP} {hs : List qP} {σ : qS}
theorem cw_begin (I : InvB σ P hs) : ∃ (nx : Nat) (s1 : qS), f_X7_beginChange σ = qdo s1 ∧ HC s1 (hpush hs P) nx ∧ Rep s1 0 P ∧ s1 0 0 8 = 0 ∧ Wk σ s1 ∧ HP (hpush hs P) := by
  obtain ⟨W, H, ⟨nx, C⟩, hp⟩ := I
  obtain ⟨s1, e1, C1, H1, z1, o1, p1⟩ := c_begin W C H
  exact ⟨_, s1, e1, C1, H1, z1, fun a b ha => o1 a b (by omega) (by omega) (by omega), hp.push W⟩
theorem d_add (I : InvB σ P hs) (a b c d : Int32) : De (f_X7_addTask a b c d σ) σ := by
  have W := I.1
  have H := I.2.1
  have hn := W.1
  have hcf := c_faultA W H a b c d
  unfold f_X7_addTask
  cases hf : fineA a b c d
  · rw [hf, if_pos rfl] at hcf
    rw [hcf]
    exact Or.inl ⟨qIAE, Or.inr (Or.inl rfl), rfl⟩
  · rw [hf, if_neg (by decide)] at hcf
    by_cases h12 : pn P = 12
    · rw [if_pos h12] at hcf
      rw [hcf]
      exact Or.inl ⟨qISE, Or.inr (Or.inr (Or.inl rfl)), rfl⟩
    · rw [if_neg h12] at hcf
      obtain ⟨nx, s1, e1, C1, H1, z1, c1, hp⟩ := cw_begin I
      obtain ⟨s2, e2, H2, q2⟩ := c_append H1 (by omega) a b c d
      have hfa := hf
      unfold fineA isR at hfa
      simp only [Bool.and_eq_true, decide_eq_true_iff] at hfa
      obtain ⟨⟨⟨f1, f2⟩, f3⟩, f4⟩ := hfa
      simp only [i_le] at f1 f2 f3 f4
      have W' : PW (padd P a b c d) := W.add (by omega) f1 f2 f3 f4
      rw [hcf, qb_I, rf_46, qb_V, e1, qb_V, e2, qb_I]
      exact Or.inr ⟨_, _, _, s2, rfl, ⟨W', H2, ⟨nx, C1.q0 q2⟩, hp⟩, PlanSt.no z1 q2, c1.trans q2.wk⟩
theorem d_remove (I : InvB σ P hs) (a : Int32) : De (f_X7_removeTask a σ) σ := by
  have W := I.1
  have H := I.2.1
  have hn := W.1
  have hcf := c_faultT H a
  unfold f_X7_removeTask
  cases hf : isT P a
  · rw [hf, if_neg (by decide)] at hcf
    rw [hcf]
    exact Or.inl ⟨qIOE, Or.inl rfl, rfl⟩
  · rw [hf, if_pos rfl] at hcf
    obtain ⟨x, hx, rfl⟩ := (isT_iff W).mp hf
    obtain ⟨nx, s1, e1, C1, H1, z1, c1, hp⟩ := cw_begin I
    obtain ⟨s2, e2, H2, q2⟩ := c_drop W H1 hx
    rw [hcf, qb_I, rf_46, qb_V, e1, qb_V, e2, qb_V]
    exact Or.inr ⟨_, _, _, s2, rfl, ⟨W.drop hx, H2, ⟨nx, C1.q0 q2⟩, hp⟩, PlanSt.no z1 q2, c1.trans q2.wk⟩
theorem d_link (I : InvB σ P hs) (a b : Int32) : De (f_X7_addDependency a b σ) σ := by
  have W := I.1
  have H := I.2.1
  have hn := W.1
  unfold f_X7_addDependency
  rcases c_faultL W H a b with ⟨hb, hcf⟩ | ⟨t, u, ht, hu, rfl, rfl, hcf⟩
  · rw [hcf]
    exact Or.inl ⟨qIOE, Or.inl rfl, rfl⟩
  · by_cases e : t = u
    · rw [if_pos e] at hcf
      rw [hcf]
      exact Or.inl ⟨qIAE, Or.inr (Or.inl rfl), rfl⟩
    · rw [if_neg e] at hcf
      cases hp : prea P u t
      · rw [hp, if_neg (by decide)] at hcf
        obtain ⟨nx, s1, e1, C1, H1, z1, c1, hpp⟩ := cw_begin I
        have H2 := H1.setf (f := 4) (t := t) (by decide) (pf P 4 t ||| ((1 : Int32) <<< (nI u &&& 31)))
        have q2 : Q0 0 s1 (qu s1 (2 + 4) 0 t (pf P 4 t ||| ((1 : Int32) <<< (nI u &&& 31)))) := Q0.qu s1 (by omega) (by omega)
        refine Or.inr ⟨qb1 (!ped P t u), _, _, _, ?_, ⟨W.link ht hu e hp, H2, ⟨nx, C1.q0 q2⟩, hpp⟩, PlanSt.no z1 q2, c1.trans q2.wk⟩
        rw [hcf, qb_I, rf_46, qb_V, e1, qb_V, c_linked H1 W ht (by omega), qb_I]
        cases ped P t u
        · rw [if_pos (by rfl), c_link W H1 ht]; rfl
        · rw [if_neg (by decide), c_link W H1 ht]; rfl
      · rw [hp, if_pos rfl] at hcf
        rw [hcf]
        exact Or.inl ⟨qUOE, Or.inr (Or.inr (Or.inr rfl)), rfl⟩
theorem d_unlink (I : InvB σ P hs) (a b : Int32) : De (f_X7_removeDependency a b σ) σ := by
  have W := I.1
  have H := I.2.1
  have hn := W.1
  have hcf := c_faultP H a b
  unfold f_X7_removeDependency
  cases hb : (isT P a && isT P b)
  · rw [hb, if_neg (by decide)] at hcf
    rw [hcf]
    exact Or.inl ⟨qIOE, Or.inl rfl, rfl⟩
  · rw [hb, if_pos rfl] at hcf
    rw [Bool.and_eq_true] at hb
    obtain ⟨t, ht, rfl⟩ := (isT_iff W).mp hb.1
    obtain ⟨u, hu, rfl⟩ := (isT_iff W).mp hb.2
    obtain ⟨nx, s1, e1, C1, H1, z1, c1, hpp⟩ := cw_begin I
    have H2 := H1.setf (f := 4) (t := t) (by decide) (pf P 4 t &&& (((1 : Int32) <<< (nI u &&& 31)) ^^^ (-1 : Int32)))
    have q2 : Q0 0 s1 (qu s1 (2 + 4) 0 t (pf P 4 t &&& (((1 : Int32) <<< (nI u &&& 31)) ^^^ (-1 : Int32)))) := Q0.qu s1 (by omega) (by omega)
    refine Or.inr ⟨qb1 (ped P t u), _, _, _, ?_, ⟨W.unlink ht hu, H2, ⟨nx, C1.q0 q2⟩, hpp⟩, PlanSt.no z1 q2, c1.trans q2.wk⟩
    rw [hcf, qb_I, rf_46, qb_V, e1, qb_V, c_linked H1 W ht (by omega), qb_I, c_unlink W H1 ht, qb_V, if_pos (qb1_bo _)]
theorem d_dur (I : InvB σ P hs) (a v : Int32) : De (f_X7_setDuration a v σ) σ := by
  have W := I.1
  have H := I.2.1
  have hn := W.1
  have hcf := c_faultD H a v
  unfold f_X7_setDuration
  cases hf : isT P a
  · rw [hf, if_pos rfl] at hcf
    rw [hcf]
    exact Or.inl ⟨qIOE, Or.inl rfl, rfl⟩
  · rw [hf, if_neg (by decide)] at hcf
    obtain ⟨t, ht, rfl⟩ := (isT_iff W).mp hf
    by_cases hv : (1 : Int32) ≤ v ∧ v ≤ 9
    · rw [if_pos hv] at hcf
      obtain ⟨nx, s1, e1, C1, H1, z1, c1, hpp⟩ := cw_begin I
      have H2 := H1.setf (f := 0) (t := t) (by decide) v
      have q2 : Q0 0 s1 (qu s1 (2 + 0) 0 t v) := Q0.qu s1 (by omega) (by omega)
      have hv2 := hv
      rw [i_le, i_le] at hv2
      refine Or.inr ⟨pf P 0 t, _, _, _, ?_, ⟨W.set0 ht hv2, H2, ⟨nx, C1.q0 q2⟩, hpp⟩, PlanSt.no z1 q2, c1.trans q2.wk⟩
      rw [hcf, qb_I, rf_46, qb_V, e1, qb_V, c_dur H1 W ht, qb_I, e_put (show t < qlen 2 by show t < 12; omega) (by decide)]
      rfl
    · rw [if_neg hv] at hcf
      rw [hcf]
      exact Or.inl ⟨qIAE, Or.inr (Or.inl rfl), rfl⟩
theorem d_rel (I : InvB σ P hs) (a v : Int32) : De (f_X7_setRelease a v σ) σ := by
  have W := I.1
  have H := I.2.1
  have hn := W.1
  have hcf := c_faultR H a v
  unfold f_X7_setRelease
  cases hf : isT P a
  · rw [hf, if_pos rfl] at hcf
    rw [hcf]
    exact Or.inl ⟨qIOE, Or.inl rfl, rfl⟩
  · rw [hf, if_neg (by decide)] at hcf
    obtain ⟨t, ht, rfl⟩ := (isT_iff W).mp hf
    by_cases hv : (0 : Int32) ≤ v ∧ v ≤ 30
    · rw [if_pos hv] at hcf
      obtain ⟨nx, s1, e1, C1, H1, z1, c1, hpp⟩ := cw_begin I
      have H2 := H1.setf (f := 3) (t := t) (by decide) v
      have q2 : Q0 0 s1 (qu s1 (2 + 3) 0 t v) := Q0.qu s1 (by omega) (by omega)
      have hv2 := hv
      rw [i_le, i_le] at hv2
      refine Or.inr ⟨pf P 3 t, _, _, _, ?_, ⟨W.set3 ht hv2, H2, ⟨nx, C1.q0 q2⟩, hpp⟩, PlanSt.no z1 q2, c1.trans q2.wk⟩
      rw [hcf, qb_I, rf_46, qb_V, e1, qb_V, c_rel H1 W ht, qb_I, e_put (show t < qlen 5 by show t < 12; omega) (by decide)]
      rfl
    · rw [if_neg hv] at hcf
      rw [hcf]
      exact Or.inl ⟨qIAE, Or.inr (Or.inl rfl), rfl⟩
theorem d_lim (I : InvB σ P hs) (a v : Int32) : De (f_X7_setLimit a v σ) σ := by
  have W := I.1
  have H := I.2.1
  have hn := W.1
  have hcf := c_faultLim (σ := σ) (j := 0) a v
  unfold f_X7_setLimit
  by_cases hf : isR a = true ∧ ((5 : Int32) ≤ v ∧ v ≤ 20)
  · rw [if_pos hf] at hcf
    obtain ⟨r, hr, rfl⟩ := isR_iff.mp hf.1
    obtain ⟨nx, s1, e1, C1, H1, z1, c1, hpp⟩ := cw_begin I
    have H2 := H1.lim r v
    have q2 : Q0 0 s1 (qu s1 8 0 r v) := Q0.qu s1 (by omega) (by omega)
    have hv2 := hf.2
    rw [i_le, i_le] at hv2
    refine Or.inr ⟨pl P r, _, _, _, ?_, ⟨W.lim hv2, H2, ⟨nx, C1.q0 q2⟩, hpp⟩, PlanSt.no z1 q2, c1.trans q2.wk⟩
    rw [hcf, qb_I, rf_46, qb_V, e1, qb_V, c_lim H1 hr, qb_I, e_put (show r < qlen 8 from hr) (by decide)]
    rfl
  · rw [if_neg hf] at hcf
    rw [hcf]
    exact Or.inl ⟨qIAE, Or.inr (Or.inl rfl), rfl⟩
theorem d_mark (I : InvB σ P hs) : Ch (f_X7_takeBaseline σ) σ := by
  have W := I.1
  have hn := W.1
  obtain ⟨nx, s1, e1, C1, H1, z1, c1, hpp⟩ := cw_begin I
  obtain ⟨s2, e2, q2, p2⟩ := c_make W H1
  have H2 := H1.same q2 (by simp)
  have q3 : qsm [0] s2 (qu s2 0 0 8 1) := qsm_qu s2 0 0 8 1
  have p3 := p2.same q3 (by simp)
  have H3 := H2.same q3 (by simp)
  obtain ⟨s4, e4, H4, q4⟩ := c_takeStarts W H3 p3
  have k9 : (qu s2 0 0 8 1) 9 0 = s1 9 0 := by rw [q3 9 0 (by simp), q2 9 0 (by simp)]
  have C3 : HC (qu s2 0 0 8 1) (hpush hs P) nx := ⟨C1.1, by rw [k9]; exact C1.2.1, C1.2.2.1, by rw [k9]; exact C1.2.2.2.1, fun i Q hQ => (C1.2.2.2.2 i Q hQ).tr (fun a h1 h2 => by rw [q3 a _ (by simp; omega), q2 a _ (by simp only [List.mem_cons, List.not_mem_nil, or_false]; omega)])⟩
  have c3 : Wk s1 (qu s2 0 0 8 1) := fun a b ha => by
    rw [q3 a b (by simp; omega), q2 a b (by simp only [List.mem_cons, List.not_mem_nil, or_false]; omega)]
  have cc := (c1.trans c3).trans q4.wk
  have p4 : PlanOK P s4 := by
    have q4' : ∀ a, 10 < a → s4 a 0 = (qu s2 0 0 8 1) a 0 := fun a ha => q4 a 0 (by omega)
    obtain ⟨a1, a2, a3, a4, a5, ⟨a6, a7⟩, a8, a9⟩ := p3
    exact ⟨fun k hk => by rw [q4' 12 (by decide)]; exact a1 k hk, fun x hx u => by rw [q4' 13 (by decide)]; exact a2 x hx u, fun t ht => by rw [q4' 14 (by decide)]; exact a3 t ht, fun t ht => by rw [q4' 15 (by decide)]; exact a4 t ht, fun t ht => by rw [q4' 16 (by decide)]; exact a5 t ht, ⟨fun t ht hx => by rw [q4' 17 (by decide)]; exact a6 t ht hx, fun r d hr hd => by rw [q4' 18 (by decide)]; exact a7 r d hr hd⟩, by rw [q4' 11 (by decide)]; exact a8, by rw [q4' 11 (by decide)]; exact a9⟩
  have S4 : PlanSt (pmark P) s4 := Or.inr ⟨by rw [q4 0 0 (by omega), qu_at, if_pos ⟨rfl, rfl, rfl⟩], p4.mark⟩
  refine ⟨nI (pend P (pn P)), pmark P, hpush hs P, s4, ?_, ⟨W.mark, H4, ⟨nx, C3.q0 q4⟩, hpp⟩, S4, cc⟩
  unfold f_X7_takeBaseline f_X7_currentPlan
  rw [e1, qb_V, if_pos z1, e2, qb_V, qlet_eq, qb_P, e4, qb_V, p4.2.2.2.2.2.2.2]
/-! told, deed -/
theorem e_told (b : Bool) (s : qS) : f_L_told (qb1 b) s = qan (qb1 b) s := by
  cases b <;> rfl
theorem e_told1 (x : Int32) (s : qS) : ∃ r, f_L_told x s = qan r s := by
  unfold f_L_told
  by_cases h : x = 0
  · rw [if_pos h]; exact ⟨_, rfl⟩
  · rw [if_neg h]; exact ⟨_, rfl⟩
theorem De.go {e : Option qO} (h : De e σ) {k : Int32 → qS → Option qO} {kE : String → qS → Option qO} (hk : ∀ x s, ∃ r, k x s = qan r s) (hE : ∀ E s, kE E s = qth E s) : De (qbind e (qvI k) kE) σ := by
  rcases h with ⟨E, h1, h2⟩ | ⟨r, P', hs', σ', h1, h2⟩
  · rw [h2, qb_E, hE]
    exact Or.inl ⟨E, h1, rfl⟩
  · rw [h1, qb_I]
    obtain ⟨r', hr⟩ := hk r σ'
    exact Or.inr ⟨r', P', hs', σ', hr, h2⟩
theorem De.deed (I : InvB σ P hs) (S : PlanSt P σ) {w a b c d : Int32} (h : De (f_L_plain w a b c d σ) σ) : Ch (f_L_deed w a b c d σ) σ := by
  unfold f_L_deed
  rcases h with ⟨E, h1, h2⟩ | ⟨r, P', hs', σ', h1, h2⟩
  · rw [h2, qb_E]
    rcases h1 with rfl | rfl | rfl | rfl
    · rw [if_pos rfl]; exact ⟨_, P, hs, σ, rfl, I, S, Wk.refl σ⟩
    · rw [if_neg (by decide), if_pos rfl]; exact ⟨_, P, hs, σ, rfl, I, S, Wk.refl σ⟩
    · rw [if_neg (by decide), if_neg (by decide), if_pos rfl]; exact ⟨_, P, hs, σ, rfl, I, S, Wk.refl σ⟩
    · rw [if_neg (by decide), if_neg (by decide), if_neg (by decide), if_pos rfl]; exact ⟨_, P, hs, σ, rfl, I, S, Wk.refl σ⟩
  · rw [h1, qb_I]
    exact ⟨r, P', hs', σ', rfl, h2⟩
/-- every deed -/
theorem d_deed (I : InvB σ P hs) (S : PlanSt P σ) {k : Nat} (hk : k < 8) (a b c d : Int32) : Ch (f_L_deed (nI k) a b c d σ) σ := by
  refine De.deed I S ?_
  have k1 : ∀ (x : Int32) (s : qS), ∃ r, (fun r1 s1 => (some (.inl (some (qI r1)), s1) : Option qO)) x s = qan r s := fun x s => ⟨x, rfl⟩
  have k2 : ∀ (x : Int32) (s : qS), ∃ r, qbind (f_L_told x s) (qvI (fun r4 s4 => (some (.inl (some (qI r4)), s4)))) qE0 = qan r s := fun x s => by
    obtain ⟨r, hr⟩ := e_told1 x s
    exact ⟨r, by rw [hr, qb_I]⟩
  have kE : ∀ E s, qE1 E s = qth E s := fun _ _ => rfl
  obtain rfl | rfl | rfl | rfl | rfl | rfl | rfl | rfl : k = 0 ∨ k = 1 ∨ k = 2 ∨ k = 3 ∨ k = 4 ∨ k = 5 ∨ k = 6 ∨ k = 7 := by omega
  · exact (d_add I a b c d).go k1 kE
  · exact (d_remove I a).go k1 kE
  · exact (d_link I a b).go k2 kE
  · exact (d_unlink I a b).go k2 kE
  · exact (d_dur I a b).go k1 kE
  · exact (d_rel I a b).go k1 kE
  · exact (d_lim I a b).go k1 kE
  · show De (qbind (f_X7_takeBaseline σ) _ qE0) σ
    obtain ⟨r, P', hs', σ', h1, h2⟩ := d_mark I
    rw [h1, qb_I]
    exact Or.inr ⟨r, P', hs', σ', rfl, h2⟩
end DE
