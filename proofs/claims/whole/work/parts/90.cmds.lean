/-! a script's commands, one by one -/
theorem qsw_hit : ∀ (os : List (Option qO)) (k : Int) (x : Int32) (i : Nat) (o od : Option qO), x.toInt = k + i → os[i]? = some o → qsw x k os od = o
  | [], _, _, _, _, _, _, h => by simp at h
  | o1 :: t, k, x, 0, o, od, hx, h => by
    simp only [List.getElem?_cons_zero, Option.some.injEq] at h
    unfold qsw
    rw [if_pos (by omega)]
    exact h
  | o1 :: t, k, x, i + 1, o, od, hx, h => by
    simp only [List.getElem?_cons_succ] at h
    unfold qsw
    rw [if_neg (by omega)]
    exact qsw_hit t (k + 1) x i o od (by omega) h
theorem qsw_out : ∀ (os : List (Option qO)) (k : Int) (x : Int32) (od : Option qO), (x.toInt < k ∨ k + os.length ≤ x.toInt) → qsw x k os od = od
  | [], _, _, _, _ => rfl
  | o1 :: t, k, x, od, h => by
    simp only [List.length_cons] at h
    unfold qsw
    rw [if_neg (by omega)]
    exact qsw_out t (k + 1) x od (by omega)
theorem n_nl {x y : Nat} {z : Int32} (hz : z = nI y) (hx : x < 2 ^ 31) (hy : y < 2 ^ 31) (h : ¬ x = y) : ¬ nI x = z := by rw [hz, n_eq hx hy]; exact h
section CO
variable {Q : qP} {σ : qS}
/-- what the commands may move of the class -/
def Fc (σ σ' : qS) : Prop := (∀ a b, ¬ (1 ≤ a ∧ a ≤ 8 ∧ b = 1) → ¬ (a = 0 ∧ b = 0) → a ∉ [11, 12, 13, 14, 15, 16, 17, 18] → σ' a b = σ a b) ∧ (∀ x, x ≠ 8 → σ' 0 0 x = σ 0 0 x) ∧ ∀ P, PlanSt P σ → PlanSt P σ'
theorem Fc.refl (σ : qS) : Fc σ σ := ⟨fun _ _ _ _ _ => rfl, fun _ _ => rfl, fun _ h => h⟩
theorem Fc.trans {σ σ' σ'' : qS} (h : Fc σ σ') (h2 : Fc σ' σ'') : Fc σ σ'' := ⟨fun a b h3 h4 h5 => (h2.1 a b h3 h4 h5).trans (h.1 a b h3 h4 h5), fun x h3 => (h2.2.1 x h3).trans (h.2.1 x h3), fun P h3 => h2.2.2 P (h.2.2 P h3)⟩
theorem PlanOK.keep {P : qP} {σ σ' : qS} (h : PlanOK P σ) (e : ∀ a, 11 ≤ a → a ≤ 18 → σ' a 0 = σ a 0) : PlanOK P σ' := by
  obtain ⟨a1, a2, a3, a4, a5, ⟨a6, a7⟩, a8, a9⟩ := h
  exact ⟨fun k hk => by rw [e 12 (by omega) (by omega)]; exact a1 k hk, fun x hx u => by rw [e 13 (by omega) (by omega)]; exact a2 x hx u, fun t ht => by rw [e 14 (by omega) (by omega)]; exact a3 t ht, fun t ht => by rw [e 15 (by omega) (by omega)]; exact a4 t ht, fun t ht => by rw [e 16 (by omega) (by omega)]; exact a5 t ht, ⟨fun t ht hx => by rw [e 17 (by omega) (by omega)]; exact a6 t ht hx, fun r d hr hd => by rw [e 18 (by omega) (by omega)]; exact a7 r d hr hd⟩, by rw [e 11 (by omega) (by omega)]; exact a8, by rw [e 11 (by omega) (by omega)]; exact a9⟩
theorem PlanSt.keep {P : qP} {σ σ' : qS} (h : PlanSt P σ) (e8 : σ' 0 0 8 = σ 0 0 8) (e : ∀ a, 11 ≤ a → a ≤ 18 → σ' a 0 = σ a 0) : PlanSt P σ' := by
  unfold PlanSt
  rw [e8]
  exact h.elim Or.inl (fun h => Or.inr ⟨h.1, h.2.keep e⟩)
theorem Fc.q0 {σ σ' : qS} (h : Q0 1 σ σ') : Fc σ σ' := ⟨fun a b h1 _ _ => h a b h1, fun x _ => by rw [h 0 0 (by omega)], fun P S => S.keep (by rw [h 0 0 (by omega)]) (fun a h1 h2 => h a 0 (by omega))⟩
/-- one command of the class -/
def cop (k : Nat) (a b c d : Int32) (s3 : qS) : Option qO := match k with
  | 0 => qbind (f_X7_runAdding a b c d s3) (qvI (fun r5 s6 => (if qch r5 then some (.inl (some (qI r5)), s6) else none))) qE0
  | 1 => qbind (f_X5_faultOfTask 1 a s3) (qvI (fun r6 s7 => (if r6 = (46 : Int32) then qbind (f_X5_drop 1 a s7) (qvV (fun s8 => (if qch r6 then some (.inl (some (qI r6)), s8) else none))) qE0 else (if qch r6 then some (.inl (some (qI r6)), s7) else none)))) qE0
  | 2 => qbind (f_X5_faultOfLinking 1 a b s3) (qvI (fun r7 s9 => (if r7 = (46 : Int32) then qbind (f_X5_link 1 a b s9) (qvV (fun s10 => (if qch r7 then some (.inl (some (qI r7)), s10) else none))) qE0 else (if qch r7 then some (.inl (some (qI r7)), s9) else none)))) qE0
  | 3 => qbind (f_X5_faultOfPair 1 a b s3) (qvI (fun r8 s11 => (if r8 = (46 : Int32) then qbind (f_X5_unlink 1 a b s11) (qvV (fun s12 => (if qch r8 then some (.inl (some (qI r8)), s12) else none))) qE0 else (if qch r8 then some (.inl (some (qI r8)), s11) else none)))) qE0
  | 4 => qbind (f_X5_faultOfLimit 1 a b s3) (qvI (fun r9 s13 => qbind (f_X7_runSetting r9 8 1 a b s13) (qvI (fun r10 s14 => (if qch r10 then some (.inl (some (qI r10)), s14) else none))) qE0)) qE0
  | 5 => qbind (f_X5_faultOfDuration 1 a b s3) (qvI (fun r11 s15 => qbind (f_X7_runSetting r11 2 1 a b s15) (qvI (fun r12 s16 => (if qch r12 then some (.inl (some (qI r12)), s16) else none))) qE0)) qE0
  | 6 => qbind (f_X5_faultOfRelease 1 a b s3) (qvI (fun r13 s17 => qbind (f_X7_runSetting r13 5 1 a b s17) (qvI (fun r14 s18 => (if qch r14 then some (.inl (some (qI r14)), s18) else none))) qE0)) qE0
  | _ => qbind (f_X7_markTrial s3) (qvV (fun s19 => (some (.inl (some (qI (46 : Int32))), s19)))) qE0
/-- one command of the reference -/
def rop (k : Nat) (a b c d : Int32) (s : qS) : Option qO := match k with
  | 0 => f_X8_adds a b c d s
  | 1 => f_X8_removes a s
  | 2 => f_X8_links a b s
  | 3 => f_X8_unlinks a b s
  | 4 => f_X8_limits a b s
  | 5 => f_X8_sets a 0 b 1 9 s
  | 6 => f_X8_sets a 3 b 0 30 s
  | _ => f_X8_marks s
def StOk (Q : qP) (k : Nat) (a b c d : Int32) : Prop := ∃ Q', PW Q' ∧ (∀ σ, Rep σ 1 Q → ∃ σ', cop k a b c d σ = qan 46 σ' ∧ Rep σ' 1 Q' ∧ Fc σ σ') ∧ (∀ s, RepR s 27 0 Q → ∃ r s', rop k a b c d s = qan r s' ∧ RepR s' 27 0 Q' ∧ s' 26 0 17 = 0 ∧ Wo s s')
def StNo (Q : qP) (k : Nat) (a b c d : Int32) : Prop := ∃ ch t : Nat, t ≠ 0 ∧ t < 9 ∧ ch ≤ 126 ∧ ch ≠ 46 ∧ (∀ σ, Rep σ 1 Q → cop k a b c d σ = qan (nI ch) σ) ∧ (∀ s, RepR s 27 0 Q → ∃ r, rop k a b c d s = qan r (qu s 26 0 17 (nI t))) ∧ ∀ s, s 26 0 17 = nI t → f_X8_letterFor (nI k) s = qan (nI ch) s
theorem lf0 {t : Nat} (ht : t < 9) {s : qS} (h : s 26 0 17 = nI t) : f_X8_letterFor (nI 0) s = qan (nI (if t = 1 then 97 else 115)) s := by
  unfold f_X8_letterFor
  rw [if_pos (by rfl), h]
  by_cases h1 : t = 1
  · subst h1; rw [if_pos (by rfl), if_pos rfl]; rfl
  · rw [if_neg (n_nl (z := 1) (y := 1) rfl (by omega) (by omega) h1), if_neg h1]; rfl
theorem lf4 {t : Nat} {s : qS} : f_X8_letterFor (nI 4) s = qan (nI 97) s := by
  unfold f_X8_letterFor
  rw [if_neg (by decide), if_pos (by rfl)]
  rfl
theorem lfx {k t : Nat} (hk : k < 8) (h0 : k ≠ 0) (h4 : k ≠ 4) (ht : t < 9) {s : qS} (h : s 26 0 17 = nI t) : f_X8_letterFor (nI k) s = qan (nI (if t = 1 then 105 else if t = 2 then 97 else 117)) s := by
  unfold f_X8_letterFor
  rw [if_neg (n_nl (z := 0) (y := 0) rfl (by omega) (by omega) h0), if_neg (n_nl (z := 4) (y := 4) rfl (by omega) (by omega) h4), h]
  by_cases h1 : t = 1
  · subst h1; rw [if_pos (by rfl), if_pos rfl]; rfl
  · rw [if_neg (n_nl (z := 1) (y := 1) rfl (by omega) (by omega) h1), if_neg h1]
    by_cases h2 : t = 2
    · subst h2; rw [if_pos (by rfl), if_pos rfl]; rfl
    · rw [if_neg (n_nl (z := 2) (y := 2) rfl (by omega) (by omega) h2), if_neg h2]; rfl
theorem st_add (W : PW Q) (a b c d : Int32) : StOk Q 0 a b c d ∨ StNo Q 0 a b c d := by
  have hn := W.1
  have hbad : ∀ (ch t : Nat), t ≠ 0 → t < 9 → ch ≤ 126 → ch ≠ 46 → ch = (if t = 1 then 97 else 115) → (∀ σ, Rep σ 1 Q → f_X5_faultOfAdding 1 a b c d σ = qan (nI ch) σ) → (∀ s, RepR s 27 0 Q → ∃ r, f_X8_adds a b c d s = qan r (qu s 26 0 17 (nI t))) → StNo Q 0 a b c d := by
    intro ch t h0 h9 h126 h46 hch hc hr
    refine ⟨ch, t, h0, h9, h126, h46, fun σ H => ?_, hr, fun s hs => by rw [lf0 h9 hs, hch]⟩
    show qbind (f_X7_runAdding a b c d σ) _ _ = _
    unfold f_X7_runAdding
    rw [hc σ H, qb_I, if_neg (n_nl (z := 46) (y := 46) rfl (by omega) (by omega) h46), if_pos (qch_n h126), qb_I, if_pos (qch_n h126)]
  cases hf : fineA a b c d
  · refine Or.inr (hbad 97 1 (by decide) (by decide) (by decide) (by decide) rfl (fun σ H => by rw [c_faultA W H, hf, if_pos rfl]; rfl) (fun s R => ?_))
    rcases r_adds W R a b c d with ⟨h1, h2⟩ | ⟨h1, h2, h3⟩ | ⟨h1, h2, h3⟩
    · exact ⟨_, h2⟩
    · rw [hf] at h1; cases h1
    · rw [hf] at h1; cases h1
  · by_cases h12 : pn Q = 12
    · refine Or.inr (hbad 115 2 (by decide) (by decide) (by decide) (by decide) rfl (fun σ H => by rw [c_faultA W H, hf, if_neg (by decide), if_pos h12]; rfl) (fun s R => ?_))
      rcases r_adds W R a b c d with ⟨h1, h2⟩ | ⟨h1, h2, h3⟩ | ⟨h1, h2, h3⟩
      · rw [hf] at h1; cases h1
      · exact ⟨_, h3⟩
      · omega
    · refine Or.inl ⟨padd Q a b c d, ?_, fun σ H => ?_, fun s R => ?_⟩
      · have hfa := hf
        unfold fineA isR at hfa
        simp only [Bool.and_eq_true, decide_eq_true_iff] at hfa
        obtain ⟨⟨⟨f1, f2⟩, f3⟩, f4⟩ := hfa
        simp only [i_le] at f1 f2 f3 f4
        exact W.add (by omega) f1 f2 f3 f4
      · obtain ⟨σ1, e1, H1, q1⟩ := c_append (j := 1) H (by omega) a b c d
        refine ⟨σ1, ?_, H1, Fc.q0 q1⟩
        show qbind (f_X7_runAdding a b c d σ) _ _ = _
        unfold f_X7_runAdding
        rw [c_faultA W H, hf, if_neg (by decide), if_neg h12, qb_I, if_pos rfl, e1, qb_I, if_pos qch46, qb_I, if_pos qch46]
      · rcases r_adds W R a b c d with ⟨h1, h2⟩ | ⟨h1, h2, h3⟩ | ⟨h1, h2, σ1, h3, h4, h5, h6⟩
        · rw [hf] at h1; cases h1
        · omega
        · exact ⟨_, σ1, h3, h4, h5, h6⟩
theorem st_drop (W : PW Q) (a b c d : Int32) : StOk Q 1 a b c d ∨ StNo Q 1 a b c d := by
  have hn := W.1
  cases hx : isT Q a
  · refine Or.inr ⟨105, 1, by decide, by decide, by decide, by decide, fun σ H => ?_, fun s R => ?_, fun s hs => lfx (k := 1) (t := 1) (by decide) (by decide) (by decide) (by decide) hs⟩
    · show qbind (f_X5_faultOfTask 1 a σ) _ _ = _
      rw [c_faultT H, hx, if_neg (by decide), qb_I, if_neg (by decide), if_pos qch105]
      rfl
    · rcases r_removes W R a with ⟨h1, h2⟩ | ⟨x, hxn, rfl, h3⟩
      · exact ⟨_, h2⟩
      · rw [isT_n W hxn] at hx; cases hx
  · obtain ⟨t, ht, rfl⟩ := (isT_iff W).mp hx
    refine Or.inl ⟨pdrop Q t, W.drop ht, fun σ H => ?_, fun s R => ?_⟩
    · obtain ⟨σ1, e1, H1, q1⟩ := c_drop (j := 1) W H ht
      refine ⟨σ1, ?_, H1, Fc.q0 q1⟩
      show qbind (f_X5_faultOfTask 1 (nI t) σ) _ _ = _
      rw [c_faultT H, hx, if_pos rfl, qb_I, if_pos rfl, e1, qb_V, if_pos qch46]
    · rcases r_removes W R (nI t) with ⟨h1, h2⟩ | ⟨x, hxn, hxe, σ1, h3, h4, h5, h6⟩
      · rw [hx] at h1; cases h1
      · have : x = t := ((n_eq (by omega) (by omega)).mp hxe).symm
        subst this
        exact ⟨_, σ1, h3, h4, h5, h6⟩
theorem st_link (W : PW Q) (a b c d : Int32) : StOk Q 2 a b c d ∨ StNo Q 2 a b c d := by
  have hn := W.1
  have hbad : ∀ (ch t : Nat), t ≠ 0 → t < 9 → ch ≤ 126 → ch ≠ 46 → ch = (if t = 1 then 105 else if t = 2 then 97 else 117) → (∀ σ, Rep σ 1 Q → f_X5_faultOfLinking 1 a b σ = qan (nI ch) σ) → (∀ s, RepR s 27 0 Q → ∃ r, f_X8_links a b s = qan r (qu s 26 0 17 (nI t))) → StNo Q 2 a b c d := by
    intro ch t h0 h9 h126 h46 hch hc hr
    refine ⟨ch, t, h0, h9, h126, h46, fun σ H => ?_, hr, fun s hs => by rw [lfx (k := 2) (by decide) (by decide) (by decide) h9 hs, hch]⟩
    show qbind (f_X5_faultOfLinking 1 a b σ) _ _ = _
    rw [hc σ H, qb_I, if_neg (n_nl (z := 46) (y := 46) rfl (by omega) (by omega) h46), if_pos (qch_n h126)]
  cases hx : (isT Q a && isT Q b)
  · refine Or.inr (hbad 105 1 (by decide) (by decide) (by decide) (by decide) rfl (fun σ H => ?_) (fun s R => ?_))
    · rcases c_faultL W H a b with ⟨h1, h2⟩ | ⟨t, u, ht, hu, rfl, rfl, h2⟩
      · exact h2
      · rw [isT_n W ht, isT_n W hu] at hx; cases hx
    · rcases r_links W R a b with ⟨h1, h2⟩ | ⟨t, u, ht, hu, rfl, rfl, h2⟩
      · exact ⟨_, h2⟩
      · rw [isT_n W ht, isT_n W hu] at hx; cases hx
  · have hx1 : isT Q a = true := by revert hx; cases isT Q a <;> simp
    have hx2 : isT Q b = true := by revert hx; cases isT Q b <;> simp
    obtain ⟨t, ht, rfl⟩ := (isT_iff W).mp hx1
    obtain ⟨u, hu, rfl⟩ := (isT_iff W).mp hx2
    have hcl : ∀ σ, Rep σ 1 Q → f_X5_faultOfLinking 1 (nI t) (nI u) σ = qan (if t = u then 97 else if prea Q u t = true then 117 else 46) σ := fun σ H => by
      rcases c_faultL W H (nI t) (nI u) with ⟨h1, h2⟩ | ⟨t', u', ht', hu', e1, e2, h2⟩
      · rw [hx] at h1; cases h1
      · have g1 : t = t' := (n_eq (by omega) (by omega)).mp e1
        have g2 : u = u' := (n_eq (by omega) (by omega)).mp e2
        subst g1; subst g2
        exact h2
    have hrl : ∀ s, RepR s 27 0 Q → ((t = u ∧ f_X8_links (nI t) (nI u) s = qan 0 (qu s 26 0 17 2)) ∨ (t ≠ u ∧ prea Q u t = true ∧ f_X8_links (nI t) (nI u) s = qan 0 (qu s 26 0 17 3)) ∨ (t ≠ u ∧ prea Q u t = false ∧ ∃ σ', f_X8_links (nI t) (nI u) s = qan (qb1 (ped Q t u)) σ' ∧ RepR σ' 27 0 (psetf Q 4 t (pf Q 4 t ||| ((1 : Int32) <<< (nI u &&& 31)))) ∧ σ' 26 0 17 = 0 ∧ Wo s σ')) := fun s R => by
      rcases r_links W R (nI t) (nI u) with ⟨h1, h2⟩ | ⟨t', u', ht', hu', e1, e2, h2⟩
      · rw [hx] at h1; cases h1
      · have g1 : t = t' := (n_eq (by omega) (by omega)).mp e1
        have g2 : u = u' := (n_eq (by omega) (by omega)).mp e2
        subst g1; subst g2
        exact h2
    by_cases e : t = u
    · refine Or.inr (hbad 97 2 (by decide) (by decide) (by decide) (by decide) rfl (fun σ H => by rw [hcl σ H, if_pos e]; rfl) (fun s R => ?_))
      rcases hrl s R with ⟨h1, h2⟩ | ⟨h1, h2⟩ | ⟨h1, h2⟩
      · exact ⟨_, h2⟩
      · exact absurd e h1
      · exact absurd e h1
    · cases hp : prea Q u t
      · refine Or.inl ⟨psetf Q 4 t (pf Q 4 t ||| ((1 : Int32) <<< (nI u &&& 31))), W.link ht hu e hp, fun σ H => ?_, fun s R => ?_⟩
        · refine ⟨_, ?_, H.setf (f := 4) (t := t) (by decide) _, Fc.q0 (Q0.qu σ (by decide) (by decide))⟩
          show qbind (f_X5_faultOfLinking 1 (nI t) (nI u) σ) _ _ = _
          rw [hcl σ H, if_neg e, hp, if_neg (by decide), qb_I, if_pos rfl, c_link W H ht, qb_V, if_pos qch46]
        · rcases hrl s R with ⟨h1, h2⟩ | ⟨h1, h2, h3⟩ | ⟨h1, h2, σ1, h3, h4, h5, h6⟩
          · exact absurd h1 e
          · rw [hp] at h2; cases h2
          · exact ⟨_, σ1, h3, h4, h5, h6⟩
      · refine Or.inr (hbad 117 3 (by decide) (by decide) (by decide) (by decide) rfl (fun σ H => by rw [hcl σ H, if_neg e, hp, if_pos rfl]; rfl) (fun s R => ?_))
        rcases hrl s R with ⟨h1, h2⟩ | ⟨h1, h2, h3⟩ | ⟨h1, h2, h3⟩
        · exact absurd h1 e
        · exact ⟨_, h3⟩
        · rw [hp] at h2; cases h2
theorem st_unlink (W : PW Q) (a b c d : Int32) : StOk Q 3 a b c d ∨ StNo Q 3 a b c d := by
  have hn := W.1
  cases hx : (isT Q a && isT Q b)
  · refine Or.inr ⟨105, 1, by decide, by decide, by decide, by decide, fun σ H => ?_, fun s R => ?_, fun s hs => lfx (k := 3) (t := 1) (by decide) (by decide) (by decide) (by decide) hs⟩
    · show qbind (f_X5_faultOfPair 1 a b σ) _ _ = _
      rw [c_faultP H, hx, if_neg (by decide), qb_I, if_neg (by decide), if_pos qch105]
      rfl
    · rcases r_unlinks W R a b with ⟨h1, h2⟩ | ⟨t, u, ht, hu, rfl, rfl, h2⟩
      · exact ⟨_, h2⟩
      · rw [isT_n W ht, isT_n W hu] at hx; cases hx
  · have hx1 : isT Q a = true := by revert hx; cases isT Q a <;> simp
    have hx2 : isT Q b = true := by revert hx; cases isT Q b <;> simp
    obtain ⟨t, ht, rfl⟩ := (isT_iff W).mp hx1
    obtain ⟨u, hu, rfl⟩ := (isT_iff W).mp hx2
    refine Or.inl ⟨psetf Q 4 t (pf Q 4 t &&& (((1 : Int32) <<< (nI u &&& 31)) ^^^ (-1 : Int32))), W.unlink ht hu, fun σ H => ?_, fun s R => ?_⟩
    · refine ⟨_, ?_, H.setf (f := 4) (t := t) (by decide) _, Fc.q0 (Q0.qu σ (by decide) (by decide))⟩
      show qbind (f_X5_faultOfPair 1 (nI t) (nI u) σ) _ _ = _
      rw [c_faultP H, hx, if_pos rfl, qb_I, if_pos rfl, c_unlink W H ht, qb_V, if_pos qch46]
    · rcases r_unlinks W R (nI t) (nI u) with ⟨h1, h2⟩ | ⟨t', u', ht', hu', e1, e2, σ1, h3, h4, h5, h6⟩
      · rw [hx] at h1; cases h1
      · have g1 : t = t' := (n_eq (by omega) (by omega)).mp e1
        have g2 : u = u' := (n_eq (by omega) (by omega)).mp e2
        subst g1; subst g2
        exact ⟨_, σ1, h3, h4, h5, h6⟩
end CO
