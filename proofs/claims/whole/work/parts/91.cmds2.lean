/-! settings and the mark in a script; the run of a script -/
section CP2
variable {Q : qP} {σ : qS}
theorem st_set (W : PW Q) {k f : Nat} {lo hi : Int32} (hk : k = 5 ∧ f = 0 ∧ lo = 1 ∧ hi = 9 ∨ k = 6 ∧ f = 3 ∧ lo = 0 ∧ hi = 30) (a b c d : Int32) : StOk Q k a b c d ∨ StNo Q k a b c d := by
  have hn := W.1
  have hf6 : f < 6 := by omega
  have hk8 : k < 8 := by omega
  have hk0 : k ≠ 0 := by omega
  have hk4 : k ≠ 4 := by omega
  have hro : ∀ s, rop k a b c d s = f_X8_sets a (nI f) b lo hi s := fun s => by
    rcases hk with ⟨rfl, rfl, rfl, rfl⟩ | ⟨rfl, rfl, rfl, rfl⟩ <;> rfl
  have hco : ∀ (σ : qS) (ch : Int32), Rep σ 1 Q → qch ch → (if isT Q a = false then (105 : Int32) else if (lo ≤ b ∧ b ≤ hi) then 46 else 97) = ch → cop k a b c d σ = qbind (f_X7_runSetting ch (2 + f) 1 a b σ) (qvI (fun r12 s16 => (if qch r12 then some (.inl (some (qI r12)), s16) else none))) qE0 := fun σ ch H hch he => by
    rcases hk with ⟨rfl, rfl, rfl, rfl⟩ | ⟨rfl, rfl, rfl, rfl⟩
    · show qbind (f_X5_faultOfDuration 1 a b σ) _ _ = _
      rw [c_faultD H, qb_I, he]
    · show qbind (f_X5_faultOfRelease 1 a b σ) _ _ = _
      rw [c_faultR H, qb_I, he]
  have hbad : ∀ (ch t : Nat), t ≠ 0 → t < 9 → ch ≤ 126 → ch ≠ 46 → ch = (if t = 1 then 105 else if t = 2 then 97 else 117) → (if isT Q a = false then (105 : Int32) else if (lo ≤ b ∧ b ≤ hi) then 46 else 97) = nI ch → (∀ s, RepR s 27 0 Q → ∃ r, f_X8_sets a (nI f) b lo hi s = qan r (qu s 26 0 17 (nI t))) → StNo Q k a b c d := by
    intro ch t h0 h9 h126 h46 hch hc hr
    refine ⟨ch, t, h0, h9, h126, h46, fun σ H => ?_, fun s R => by rw [hro]; exact hr s R, fun s hs => by rw [lfx hk8 hk0 hk4 h9 hs, hch]⟩
    rw [hco σ (nI ch) H (qch_n h126) hc]
    unfold f_X7_runSetting
    rw [if_neg (n_nl (z := 46) (y := 46) rfl (by omega) (by omega) h46), if_pos (qch_n h126), qb_I, if_pos (qch_n h126)]
  cases hx : isT Q a
  · refine Or.inr (hbad 105 1 (by decide) (by decide) (by decide) (by decide) rfl (by rw [hx, if_pos rfl]; rfl) (fun s R => ?_))
    rcases r_sets W R a b lo hi hf6 with ⟨h1, r, h2⟩ | ⟨t, ht, rfl, h3⟩
    · exact ⟨r, h2⟩
    · rw [isT_n W ht] at hx; cases hx
  · obtain ⟨t, ht, rfl⟩ := (isT_iff W).mp hx
    by_cases hv : lo ≤ b ∧ b ≤ hi
    · refine Or.inl ⟨psetf Q f t b, ?_, fun σ H => ?_, fun s R => ?_⟩
      · have hv2 := hv
        rw [i_le, i_le] at hv2
        rcases hk with ⟨rfl, rfl, rfl, rfl⟩ | ⟨rfl, rfl, rfl, rfl⟩
        · exact W.set0 ht hv2
        · exact W.set3 ht hv2
      · refine ⟨_, ?_, H.setf (f := f) (t := t) hf6 b, Fc.q0 (Q0.qu σ (by omega) (by omega))⟩
        have hl : qlen (2 + f) = 12 := by
          rcases hk with ⟨rfl, rfl, rfl, rfl⟩ | ⟨rfl, rfl, rfl, rfl⟩ <;> rfl
        rw [hco σ 46 H qch46 (by rw [hx, if_neg (by decide), if_pos hv])]
        unfold f_X7_runSetting
        rw [if_pos rfl, e_put (by rw [hl]; omega) (by rw [hl]; decide), qb_V, if_pos qch46, qb_I, if_pos qch46]
      · rw [hro]
        rcases r_sets W R (nI t) b lo hi hf6 with ⟨h1, h2⟩ | ⟨t', ht', he, h3⟩
        · rw [hx] at h1; cases h1
        · have : t = t' := (n_eq (by omega) (by omega)).mp he
          subst this
          rcases h3 with ⟨h4, h5⟩ | ⟨h4, σ1, h5, h6, h7, h8⟩
          · exact absurd hv h4
          · exact ⟨_, σ1, h5, h6, h7, h8⟩
    · refine Or.inr (hbad 97 2 (by decide) (by decide) (by decide) (by decide) rfl (by rw [hx, if_neg (by decide), if_neg hv]; rfl) (fun s R => ?_))
      rcases r_sets W R (nI t) b lo hi hf6 with ⟨h1, h2⟩ | ⟨t', ht', he, h3⟩
      · rw [hx] at h1; cases h1
      · rcases h3 with ⟨h4, h5⟩ | ⟨h4, h5⟩
        · exact h5
        · exact absurd h4 hv
theorem st_lim (W : PW Q) (a b c d : Int32) : StOk Q 4 a b c d ∨ StNo Q 4 a b c d := by
  have hn := W.1
  by_cases hf : isR a = true ∧ ((5 : Int32) ≤ b ∧ b ≤ 20)
  · obtain ⟨r, hr, rfl⟩ := isR_iff.mp hf.1
    refine Or.inl ⟨plimf Q r b, ?_, fun σ H => ?_, fun s R => ?_⟩
    · have hv2 := hf.2
      rw [i_le, i_le] at hv2
      exact W.lim hv2
    · refine ⟨_, ?_, H.lim r b, Fc.q0 (Q0.qu σ (by omega) (by omega))⟩
      show qbind (f_X5_faultOfLimit 1 (nI r) b σ) _ _ = _
      rw [c_faultLim, if_pos hf, qb_I]
      unfold f_X7_runSetting
      rw [if_pos rfl, e_put (show r < qlen 8 from hr) (by decide), qb_V, if_pos qch46, qb_I, if_pos qch46]
    · rcases r_limits W R (nI r) b with ⟨h1, h2⟩ | ⟨h1, r', h2, h3, σ1, h4, h5, h6, h7⟩
      · exact absurd hf h1
      · have : r = r' := (n_eq (by omega) (by omega)).mp h3
        subst this
        exact ⟨_, σ1, h4, h5, h6, h7⟩
  · refine Or.inr ⟨97, 1, by decide, by decide, by decide, by decide, fun σ H => ?_, fun s R => ?_, fun s hs => lf4 (t := 1)⟩
    · show qbind (f_X5_faultOfLimit 1 a b σ) _ _ = _
      rw [c_faultLim, if_neg hf, qb_I]
      unfold f_X7_runSetting
      rw [if_neg (by decide), if_pos (show qch (97 : Int32) by decide), qb_I, if_pos (show qch (97 : Int32) by decide)]
      rfl
    · rcases r_limits W R a b with ⟨h1, h2⟩ | ⟨h1, h2⟩
      · exact ⟨_, h2⟩
      · exact absurd h1 hf
theorem st_mark (W : PW Q) (a b c d : Int32) : StOk Q 7 a b c d := by
  refine ⟨pmark Q, W.mark, fun σ H => ?_, fun s R => ?_⟩
  · obtain ⟨σ1, e1, q1, p1⟩ := c_make W H
    obtain ⟨σ2, hs2⟩ : ∃ σ2, σ2 = qu σ1 0 0 8 0 := ⟨_, rfl⟩
    have q2 : qsm [0] σ1 σ2 := by rw [hs2]; exact qsm_qu σ1 0 0 8 0
    have H2 := (H.same q1 (by simp)).same q2 (by simp)
    obtain ⟨σ3, e3, H3, q3⟩ := c_takeStarts W H2 (p1.same q2 (by simp))
    have k8 : σ3 0 0 8 = 0 := by rw [q3 0 0 (by omega), hs2, qu_at, if_pos ⟨rfl, rfl, rfl⟩]
    refine ⟨σ3, ?_, H3, fun a b h1 h2 h3 => ?_, fun x hx => ?_, fun P _ => Or.inl k8⟩
    · show qbind (f_X7_markTrial σ) _ _ = _
      unfold f_X7_markTrial
      rw [e1, qb_V, qlet_eq, ← hs2, e3, qb_V, qb_V]
    · rw [q3 a b h1, hs2, qu_other _ h2, q1 a b h3]
    · rw [q3 0 0 (by omega), hs2, qu_at, if_neg (fun h => hx h.2.2), q1 0 0 (by simp)]
  · obtain ⟨σ1, e1, R1, t1, w1⟩ := r_marks W R
    exact ⟨_, σ1, e1, R1, t1, w1⟩
theorem st_all (W : PW Q) {k : Nat} (hk : k < 8) (a b c d : Int32) : StOk Q k a b c d ∨ StNo Q k a b c d := by
  rcases (show k = 0 ∨ k = 1 ∨ k = 2 ∨ k = 3 ∨ k = 4 ∨ k = 5 ∨ k = 6 ∨ k = 7 by omega) with rfl | rfl | rfl | rfl | rfl | rfl | rfl | rfl
  · exact st_add W a b c d
  · exact st_drop W a b c d
  · exact st_link W a b c d
  · exact st_unlink W a b c d
  · exact st_lim W a b c d
  · exact st_set W (Or.inl ⟨rfl, rfl, rfl, rfl⟩) a b c d
  · exact st_set W (Or.inr ⟨rfl, rfl, rfl, rfl⟩) a b c d
  · exact Or.inl (st_mark W a b c d)
/-! a command by its number -/
theorem c_numAt {i n : Nat} (hi : i < 60) (hn : n < 4) (σ : qS) : f_X6_numberAt (nI i) (nI n) σ = qan (σ 22 0 (4 * i + n)) σ := by
  unfold f_X6_numberAt
  rw [show (4 : Int32) = nI 4 from rfl, n_mul, nI_add, e_at (show i * 4 + n < qlen 22 by show i * 4 + n < 240; omega) (by decide), qb_I, Nat.mul_comm i 4]
theorem c_cmdAt {i k : Nat} (hi : i < 60) (hk : k < 8) (h : σ 21 0 i = nI (k + 1)) : f_X6_commandAt (nI i) σ = some (.inl (some (qR 40 k)), σ) := by
  unfold f_X6_commandAt
  rw [if_neg (n_ge0 (by omega)), if_neg (by rw [show Int32.ofNat 60 = nI 60 from rfl, n_le (by omega) (by omega)]; omega), if_pos (n_in hi (by decide)), nI_clamp (by omega), h]
  unfold qcm
  rw [if_neg (nI_ne0 (by omega) (by omega)), nI_pred, nI_clamp (by omega)]
theorem c_run {i k : Nat} (hi : i < 60) (hk : k < 8) (h : σ 21 0 i = nI (k + 1)) : f_X7_runCommand (nI i) σ = cop k (σ 22 0 (4 * i + 0)) (σ 22 0 (4 * i + 1)) (σ 22 0 (4 * i + 2)) (σ 22 0 (4 * i + 3)) σ := by
  have n0 : f_X6_numberAt (nI i) (0 : Int32) σ = _ := c_numAt (n := 0) hi (by decide) σ
  have n1 : f_X6_numberAt (nI i) (1 : Int32) σ = _ := c_numAt (n := 1) hi (by decide) σ
  have n2 : f_X6_numberAt (nI i) (2 : Int32) σ = _ := c_numAt (n := 2) hi (by decide) σ
  have n3 : f_X6_numberAt (nI i) (3 : Int32) σ = _ := c_numAt (n := 3) hi (by decide) σ
  have hN : ∀ {kn : qS → Option qO} {kk : Nat → qS → Option qO}, qbind (some (.inl (some (qR 40 k)), σ)) (qvN 40 8 kn kk) qE0 = kk k σ := by
    intro kn kk
    show (if 40 = 40 ∧ k < 8 then kk k σ else none) = _
    rw [if_pos ⟨rfl, hk⟩]
  unfold f_X7_runCommand
  rw [c_cmdAt hi hk h, hN, n0, qb_I, n1, qb_I, if_pos (n_in hk (by decide)), nI_clamp (by omega)]
  rw [n2, qb_I, n3, qb_I]
  rcases (show k = 0 ∨ k = 1 ∨ k = 2 ∨ k = 3 ∨ k = 4 ∨ k = 5 ∨ k = 6 ∨ k = 7 by omega) with rfl | rfl | rfl | rfl | rfl | rfl | rfl | rfl
  · exact qsw_hit _ _ _ 0 _ _ rfl rfl
  · exact qsw_hit _ _ _ 1 _ _ rfl rfl
  · exact qsw_hit _ _ _ 2 _ _ rfl rfl
  · exact qsw_hit _ _ _ 3 _ _ rfl rfl
  · exact qsw_hit _ _ _ 4 _ _ rfl rfl
  · exact qsw_hit _ _ _ 5 _ _ rfl rfl
  · exact qsw_hit _ _ _ 6 _ _ rfl rfl
  · exact qsw_out _ _ _ _ (Or.inl (by decide))
theorem r_run {i k : Nat} (hi : i < 29) (hk : k < 8) (h : σ 37 0 (5 * i) = nI k) : f_X8_does (nI (5 * i)) σ = qbind (rop k (σ 37 0 (5 * i + 1 + 0)) (σ 37 0 (5 * i + 1 + 1)) (σ 37 0 (5 * i + 1 + 2)) (σ 37 0 (5 * i + 1 + 3)) σ) (qvI (fun r s => (some (.inl (some (qI r)), s)))) qE0 := by
  unfold f_X8_does
  have e1 : nI (5 * i) + (1 : Int32) = nI (5 * i + 1) := nI_add _ 1
  have e2 : nI (5 * i) + (2 : Int32) = nI (5 * i + 2) := nI_add _ 2
  have e3 : nI (5 * i) + (3 : Int32) = nI (5 * i + 3) := nI_add _ 3
  have e4 : nI (5 * i) + (4 : Int32) = nI (5 * i + 4) := nI_add _ 4
  rw [e1, e2, e3, e4, if_pos (n_in (show 5 * i + 1 < 150 by omega) (by decide)), if_pos (n_in (show 5 * i + 2 < 150 by omega) (by decide)), if_pos (n_in (show 5 * i < 150 by omega) (by decide)), if_pos (n_in (show 5 * i + 3 < 150 by omega) (by decide)), if_pos (n_in (show 5 * i + 4 < 150 by omega) (by decide)), nI_clamp (by omega), nI_clamp (by omega), nI_clamp (by omega), nI_clamp (by omega), nI_clamp (by omega), h]
  rcases (show k = 0 ∨ k = 1 ∨ k = 2 ∨ k = 3 ∨ k = 4 ∨ k = 5 ∨ k = 6 ∨ k = 7 by omega) with rfl | rfl | rfl | rfl | rfl | rfl | rfl | rfl
  · exact qsw_hit _ _ _ 0 _ _ rfl rfl
  · exact qsw_hit _ _ _ 1 _ _ rfl rfl
  · exact qsw_hit _ _ _ 2 _ _ rfl rfl
  · exact qsw_hit _ _ _ 3 _ _ rfl rfl
  · exact qsw_hit _ _ _ 4 _ _ rfl rfl
  · exact qsw_hit _ _ _ 5 _ _ rfl rfl
  · exact qsw_hit _ _ _ 6 _ _ rfl rfl
  · exact qsw_out _ _ _ _ (Or.inr (show (0 : Int) + ((7 : Nat) : Int) ≤ (nI 7).toInt by decide))
end CP2
