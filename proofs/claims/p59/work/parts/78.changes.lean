/-! the changes, in the class and in the reference -/
section CH
variable {P : qP} {σ : qS}
/-- a change of the class's project j -/
def Q0 (j : Nat) (σ σ' : qS) : Prop := ∀ a b, ¬ (1 ≤ a ∧ a ≤ 8 ∧ b = j) → σ' a b = σ a b
theorem Q0.qu {j : Nat} (σ : qS) {k i : Nat} {v : Int32} (h1 : 1 ≤ k) (h2 : k ≤ 8) : Q0 j σ (qu σ k j i v) := fun a b h => qu_other σ (fun hh => h ⟨by omega, by omega, hh.2⟩)
theorem Q0.trans {j : Nat} {σ σ' σ'' : qS} (h : Q0 j σ σ') (h2 : Q0 j σ' σ'') : Q0 j σ σ'' := fun a b hh => (h2 a b hh).trans (h a b hh)
theorem Q0.refl (j : Nat) (σ : qS) : Q0 j σ σ := fun _ _ _ => rfl
theorem c_append {j : Nat} (H : Rep σ j P) (hn : pn P < 12) (a b c d : Int32) : ∃ σ', f_X5_append j a b c d σ = qan (nI (pn P)) σ' ∧ Rep σ' j (padd P a b c d) ∧ Q0 j σ σ' := by
  obtain ⟨τ, hτ⟩ : ∃ τ, τ = qu (qu (qu (qu (qu (qu (qu σ 2 j (pn P) a) 3 j (pn P) b) 4 j (pn P) c) 5 j (pn P) d) 6 j (pn P) 0) 7 j (pn P) (-1)) 1 j 7 (nI (pn P + 1)) := ⟨_, rfl⟩
  refine ⟨τ, ?_, ⟨?_, fun f t hf ht => ?_, fun r hr => ?_, ?_⟩, ?_⟩
  · unfold f_X5_append
    rw [H.1, e_put (show pn P < qlen 2 from hn) (by decide), qb_V, e_put (show pn P < qlen 3 from hn) (by decide), qb_V, e_put (show pn P < qlen 4 from hn) (by decide), qb_V, e_put (show pn P < qlen 5 from hn) (by decide), qb_V, e_put (show pn P < qlen 6 from hn) (by decide), qb_V, e_put (show pn P < qlen 7 from hn) (by decide), qb_V, qlet_eq, nI_1, ← hτ]
  · rw [hτ, qu_at, if_pos ⟨rfl, rfl, rfl⟩]; rfl
  · have ht : t < pn P + 1 := ht
    have hh := H.2.1 f t hf
    rw [hτ, padd_f, qu_at, if_neg (by omega), qu_at, qu_at, qu_at, qu_at, qu_at, qu_at]
    rcases (show f = 0 ∨ f = 1 ∨ f = 2 ∨ f = 3 ∨ f = 4 ∨ f = 5 by omega) with rfl | rfl | rfl | rfl | rfl | rfl <;> by_cases hx : t = pn P <;> simp [hx] <;> first | exact hh (by omega) | skip
  · rw [hτ, qu_at, if_neg (by omega), qu_at, if_neg (by omega), qu_at, if_neg (by omega), qu_at, if_neg (by omega), qu_at, if_neg (by omega), qu_at, if_neg (by omega), qu_at, if_neg (by omega)]
    exact H.2.2.1 r hr
  · rw [hτ, qu_at, if_neg (by omega), qu_at, if_neg (by omega), qu_at, if_neg (by omega), qu_at, if_neg (by omega), qu_at, if_neg (by omega), qu_at, if_neg (by omega), qu_at, if_neg (by omega)]
    exact H.2.2.2
  · rw [hτ]
    exact (((((((Q0.qu σ (by omega) (by omega)).trans (Q0.qu _ (by omega) (by omega))).trans (Q0.qu _ (by omega) (by omega))).trans (Q0.qu _ (by omega) (by omega))).trans (Q0.qu _ (by omega) (by omega))).trans (Q0.qu _ (by omega) (by omega))).trans (Q0.qu _ (by omega) (by omega)))
theorem e_gap_loop {k j : Nat} (hk : qlen k = 12) : ∀ (d i m : Nat) (s : qS), i + d = 11 → d < m → ∃ s', l_X7_closeGap_6 k j m (nI i) s = qdo s' ∧ (∀ a b, ¬ (a = k ∧ b = j) → s' a b = s a b) ∧ ∀ y, s' k j y = if i ≤ y ∧ y < 11 then s k j (y + 1) else s k j y := by
  intro d
  induction d with
  | zero =>
    intro i m s hi hm
    obtain ⟨m, rfl⟩ : ∃ m', m = m' + 1 := ⟨m - 1, by omega⟩
    refine ⟨s, ?_, fun _ _ _ => rfl, fun y => by rw [if_neg (by omega)]⟩
    simp only [l_X7_closeGap_6, b_X7_closeGap_6]
    rw [hk, nI_1, if_pos (by rw [show Int32.ofNat 12 = nI 12 from rfl]; exact nI_le (by omega) (by omega))]
  | succ d ih =>
    intro i m s hi hm
    obtain ⟨m, rfl⟩ : ∃ m', m = m' + 1 := ⟨m - 1, by omega⟩
    obtain ⟨s', e, o, c⟩ := ih (i + 1) m (qu s k j i (s k j (i + 1))) (by omega) (by omega)
    refine ⟨s', ?_, fun a b h => by rw [o a b h, qu_other s h], fun y => ?_⟩
    · simp only [l_X7_closeGap_6, b_X7_closeGap_6]
      rw [hk, nI_1, if_neg (by rw [show Int32.ofNat 12 = nI 12 from rfl]; exact nI_ge (by omega) (by omega)), if_pos (n_in (by omega) (by decide)), if_pos (n_in (by omega) (by decide)), nI_clamp (by omega), nI_clamp (by omega), qlet_eq]
      exact e
    · rw [c y]
      by_cases h1 : i + 1 ≤ y ∧ y < 11
      · rw [if_pos h1, if_pos (by omega), qu_at, if_neg (fun h => by have := h.2.2; omega)]
      · rw [if_neg h1, qu_at]
        by_cases h2 : y = i
        · rw [if_pos ⟨rfl, rfl, h2⟩, if_pos (by omega), h2]
        · rw [if_neg (fun h => h2 h.2.2), if_neg (by omega)]
theorem e_gap {k j x : Nat} (hk : qlen k = 12) (hx : x < 12) (s : qS) : ∃ s', f_X7_closeGap k j (nI x) s = qdo s' ∧ (∀ a b, ¬ (a = k ∧ b = j) → s' a b = s a b) ∧ ∀ y, y < 11 → s' k j y = s k j (psh x y) := by
  have hm : qmax (nI x) (0 : Int32) = nI x := by
    refine i_eq ?_
    rw [i_max, nI_toInt (by omega), show (0 : Int32).toInt = 0 from rfl]
    omega
  obtain ⟨s', e, o, c⟩ := e_gap_loop (k := k) (j := j) hk (11 - x) x qFU s (by omega) (by unfold qFU; omega)
  refine ⟨s', by unfold f_X7_closeGap; rw [hm]; exact e, o, fun y hy => ?_⟩
  rw [c]
  unfold psh
  by_cases h : y < x
  · rw [if_neg (by omega), if_pos h]
  · rw [if_pos (by omega), if_neg h]
theorem c_cut_loop {j x n : Nat} (hn : n ≤ 12) : ∀ (d i m : Nat) (s : qS), i + d = n → d < m → s 1 j 7 = nI n → ∃ s', l_X5_drop_66 j m (((1 : Int32) <<< (nI x &&& 31)) - (1 : Int32)) (nI i) s = qdo s' ∧ (∀ a b, ¬ (a = 6 ∧ b = j) → s' a b = s a b) ∧ ∀ y, s' 6 j y = if i ≤ y ∧ y < n then pcut x (s 6 j y) else s 6 j y := by
  intro d
  induction d with
  | zero =>
    intro i m s hi hm h7
    obtain ⟨m, rfl⟩ : ∃ m', m = m' + 1 := ⟨m - 1, by omega⟩
    refine ⟨s, ?_, fun _ _ _ => rfl, fun y => by rw [if_neg (by omega)]⟩
    simp only [l_X5_drop_66, b_X5_drop_66]
    rw [h7, if_pos (nI_le (by omega) (by omega))]
  | succ d ih =>
    intro i m s hi hm h7
    obtain ⟨m, rfl⟩ : ∃ m', m = m' + 1 := ⟨m - 1, by omega⟩
    obtain ⟨s', e, o, c⟩ := ih (i + 1) m (qu s 6 j i (pcut x (s 6 j i))) (by omega) (by omega) (by rw [qu_at, if_neg (by omega)]; exact h7)
    refine ⟨s', ?_, fun a b h => by rw [o a b h, qu_other s h], fun y => ?_⟩
    · simp only [l_X5_drop_66, b_X5_drop_66]
      rw [h7, if_neg (nI_ge (by omega) (by omega)), e_at (show i < qlen 6 by show i < 12; omega) (by decide), qb_I, e_put (show i < qlen 6 by show i < 12; omega) (by decide), qb_V, nI_1]
      exact e
    · rw [c y]
      by_cases h1 : i + 1 ≤ y ∧ y < n
      · rw [if_pos h1, if_pos (by omega), qu_at, if_neg (fun h => by have := h.2.2; omega)]
      · rw [if_neg h1, qu_at]
        by_cases h2 : y = i
        · rw [if_pos ⟨rfl, rfl, h2⟩, if_pos (by omega), h2]
        · rw [if_neg (fun h => h2 h.2.2), if_neg (by omega)]
theorem c_drop {j : Nat} (W : PW P) (H : Rep σ j P) {x : Nat} (hx : x < pn P) : ∃ σ', f_X5_drop j (nI x) σ = qdo σ' ∧ Rep σ' j (pdrop P x) ∧ Q0 j σ σ' := by
  have hn := W.1
  obtain ⟨s2, e2, o2, c2⟩ := e_gap (k := 2) (j := j) (x := x) rfl (by omega) σ
  obtain ⟨s3, e3, o3, c3⟩ := e_gap (k := 3) (j := j) (x := x) rfl (by omega) s2
  obtain ⟨s4, e4, o4, c4⟩ := e_gap (k := 4) (j := j) (x := x) rfl (by omega) s3
  obtain ⟨s5, e5, o5, c5⟩ := e_gap (k := 5) (j := j) (x := x) rfl (by omega) s4
  obtain ⟨s6, e6, o6, c6⟩ := e_gap (k := 6) (j := j) (x := x) rfl (by omega) s5
  obtain ⟨s7, e7, o7, c7⟩ := e_gap (k := 7) (j := j) (x := x) rfl (by omega) s6
  have r1 : s7 1 j = σ 1 j := by rw [o7 1 j (by simp), o6 1 j (by simp), o5 1 j (by simp), o4 1 j (by simp), o3 1 j (by simp), o2 1 j (by simp)]
  have r8 : s7 8 j = σ 8 j := by rw [o7 8 j (by simp), o6 8 j (by simp), o5 8 j (by simp), o4 8 j (by simp), o3 8 j (by simp), o2 8 j (by simp)]
  have q2 : ∀ y, y < 11 → s7 2 j y = σ 2 j (psh x y) := fun y hy => by rw [o7 2 j (by simp), o6 2 j (by simp), o5 2 j (by simp), o4 2 j (by simp), o3 2 j (by simp), c2 y hy]
  have q3 : ∀ y, y < 11 → s7 3 j y = σ 3 j (psh x y) := fun y hy => by rw [o7 3 j (by simp), o6 3 j (by simp), o5 3 j (by simp), o4 3 j (by simp), c3 y hy, o2 3 j (by simp)]
  have q4 : ∀ y, y < 11 → s7 4 j y = σ 4 j (psh x y) := fun y hy => by rw [o7 4 j (by simp), o6 4 j (by simp), o5 4 j (by simp), c4 y hy, o3 4 j (by simp), o2 4 j (by simp)]
  have q5 : ∀ y, y < 11 → s7 5 j y = σ 5 j (psh x y) := fun y hy => by rw [o7 5 j (by simp), o6 5 j (by simp), c5 y hy, o4 5 j (by simp), o3 5 j (by simp), o2 5 j (by simp)]
  have q6 : ∀ y, y < 11 → s7 6 j y = σ 6 j (psh x y) := fun y hy => by rw [o7 6 j (by simp), c6 y hy, o5 6 j (by simp), o4 6 j (by simp), o3 6 j (by simp), o2 6 j (by simp)]
  have q7 : ∀ y, y < 11 → s7 7 j y = σ 7 j (psh x y) := fun y hy => by rw [c7 y hy, o6 7 j (by simp), o5 7 j (by simp), o4 7 j (by simp), o3 7 j (by simp), o2 7 j (by simp)]
  obtain ⟨s8, hs8⟩ : ∃ s8, s8 = qu s7 1 j 7 (nI (pn P - 1)) := ⟨_, rfl⟩
  have hp : nI (pn P) - 1 = nI (pn P - 1) := by
    obtain ⟨k, hk⟩ : ∃ k, pn P = k + 1 := ⟨pn P - 1, by omega⟩
    rw [hk, nI_pred]
    rfl
  obtain ⟨s9, e9, o9, c9⟩ := c_cut_loop (j := j) (x := x) (n := pn P - 1) (by omega) (pn P - 1) 0 qFU s8 (by omega) (by unfold qFU; omega) (by rw [hs8, qu_at, if_pos ⟨rfl, rfl, rfl⟩])
  have o8 : ∀ a, a ≠ 1 → s8 a j = s7 a j := fun a h => by rw [hs8, qu_other _ (fun hh => h hh.1)]
  refine ⟨s9, ?_, ⟨?_, fun f t hf ht => ?_, fun r hr => ?_, ?_⟩, ?_⟩
  · unfold f_X5_drop
    rw [e2, qb_V, e3, qb_V, e4, qb_V, e5, qb_V, e6, qb_V, e7, qb_V, qlet_eq, r1, H.1, hp, ← hs8]
    exact e9
  · rw [o9 1 j (by simp), hs8, qu_at, if_pos ⟨rfl, rfl, rfl⟩]; rfl
  · have ht : t < pn P - 1 := ht
    have ht2 : psh x t < pn P := by unfold psh; split <;> omega
    have hh := H.2.1 f (psh x t) hf ht2
    rcases (show f = 0 ∨ f = 1 ∨ f = 2 ∨ f = 3 ∨ f = 4 ∨ f = 5 by omega) with rfl | rfl | rfl | rfl | rfl | rfl
    · rw [o9 (2 + 0) j (by simp), o8 (2 + 0) (by decide)]; exact (q2 t (by omega)).trans hh
    · rw [o9 (2 + 1) j (by simp), o8 (2 + 1) (by decide)]; exact (q3 t (by omega)).trans hh
    · rw [o9 (2 + 2) j (by simp), o8 (2 + 2) (by decide)]; exact (q4 t (by omega)).trans hh
    · rw [o9 (2 + 3) j (by simp), o8 (2 + 3) (by decide)]; exact (q5 t (by omega)).trans hh
    · have e := c9 t
      rw [if_pos (by omega), o8 6 (by decide), q6 t (by omega)] at e
      show s9 6 j t = pcut x (pf P 4 (psh x t))
      rw [e]
      exact congrArg (pcut x) hh
    · rw [o9 (2 + 5) j (by simp), o8 (2 + 5) (by decide)]; exact (q7 t (by omega)).trans hh
  · rw [o9 8 j (by simp), o8 8 (by decide), r8]; exact H.2.2.1 r hr
  · rw [o9 1 j (by simp), hs8, qu_at, if_neg (by simp), r1]; exact H.2.2.2
  · intro a b h
    have h1 : ∀ k, 1 ≤ k → k ≤ 8 → ¬ (a = k ∧ b = j) := fun k h1 h2 hh => h ⟨by omega, by omega, hh.2⟩
    rw [o9 a b (h1 6 (by omega) (by omega)), hs8, qu_other _ (h1 1 (by omega) (by omega)), o7 a b (h1 7 (by omega) (by omega)), o6 a b (h1 6 (by omega) (by omega)), o5 a b (h1 5 (by omega) (by omega)), o4 a b (h1 4 (by omega) (by omega)), o3 a b (h1 3 (by omega) (by omega)), o2 a b (h1 2 (by omega) (by omega))]
theorem c_takeStarts {j : Nat} (W : PW P) (H : Rep σ j P) (p1 : PlanOK P σ) : ∃ σ', f_X5_takeStarts j 17 0 σ = qdo σ' ∧ Rep σ' j (pmark P) ∧ Q0 j σ σ' := by
  have hn := W.1
  obtain ⟨s1, e1, o1, c1⟩ := e_copyRow (k1 := 17) (j1 := 0) (k2 := 7) (j2 := j) (L := 12) rfl rfl (by decide) (by simp) σ
  have t : ∀ a, a ≠ 1 → (qu s1 1 j 8 1) a j = s1 a j := fun a h => qu_other _ (fun hh => h hh.1)
  refine ⟨qu s1 1 j 8 1, by unfold f_X5_takeStarts; rw [e1, qb_V, qlet_eq], ⟨by rw [qu_at, if_neg (by simp), o1 1 j (by simp)]; exact H.1, fun f u hf hu => ?_, fun r hr => by rw [t 8 (by decide), o1 8 j (by simp)]; exact H.2.2.1 r hr, by rw [qu_at, if_pos ⟨rfl, rfl, rfl⟩]; rfl⟩, fun a b h => by rw [qu_other _ (fun hh => h ⟨by omega, by omega, hh.2⟩), o1 a b (fun hh => h ⟨by omega, by omega, hh.2⟩)]⟩
  have hu : u < pn P := hu
  rw [t (2 + f) (by omega)]
  by_cases h5 : f = 5
  · subst h5
    show s1 7 j u = nI (pV P u)
    rw [c1 u (by omega), p1.2.2.2.2.2.1.1 u hu (pst_full W hu)]
    rfl
  · rw [o1 (2 + f) j (fun hh => h5 (by omega))]
    show _ = (if f = 5 then nI (pV P u) else pf P f u)
    rw [if_neg h5]
    exact H.2.1 f u hf hu
end CH

