/-! copies, the histories -/
section HI
variable {P : qP} {hs : List qP} {σ : qS}
theorem c_copy (W : PW P) {j0 j1 : Nat} (hj : j0 ≠ j1) {σ : qS} (H : Rep σ j1 P) : ∃ σ', f_X5_copyFrom j0 j1 σ = qdo σ' ∧ (∀ a b, ¬ (1 ≤ a ∧ a ≤ 8 ∧ b = j0) → σ' a b = σ a b) ∧ Rep σ' j0 P := by
  have hn := W.1
  obtain ⟨s2, e2, o2, c2⟩ := e_copyRow (k1 := 2) (j1 := j1) (k2 := 2) (j2 := j0) (L := 12) rfl rfl (by decide) (fun h => hj h.2.symm) σ
  obtain ⟨s3, e3, o3, c3⟩ := e_copyRow (k1 := 3) (j1 := j1) (k2 := 3) (j2 := j0) (L := 12) rfl rfl (by decide) (fun h => hj h.2.symm) s2
  obtain ⟨s4, e4, o4, c4⟩ := e_copyRow (k1 := 4) (j1 := j1) (k2 := 4) (j2 := j0) (L := 12) rfl rfl (by decide) (fun h => hj h.2.symm) s3
  obtain ⟨s5, e5, o5, c5⟩ := e_copyRow (k1 := 5) (j1 := j1) (k2 := 5) (j2 := j0) (L := 12) rfl rfl (by decide) (fun h => hj h.2.symm) s4
  obtain ⟨s6, e6, o6, c6⟩ := e_copyRow (k1 := 6) (j1 := j1) (k2 := 6) (j2 := j0) (L := 12) rfl rfl (by decide) (fun h => hj h.2.symm) s5
  obtain ⟨s7, e7, o7, c7⟩ := e_copyRow (k1 := 7) (j1 := j1) (k2 := 7) (j2 := j0) (L := 12) rfl rfl (by decide) (fun h => hj h.2.symm) s6
  obtain ⟨s8, e8, o8, c8⟩ := e_copyRow (k1 := 8) (j1 := j1) (k2 := 8) (j2 := j0) (L := 3) rfl rfl (by decide) (fun h => hj h.2.symm) s7
  have p3 : s2 3 j1 = σ 3 j1 := o2 3 j1 (by simp)
  have p4 : s3 4 j1 = σ 4 j1 := by rw [o3 4 j1 (by simp), o2 4 j1 (by simp)]
  have p5 : s4 5 j1 = σ 5 j1 := by rw [o4 5 j1 (by simp), o3 5 j1 (by simp), o2 5 j1 (by simp)]
  have p6 : s5 6 j1 = σ 6 j1 := by rw [o5 6 j1 (by simp), o4 6 j1 (by simp), o3 6 j1 (by simp), o2 6 j1 (by simp)]
  have p7 : s6 7 j1 = σ 7 j1 := by rw [o6 7 j1 (by simp), o5 7 j1 (by simp), o4 7 j1 (by simp), o3 7 j1 (by simp), o2 7 j1 (by simp)]
  have p8 : s7 8 j1 = σ 8 j1 := by rw [o7 8 j1 (by simp), o6 8 j1 (by simp), o5 8 j1 (by simp), o4 8 j1 (by simp), o3 8 j1 (by simp), o2 8 j1 (by simp)]
  have p1 : ∀ j, s8 1 j = σ 1 j := fun j => by rw [o8 1 j (by simp), o7 1 j (by simp), o6 1 j (by simp), o5 1 j (by simp), o4 1 j (by simp), o3 1 j (by simp), o2 1 j (by simp)]
  have hq : qbo ((qu s8 1 j0 7 (s8 1 j1 7)) 1 j1 8) := by
    rw [qu_at, if_neg (by simp), p1 j1, H.2.2.2]
    exact W.2.2.2.2.1
  have e18 : (qu s8 1 j0 7 (s8 1 j1 7)) 1 j1 8 = ph P := by rw [qu_at, if_neg (by simp), p1 j1, H.2.2.2]
  obtain ⟨τ, hτ⟩ : ∃ τ, τ = qu (qu s8 1 j0 7 (s8 1 j1 7)) 1 j0 8 (ph P) := ⟨_, rfl⟩
  have t : ∀ a b, a ≠ 1 → τ a b = s8 a b := fun a b h => by rw [hτ, qu_other _ (fun hh => h hh.1), qu_other _ (fun hh => h hh.1)]
  refine ⟨τ, ?_, fun a b h => ?_, ?_, fun f u hf hu => ?_, fun r hr => ?_, ?_⟩
  · unfold f_X5_copyFrom
    rw [e2, qb_V, e3, qb_V, e4, qb_V, e5, qb_V, e6, qb_V, e7, qb_V, e8, qb_V, qlet_eq, if_pos hq, qlet_eq, e18, ← hτ]
  · have h1 : ∀ k, 1 ≤ k → k ≤ 8 → ¬ (a = k ∧ b = j0) := fun k h1 h2 hh => h ⟨by omega, by omega, hh.2⟩
    rw [hτ, qu_other _ (fun hh => h1 1 (by omega) (by omega) hh), qu_other _ (fun hh => h1 1 (by omega) (by omega) hh), o8 a b (h1 8 (by omega) (by omega)), o7 a b (h1 7 (by omega) (by omega)), o6 a b (h1 6 (by omega) (by omega)), o5 a b (h1 5 (by omega) (by omega)), o4 a b (h1 4 (by omega) (by omega)), o3 a b (h1 3 (by omega) (by omega)), o2 a b (h1 2 (by omega) (by omega))]
  · rw [hτ, qu_at, if_neg (by simp), qu_at, if_pos ⟨rfl, rfl, rfl⟩, p1 j1, H.1]
  · have hx : u < 12 := by omega
    have hh := H.2.1 f u hf hu
    rw [t (2 + f) j0 (by omega)]
    rcases (show f = 0 ∨ f = 1 ∨ f = 2 ∨ f = 3 ∨ f = 4 ∨ f = 5 by omega) with rfl | rfl | rfl | rfl | rfl | rfl
    · rw [← hh, o8 (2 + 0) j0 (by simp), o7 (2 + 0) j0 (by simp), o6 (2 + 0) j0 (by simp), o5 (2 + 0) j0 (by simp), o4 (2 + 0) j0 (by simp), o3 (2 + 0) j0 (by simp)]
      exact c2 u hx
    · rw [← hh, o8 (2 + 1) j0 (by simp), o7 (2 + 1) j0 (by simp), o6 (2 + 1) j0 (by simp), o5 (2 + 1) j0 (by simp), o4 (2 + 1) j0 (by simp), show s3 (2 + 1) j0 u = s2 3 j1 u from c3 u hx, p3]
    · rw [← hh, o8 (2 + 2) j0 (by simp), o7 (2 + 2) j0 (by simp), o6 (2 + 2) j0 (by simp), o5 (2 + 2) j0 (by simp), show s4 (2 + 2) j0 u = s3 4 j1 u from c4 u hx, p4]
    · rw [← hh, o8 (2 + 3) j0 (by simp), o7 (2 + 3) j0 (by simp), o6 (2 + 3) j0 (by simp), show s5 (2 + 3) j0 u = s4 5 j1 u from c5 u hx, p5]
    · rw [← hh, o8 (2 + 4) j0 (by simp), o7 (2 + 4) j0 (by simp), show s6 (2 + 4) j0 u = s5 6 j1 u from c6 u hx, p6]
    · rw [← hh, o8 (2 + 5) j0 (by simp), show s7 (2 + 5) j0 u = s6 7 j1 u from c7 u hx, p7]
  · rw [t 8 j0 (by decide), c8 r hr, p8, H.2.2.1 r hr]
  · rw [hτ, qu_at, if_pos ⟨rfl, rfl, rfl⟩]
theorem r_copy_loop {k1 k3 a b : Nat} (hk : k1 ≠ k3) (ha : a + 77 ≤ qlen k1) (hb : b + 77 ≤ qlen k3) (l1 : qlen k1 < 1000) (l3 : qlen k3 < 1000) : ∀ (d i m : Nat) (s : qS), i + d = 77 → d < m → ∃ s', l_X8_copies_3 k1 0 k3 0 m (nI a) (nI b) (nI i) s = qdo s' ∧ (∀ a' b', ¬ (a' = k3 ∧ b' = 0) → s' a' b' = s a' b') ∧ ∀ y, s' k3 0 y = if b + i ≤ y ∧ y < b + 77 then s k1 0 (a + (y - b)) else s k3 0 y := by
  intro d
  induction d with
  | zero =>
    intro i m s hi hm
    obtain ⟨m, rfl⟩ : ∃ m', m = m' + 1 := ⟨m - 1, by omega⟩
    refine ⟨s, ?_, fun _ _ _ => rfl, fun y => by rw [if_neg (by omega)]⟩
    simp only [l_X8_copies_3, b_X8_copies_3]
    rw [if_pos (by rw [show (77 : Int32) = nI 77 from rfl]; exact nI_le (by omega) (by omega))]
  | succ d ih =>
    intro i m s hi hm
    obtain ⟨m, rfl⟩ : ∃ m', m = m' + 1 := ⟨m - 1, by omega⟩
    obtain ⟨s', e, o, c⟩ := ih (i + 1) m (qu s k3 0 (b + i) (s k1 0 (a + i))) (by omega) (by omega)
    refine ⟨s', ?_, fun a' b' h => by rw [o a' b' h, qu_other s h], fun y => ?_⟩
    · simp only [l_X8_copies_3, b_X8_copies_3]
      rw [if_neg (by rw [show (77 : Int32) = nI 77 from rfl]; exact nI_ge (by omega) (by omega)), nI_add, nI_add, if_pos (n_in (by omega) (by omega)), if_pos (n_in (by omega) (by omega)), nI_clamp (by omega), nI_clamp (by omega), qlet_eq, nI_1]
      exact e
    · rw [c y]
      by_cases h1 : b + (i + 1) ≤ y ∧ y < b + 77
      · rw [if_pos h1, if_pos (by omega), qu_at, if_neg (fun h => hk h.1)]
      · rw [if_neg h1, qu_at]
        by_cases h2 : y = b + i
        · rw [if_pos ⟨rfl, rfl, h2⟩, if_pos (by omega), show a + (y - b) = a + i by omega]
        · rw [if_neg (fun h => h2 h.2.2), if_neg (by omega)]
theorem r_copy {k1 k3 a b : Nat} (hk : k1 ≠ k3) (ha : a + 77 ≤ qlen k1) (hb : b + 77 ≤ qlen k3) (l1 : qlen k1 < 1000) (l3 : qlen k3 < 1000) (s : qS) : ∃ s', f_X8_copies k1 0 (nI a) k3 0 (nI b) s = qdo s' ∧ qsm [k3] s s' ∧ (∀ x, x < 77 → s' k3 0 (b + x) = s k1 0 (a + x)) ∧ ∀ y, ¬ (b ≤ y ∧ y < b + 77) → s' k3 0 y = s k3 0 y := by
  obtain ⟨s', e, o, c⟩ := r_copy_loop hk ha hb l1 l3 77 0 qFU s (by omega) (by unfold qFU; omega)
  refine ⟨s', e, fun a' b' h => o a' b' (fun hh => h (by rw [hh.1]; simp)), fun x hx => ?_, fun y hy => ?_⟩
  · rw [c, if_pos (by omega), show b + x - b = x by omega]
  · rw [c, if_neg (by omega)]
theorem RepR.cp {σ σ' : qS} {k1 k3 a b : Nat} (H : RepR σ k1 a P) (hn : pn P ≤ 12) (h : ∀ x, x < 77 → σ' k3 0 (b + x) = σ k1 0 (a + x)) : RepR σ' k3 b P := by
  refine ⟨?_, ?_, fun r hr => ?_, fun f t hf ht => ?_⟩
  · have := h 0 (by omega)
    rw [Nat.add_zero, Nat.add_zero] at this
    rw [this]; exact H.1
  · rw [h 1 (by omega)]; exact H.2.1
  · rw [show b + 2 + r = b + (2 + r) by omega, h (2 + r) (by omega), show a + (2 + r) = a + 2 + r by omega]; exact H.2.2.1 r hr
  · rw [show b + 5 + 6 * t + f = b + (5 + 6 * t + f) by omega, h _ (by omega), show a + (5 + 6 * t + f) = a + 5 + 6 * t + f by omega]; exact H.2.2.2 f t hf ht
/-- the class's history, the reference's -/
def HC (σ : qS) (hs : List qP) (nx : Nat) : Prop := hs.length ≤ 8 ∧ σ 9 0 1 = nI hs.length ∧ nx < 8 ∧ σ 9 0 2 = nI nx ∧ ∀ i Q, hs[i]? = some Q → Rep σ (3 + (nx + 8 - hs.length + i) % 8) Q
def HR (σ : qS) (hs : List qP) : Prop := hs.length ≤ 8 ∧ σ 26 0 5 = nI hs.length ∧ ∀ i Q, hs[i]? = some Q → RepR σ 30 (77 * i) Q
def HP (hs : List qP) : Prop := ∀ (i : Nat) (Q : qP), hs[i]? = some Q → PW Q
theorem HistOK.split (h : HistOK σ hs) : (∃ nx, HC σ hs nx) ∧ HR σ hs ∧ HP hs := by
  obtain ⟨a1, a2, a3, a4, nx, a5, a6, a7⟩ := h
  exact ⟨⟨nx, a1, a2, a5, a6, a7⟩, ⟨a1, a3, fun i Q hQ => (a4 i Q hQ).2⟩, fun i Q hQ => (a4 i Q hQ).1⟩
theorem HistOK.join {nx : Nat} (h1 : HC σ hs nx) (h2 : HR σ hs) (h3 : HP hs) : HistOK σ hs :=
  ⟨h1.1, h1.2.1, h2.2.1, fun i Q hQ => ⟨h3 i Q hQ, h2.2.2 i Q hQ⟩, nx, h1.2.2.1, h1.2.2.2.1, h1.2.2.2.2⟩
def hpush (hs : List qP) (P : qP) : List qP := (if hs.length = 8 then hs.tail else hs) ++ [P]
theorem hpush_len8 (h : hs.length = 8) : (hpush hs P).length = 8 := by
  unfold hpush
  rw [if_pos h]
  simp [h]
theorem hpush_len (h : ¬ hs.length = 8) : (hpush hs P).length = hs.length + 1 := by
  unfold hpush
  rw [if_neg h]
  simp
theorem app_get {T : List qP} {c Q : qP} {i : Nat} (h : (T ++ [c])[i]? = some Q) : T[i]? = some Q ∧ i < T.length ∨ i = T.length ∧ Q = c := by
  rcases Nat.lt_trichotomy i T.length with h1 | h1 | h1
  · rw [List.getElem?_append_left h1] at h
    exact Or.inl ⟨h, h1⟩
  · subst h1
    rw [List.getElem?_append_right (Nat.le_refl _), Nat.sub_self] at h
    exact Or.inr ⟨rfl, by injection h with h; exact h.symm⟩
  · rw [List.getElem?_eq_none (by simp; omega)] at h
    cases h
theorem hpush_get8 (h : hs.length = 8) {i : Nat} {Q : qP} (hQ : (hpush hs P)[i]? = some Q) : hs[i + 1]? = some Q ∧ i < 7 ∨ i = 7 ∧ Q = P := by
  unfold hpush at hQ
  rw [if_pos h] at hQ
  have hl : hs.tail.length = 7 := by simp [h]
  rcases app_get hQ with ⟨h1, h2⟩ | ⟨h1, h2⟩
  · rw [List.getElem?_tail] at h1
    exact Or.inl ⟨h1, by omega⟩
  · exact Or.inr ⟨by omega, h2⟩
theorem hpush_get (h : ¬ hs.length = 8) {i : Nat} {Q : qP} (hQ : (hpush hs P)[i]? = some Q) : hs[i]? = some Q ∧ i < hs.length ∨ i = hs.length ∧ Q = P := by
  unfold hpush at hQ
  rw [if_neg h] at hQ
  exact app_get hQ
theorem HP.push (h : HP hs) (W : PW P) : HP (hpush hs P) := by
  intro i Q hQ
  by_cases h8 : hs.length = 8
  · rcases hpush_get8 h8 hQ with ⟨h1, -⟩ | ⟨-, rfl⟩
    · exact h _ _ h1
    · exact W
  · rcases hpush_get h8 hQ with ⟨h1, -⟩ | ⟨-, rfl⟩
    · exact h _ _ h1
    · exact W
theorem c_stateAt {nx : Nat} (h : nx < 8) (s : qS) : f_X2_stateAt (nI nx) s = some (.inl (some (qR 1 (3 + nx))), s) := by
  unfold f_X2_stateAt
  rw [if_neg (n_ge0 (by omega)), if_neg (by rw [show Int32.ofNat 8 = nI 8 from rfl, n_le (by omega) (by omega)]; omega), if_pos (n_in h (by decide)), nI_clamp (by omega)]
theorem qb_N {j : Nat} {s : qS} {kn : qS → Option qO} {k : Nat → qS → Option qO} {ke : String → qS → Option qO} (h : j < 11) : qbind (some (.inl (some (qR 1 j)), s)) (qvN 1 11 kn k) ke = k j s := by
  simp [qbind, qvN, h]
theorem c_keep (W : PW P) {nx : Nat} (C : HC σ hs nx) (H : Rep σ 0 P) : ∃ σ', f_X2_keep 0 σ = qdo σ' ∧ HC σ' (hpush hs P) ((nx + 1) % 8) ∧ ∀ a b, ¬ (1 ≤ a ∧ a ≤ 8 ∧ b = 3 + nx) → ¬ (a = 9 ∧ b = 0) → σ' a b = σ a b := by
  obtain ⟨a1, a2, a5, a6, a7⟩ := C
  obtain ⟨s1, e1, o1, H1⟩ := c_copy W (j0 := 3 + nx) (j1 := 0) (by omega) H
  have k9 : s1 9 0 = σ 9 0 := o1 9 0 (by omega)
  have hl : (hpush hs P).length = min (hs.length + 1) 8 := by
    by_cases h8 : hs.length = 8
    · rw [hpush_len8 h8]; omega
    · rw [hpush_len h8]; omega
  have hmin : qmin (nI hs.length + (1 : Int32)) (8 : Int32) = nI (min (hs.length + 1) 8) := by
    rw [nI_1]
    refine i_eq ?_
    rw [i_min, nI_toInt (by omega), nI_toInt (by omega), show (8 : Int32).toInt = 8 from rfl]
    omega
  obtain ⟨τ, hτ⟩ : ∃ τ, τ = qu (qu s1 9 0 2 (nI ((nx + 1) % 8))) 9 0 1 (nI (min (hs.length + 1) 8)) := ⟨_, rfl⟩
  have o : ∀ a b, ¬ (a = 9 ∧ b = 0) → τ a b = s1 a b := fun a b h => by rw [hτ, qu_other _ h, qu_other _ h]
  have kp : ∀ Q j, Rep s1 j Q → Rep τ j Q := fun Q j h => h.tr (fun a h1 h2 => o a j (by omega))
  refine ⟨τ, ?_, ⟨by rw [hl]; omega, by rw [hl, hτ, qu_at, if_pos ⟨rfl, rfl, rfl⟩], Nat.mod_lt _ (by decide), by rw [hτ, qu_at, if_neg (by simp), qu_at, if_pos ⟨rfl, rfl, rfl⟩], fun i Q hQ => ?_⟩, fun a b h1 h2 => by rw [o a b h2, o1 a b h1]⟩
  · unfold f_X2_keep
    rw [a6, c_stateAt a5, qb_N (by omega)]
    show qbind (f_X5_copyFrom (3 + nx) 0 σ) _ _ = _
    rw [e1, qb_V]
    unfold j_X2_keep_18
    rw [k9, a6, nI_1]
    by_cases h7 : nx = 7
    · rw [if_pos (by rw [h7]; decide), qlet_eq, qlet_eq, hτ, show (qu s1 9 0 2 0) 9 0 1 = nI hs.length by rw [qu_at, if_neg (by simp), k9, a2], hmin, h7]
      rfl
    · rw [if_neg (by rw [show (8 : Int32) = nI 8 from rfl, n_le (by omega) (by omega)]; omega), qlet_eq, qlet_eq, hτ, show (qu s1 9 0 2 (nI (nx + 1))) 9 0 1 = nI hs.length by rw [qu_at, if_neg (by simp), k9, a2], hmin, show (nx + 1) % 8 = nx + 1 by omega]
  · rw [hl]
    have old : ∀ i' Q, hs[i']? = some Q → (nx + 8 - hs.length + i') % 8 ≠ nx → Rep τ (3 + (nx + 8 - hs.length + i') % 8) Q := fun i' Q h hne => kp _ _ ((a7 i' Q h).tr (fun a h1 h2 => o1 a _ (fun hh => hne (by omega))))
    by_cases h8 : hs.length = 8
    · rcases hpush_get8 h8 hQ with ⟨h1, h2⟩ | ⟨h1, rfl⟩
      · have := old (i + 1) Q h1 (by omega)
        rw [show ((nx + 1) % 8 + 8 - min (hs.length + 1) 8 + i) % 8 = (nx + 8 - hs.length + (i + 1)) % 8 by omega]
        exact this
      · rw [show ((nx + 1) % 8 + 8 - min (hs.length + 1) 8 + i) % 8 = nx by omega]
        exact kp _ _ H1
    · rcases hpush_get h8 hQ with ⟨h1, h2⟩ | ⟨h1, rfl⟩
      · have := old i Q h1 (by omega)
        rw [show ((nx + 1) % 8 + 8 - min (hs.length + 1) 8 + i) % 8 = (nx + 8 - hs.length + i) % 8 by omega]
        exact this
      · rw [show ((nx + 1) % 8 + 8 - min (hs.length + 1) 8 + i) % 8 = nx by omega]
        exact kp _ _ H1
/-- a change begins in the class -/
theorem c_begin (W : PW P) {nx : Nat} (C : HC σ hs nx) (H : Rep σ 0 P) : ∃ σ', f_X7_beginChange σ = qdo σ' ∧ HC σ' (hpush hs P) ((nx + 1) % 8) ∧ Rep σ' 0 P ∧ σ' 0 0 8 = 0 ∧ (∀ a b, ¬ (1 ≤ a ∧ a ≤ 8 ∧ 3 ≤ b) → ¬ (a = 9 ∧ b = 0) → ¬ (a = 0 ∧ b = 0) → σ' a b = σ a b) ∧ ∀ x, x ≠ 8 → σ' 0 0 x = σ 0 0 x := by
  obtain ⟨s1, e1, C1, o1⟩ := c_keep W C H
  have o : ∀ a b, ¬ (a = 0 ∧ b = 0) → (qu s1 0 0 8 0) a b = s1 a b := fun a b h => qu_other _ h
  refine ⟨qu s1 0 0 8 0, by unfold f_X7_beginChange; rw [e1, qb_V, qlet_eq], ?_, ?_, by rw [qu_at, if_pos ⟨rfl, rfl, rfl⟩], fun a b h1 h2 h3 => by rw [o a b h3, o1 a b (by omega) h2], fun x hx => by rw [qu_at, if_neg (fun h => hx h.2.2), o1 0 0 (by omega) (by omega)]⟩
  · exact ⟨C1.1, by rw [o 9 0 (by simp)]; exact C1.2.1, C1.2.2.1, by rw [o 9 0 (by simp)]; exact C1.2.2.2.1, fun i Q hQ => (C1.2.2.2.2 i Q hQ).tr (fun a h1 h2 => o a _ (by omega))⟩
  · exact (H.tr (fun a h1 h2 => o1 a 0 (by omega) (by omega))).tr (fun a h1 h2 => o a 0 (by omega))
/-! the reference's history -/
theorem r_shift_loop : ∀ (d i m : Nat) (s : qS), i + d = 539 → d < m → ∃ s', l_X8_remembers_11 m (nI i) s = j_X8_remembers_49 (qu s' 26 0 5 (s' 26 0 5 - 1)) ∧ qsm [30] s s' ∧ ∀ y, s' 30 0 y = if i ≤ y ∧ y < 539 then s 30 0 (y + 77) else s 30 0 y := by
  intro d
  induction d with
  | zero =>
    intro i m s hi hm
    obtain ⟨m, rfl⟩ : ∃ m', m = m' + 1 := ⟨m - 1, by omega⟩
    refine ⟨s, ?_, qsm.refl _ s, fun y => by rw [if_neg (by omega)]⟩
    simp only [l_X8_remembers_11, b_X8_remembers_11]
    rw [if_pos (by rw [show (539 : Int32) = nI 539 from rfl]; exact nI_le (by omega) (by omega)), qlet_eq]
  | succ d ih =>
    intro i m s hi hm
    obtain ⟨m, rfl⟩ : ∃ m', m = m' + 1 := ⟨m - 1, by omega⟩
    obtain ⟨s', e, o, c⟩ := ih (i + 1) m (qu s 30 0 i (s 30 0 (i + 77))) (by omega) (by omega)
    refine ⟨s', ?_, (qsm_qu s 30 0 i _).trans o, fun y => ?_⟩
    · simp only [l_X8_remembers_11, b_X8_remembers_11]
      rw [if_neg (by rw [show (539 : Int32) = nI 539 from rfl]; exact nI_ge (by omega) (by omega)), show (77 : Int32) = nI 77 from rfl, nI_add, if_pos (n_in (by omega) (by decide)), if_pos (n_in (by omega) (by decide)), nI_clamp (by omega), nI_clamp (by omega), qlet_eq, nI_1]
      exact e
    · rw [c y]
      by_cases h1 : i + 1 ≤ y ∧ y < 539
      · rw [if_pos h1, if_pos (by omega), qu_at, if_neg (fun h => by have := h.2.2; omega)]
      · rw [if_neg h1, qu_at]
        by_cases h2 : y = i
        · rw [if_pos ⟨rfl, rfl, h2⟩, if_pos (by omega), h2]
        · rw [if_neg (fun h => h2 h.2.2), if_neg (by omega)]
theorem r_rem49 (W : PW P) {ls : List qP} (hl : ls.length < 8) (h5 : σ 26 0 5 = nI ls.length) (hh : ∀ i Q, ls[i]? = some Q → RepR σ 30 (77 * i) Q) (hp : HP ls) (R : RepR σ 28 0 P) : ∃ σ', j_X8_remembers_49 σ = qdo σ' ∧ HR σ' (ls ++ [P]) ∧ (∀ a b, a ≠ 30 → a ≠ 26 → σ' a b = σ a b) ∧ ∀ x, x ≠ 5 → σ' 26 0 x = σ 26 0 x := by
  have hn := W.1
  obtain ⟨s1, e1, q1, c1, d1⟩ := r_copy (k1 := 28) (k3 := 30) (a := 0) (b := 77 * ls.length) (by decide) (by decide) (by show 77 * ls.length + 77 ≤ 616; omega) (by decide) (by decide) σ
  have e5 : s1 26 0 5 = nI ls.length := by rw [q1 26 0 (by simp)]; exact h5
  refine ⟨qu s1 26 0 5 (nI (ls.length + 1)), ?_, ⟨by rw [List.length_append]; show ls.length + 1 ≤ 8; omega, by rw [qu_at, if_pos ⟨rfl, rfl, rfl⟩, List.length_append]; rfl, fun i Q hQ => ?_⟩, fun a b h1 h2 => by rw [qu_other _ (fun h => h2 h.1), q1 a b (by simp [h1])], fun x hx => by rw [qu_at, if_neg (fun h => hx h.2.2), q1 26 0 (by simp)]⟩
  · unfold j_X8_remembers_49
    rw [h5, show (77 : Int32) = nI 77 from rfl, n_mul, Nat.mul_comm]
    erw [e1]
    rw [qb_V, qlet_eq, e5, nI_1]
  · have g : RepR s1 30 (77 * i) Q := by
      rcases app_get hQ with ⟨h1, h2⟩ | ⟨h1, rfl⟩
      · have hw := hp i Q h1
        exact (hh i Q h1).cp hw.1 (fun x hx => d1 _ (by omega))
      · subst h1
        exact R.cp hn (fun x hx => c1 x hx)
    exact g.tr (qu_other _ (by simp))
theorem r_remembers (W : PW P) (C : HR σ hs) (hp : HP hs) (R : RepR σ 28 0 P) : ∃ σ', f_X8_remembers σ = qdo σ' ∧ HR σ' (hpush hs P) ∧ (∀ a b, a ≠ 30 → a ≠ 26 → σ' a b = σ a b) ∧ ∀ x, x ≠ 5 → σ' 26 0 x = σ 26 0 x := by
  have hn := W.1
  obtain ⟨a1, a2, a3⟩ := C
  unfold f_X8_remembers
  by_cases h8 : hs.length = 8
  · rw [if_pos (by rw [a2, h8]; rfl)]
    obtain ⟨s1, e1, q1, c1⟩ := r_shift_loop 539 0 qFU σ (by omega) (by unfold qFU; omega)
    have e5 : s1 26 0 5 = nI hs.length := by rw [q1 26 0 (by simp)]; exact a2
    have hl : hs.tail.length = 7 := by simp [h8]
    obtain ⟨s2, e2, C2, o2, y2⟩ := r_rem49 (σ := qu s1 26 0 5 (s1 26 0 5 - 1)) W (ls := hs.tail) (by omega) (by rw [qu_at, if_pos ⟨rfl, rfl, rfl⟩, e5, hl, h8]; rfl) (fun i Q hQ => by
      rw [List.getElem?_tail] at hQ
      have hi : i < 7 := by
        rcases Nat.lt_or_ge i 7 with h | h
        · exact h
        · rw [List.getElem?_eq_none (by omega)] at hQ
          cases hQ
      have hw := hp _ _ hQ
      have g : RepR s1 30 (77 * i) Q := (a3 (i + 1) Q hQ).cp hw.1 (fun x hx => by rw [c1, if_pos (by omega), show 77 * i + x + 77 = 77 * (i + 1) + x by omega])
      exact g.tr (qu_other _ (by simp))) (fun i Q hQ => by
      rw [List.getElem?_tail] at hQ
      exact hp _ _ hQ) ((R.same q1 (by simp)).tr (qu_other _ (by simp)))
    refine ⟨s2, ?_, ?_, fun a b h1 h2 => by rw [o2 a b h1 h2, qu_other _ (fun h => h2 h.1), q1 a b (by simp [h1])], fun x hx => by rw [y2 x hx, qu_at, if_neg (fun h => hx h.2.2), q1 26 0 (by simp)]⟩
    · erw [e1]
      exact e2
    · unfold hpush
      rw [if_pos h8]
      exact C2
  · rw [if_neg (fun h => h8 (by rw [a2, show (8 : Int32) = nI 8 from rfl, n_eq (by omega) (by omega)] at h; exact h))]
    obtain ⟨s2, e2, C2, o2, y2⟩ := r_rem49 W (ls := hs) (by omega) a2 a3 hp R
    refine ⟨s2, e2, ?_, o2, y2⟩
    unfold hpush
    rw [if_neg h8]
    exact C2
end HI
