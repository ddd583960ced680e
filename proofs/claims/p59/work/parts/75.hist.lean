/-! copies, the histories -/
section HI
variable {P : qP} {hs : List qP} {σ : qS}
theorem c_copy (W : PW P) {j0 j1 : Nat} (hj : j0 ≠ j1) {σ : qS} (H : Rep σ j1 P) : ∃ σ', f_X5_copyFrom j0 j1 σ = qdo σ' ∧ (∀ a b, ¬ (1 ≤ a ∧ a ≤ 8 ∧ b = j0) → σ' a b = σ a b) ∧ Rep σ' j0 P := by
  have hn := W.1
  obtain ⟨s2, e2, o2, c2⟩ := e_copyRow (k1 := 2) (j1 := j1) (k2 := 2) (j2 := j0) (L := 12) rfl rfl (by decide) (fun h => hj h.2.symm) σ
  obtain ⟨s3, e3, o3, c3⟩ := e_copyRow (k1 := 3) (j1 := j1) (k2 := 3) (j2 := j0) (L := 12) rfl rfl (by decide) (fun h => hj h.2.symm) s2
  obtain ⟨s4, e4, o4, c4⟩ := e_copyRow (k1 := 4) (j1 := j1) (k2 := 4) (j2 := j0) (L := 12) rfl rfl (by decide) (fun h => hj h.2.symm) s3
  obtain ⟨s5, e5, o5, c5⟩ := e_copyRow (k1 := 5) (j1 := j1) (k2 := 5) (j2 := j0) (L := 12) rfl rfl (by decide) (fun h => hj h.2.symm) s4
  obtain ⟨s6, e6, o6, c6⟩ := e_copyRow (k1 := 6) (j1 := j1) (k2 := 6) (j2 := j0) (L := 12) rfl rfl (by decide) (fun h => hj h.2.symm) s5
  obtain ⟨s7, e7, o7, c7⟩ := e_copyRow (k1 := 7) (j1 := j1) (k2 := 7) (j2 := j0) (L := 12) rfl rfl (by decide) (fun h => hj h.2.symm) s6
  obtain ⟨s8, e8, o8, c8⟩ := e_copyRow (k1 := 8) (j1 := j1) (k2 := 8) (j2 := j0) (L := 3) rfl rfl (by decide) (fun h => hj h.2.symm) s7
  have p3 : s2 3 j1 = σ 3 j1 := o2 3 j1 (by simp)
  have p4 : s3 4 j1 = σ 4 j1 := by rw [o3 4 j1 (by simp), o2 4 j1 (by simp)]
  have p5 : s4 5 j1 = σ 5 j1 := by rw [o4 5 j1 (by simp), o3 5 j1 (by simp), o2 5 j1 (by simp)]
  have p6 : s5 6 j1 = σ 6 j1 := by rw [o5 6 j1 (by simp), o4 6 j1 (by simp), o3 6 j1 (by simp), o2 6 j1 (by simp)]
  have p7 : s6 7 j1 = σ 7 j1 := by rw [o6 7 j1 (by simp), o5 7 j1 (by simp), o4 7 j1 (by simp), o3 7 j1 (by simp), o2 7 j1 (by simp)]
  have p8 : s7 8 j1 = σ 8 j1 := by rw [o7 8 j1 (by simp), o6 8 j1 (by simp), o5 8 j1 (by simp), o4 8 j1 (by simp), o3 8 j1 (by simp), o2 8 j1 (by simp)]
  have p1 : ∀ j, s8 1 j = σ 1 j := fun j => by rw [o8 1 j (by simp), o7 1 j (by simp), o6 1 j (by simp), o5 1 j (by simp), o4 1 j (by simp), o3 1 j (by simp), o2 1 j (by simp)]
  have hq : qbo ((qu s8 1 j0 7 (s8 1 j1 7)) 1 j1 8) := by
    rw [qu_at, if_neg (by simp), p1 j1, H.2.2.2]
    exact W.2.2.2.2.1
  have e18 : (qu s8 1 j0 7 (s8 1 j1 7)) 1 j1 8 = ph P := by rw [qu_at, if_neg (by simp), p1 j1, H.2.2.2]
  obtain ⟨τ, hτ⟩ : ∃ τ, τ = qu (qu s8 1 j0 7 (s8 1 j1 7)) 1 j0 8 (ph P) := ⟨_, rfl⟩
  have t : ∀ a b, a ≠ 1 → τ a b = s8 a b := fun a b h => by rw [hτ, qu_other _ (fun hh => h hh.1), qu_other _ (fun hh => h hh.1)]
  refine ⟨τ, ?_, fun a b h => ?_, ?_, fun f u hf hu => ?_, fun r hr => ?_, ?_⟩
  · unfold f_X5_copyFrom
    rw [e2, qb_V, e3, qb_V, e4, qb_V, e5, qb_V, e6, qb_V, e7, qb_V, e8, qb_V, qlet_eq, if_pos hq, qlet_eq, e18, ← hτ]
  · have h1 : ∀ k, 1 ≤ k → k ≤ 8 → ¬ (a = k ∧ b = j0) := fun k h1 h2 hh => h ⟨by omega, by omega, hh.2⟩
    rw [hτ, qu_other _ (fun hh => h1 1 (by omega) (by omega) hh), qu_other _ (fun hh => h1 1 (by omega) (by omega) hh), o8 a b (h1 8 (by omega) (by omega)), o7 a b (h1 7 (by omega) (by omega)), o6 a b (h1 6 (by omega) (by omega)), o5 a b (h1 5 (by omega) (by omega)), o4 a b (h1 4 (by omega) (by omega)), o3 a b (h1 3 (by omega) (by omega)), o2 a b (h1 2 (by omega) (by omega))]
  · rw [hτ, qu_at, if_neg (by simp), qu_at, if_pos ⟨rfl, rfl, rfl⟩, p1 j1, H.1]
  · have hx : u < 12 := by omega
    have hh := H.2.1 f u hf hu
    rw [t (2 + f) j0 (by omega)]
    rcases (show f = 0 ∨ f = 1 ∨ f = 2 ∨ f = 3 ∨ f = 4 ∨ f = 5 by omega) with rfl | rfl | rfl | rfl | rfl | rfl
    · rw [← hh, o8 (2 + 0) j0 (by simp), o7 (2 + 0) j0 (by simp), o6 (2 + 0) j0 (by simp), o5 (2 + 0) j0 (by simp), o4 (2 + 0) j0 (by simp), o3 (2 + 0) j0 (by simp)]
      exact c2 u hx
    · rw [← hh, o8 (2 + 1) j0 (by simp), o7 (2 + 1) j0 (by simp), o6 (2 + 1) j0 (by simp), o5 (2 + 1) j0 (by simp), o4 (2 + 1) j0 (by simp), show s3 (2 + 1) j0 u = s2 3 j1 u from c3 u hx, p3]
    · rw [← hh, o8 (2 + 2) j0 (by simp), o7 (2 + 2) j0 (by simp), o6 (2 + 2) j0 (by simp), o5 (2 + 2) j0 (by simp), show s4 (2 + 2) j0 u = s3 4 j1 u from c4 u hx, p4]
    · rw [← hh, o8 (2 + 3) j0 (by simp), o7 (2 + 3) j0 (by simp), o6 (2 + 3) j0 (by simp), show s5 (2 + 3) j0 u = s4 5 j1 u from c5 u hx, p5]
    · rw [← hh, o8 (2 + 4) j0 (by simp), o7 (2 + 4) j0 (by simp), show s6 (2 + 4) j0 u = s5 6 j1 u from c6 u hx, p6]
    · rw [← hh, o8 (2 + 5) j0 (by simp), show s7 (2 + 5) j0 u = s6 7 j1 u from c7 u hx, p7]
  · rw [t 8 j0 (by decide), c8 r hr, p8, H.2.2.1 r hr]
  · rw [hτ, qu_at, if_pos ⟨rfl, rfl, rfl⟩]
def hpush (hs : List qP) (P : qP) : List qP := (if hs.length = 8 then hs.tail else hs) ++ [P]
theorem hpush_len8 (h : hs.length = 8) : (hpush hs P).length = 8 := by
  unfold hpush
  rw [if_pos h]
  simp [h]
theorem hpush_len (h : ¬ hs.length = 8) : (hpush hs P).length = hs.length + 1 := by
  unfold hpush
  rw [if_neg h]
  simp
theorem app_get {T : List qP} {c Q : qP} {i : Nat} (h : (T ++ [c])[i]? = some Q) : T[i]? = some Q ∧ i < T.length ∨ i = T.length ∧ Q = c := by
  rcases Nat.lt_trichotomy i T.length with h1 | h1 | h1
  · rw [List.getElem?_append_left h1] at h
    exact Or.inl ⟨h, h1⟩
  · subst h1
    rw [List.getElem?_append_right (Nat.le_refl _), Nat.sub_self] at h
    exact Or.inr ⟨rfl, by injection h with h; exact h.symm⟩
  · rw [List.getElem?_eq_none (by simp; omega)] at h
    cases h
theorem hpush_get8 (h : hs.length = 8) {i : Nat} {Q : qP} (hQ : (hpush hs P)[i]? = some Q) : hs[i + 1]? = some Q ∧ i < 7 ∨ i = 7 ∧ Q = P := by
  unfold hpush at hQ
  rw [if_pos h] at hQ
  have hl : hs.tail.length = 7 := by simp [h]
  rcases app_get hQ with ⟨h1, h2⟩ | ⟨h1, h2⟩
  · rw [List.getElem?_tail] at h1
    exact Or.inl ⟨h1, by omega⟩
  · exact Or.inr ⟨by omega, h2⟩
theorem hpush_get (h : ¬ hs.length = 8) {i : Nat} {Q : qP} (hQ : (hpush hs P)[i]? = some Q) : hs[i]? = some Q ∧ i < hs.length ∨ i = hs.length ∧ Q = P := by
  unfold hpush at hQ
  rw [if_neg h] at hQ
  exact app_get hQ
theorem HP.push (h : HP hs) (W : PW P) : HP (hpush hs P) := by
  intro i Q hQ
  by_cases h8 : hs.length = 8
  · rcases hpush_get8 h8 hQ with ⟨h1, -⟩ | ⟨-, rfl⟩
    · exact h _ _ h1
    · exact W
  · rcases hpush_get h8 hQ with ⟨h1, -⟩ | ⟨-, rfl⟩
    · exact h _ _ h1
    · exact W
theorem c_stateAt {nx : Nat} (h : nx < 8) (s : qS) : f_X2_stateAt (nI nx) s = some (.inl (some (qR 1 (3 + nx))), s) := by
  unfold f_X2_stateAt
  rw [if_neg (n_ge0 (by omega)), if_neg (by rw [show Int32.ofNat 8 = nI 8 from rfl, n_le (by omega) (by omega)]; omega), if_pos (n_in h (by decide)), nI_clamp (by omega)]
theorem qb_N {j : Nat} {s : qS} {kn : qS → Option qO} {k : Nat → qS → Option qO} {ke : String → qS → Option qO} (h : j < 11) : qbind (some (.inl (some (qR 1 j)), s)) (qvN 1 11 kn k) ke = k j s := by
  simp [qbind, qvN, h]
theorem c_keep (W : PW P) {nx : Nat} (C : HC σ hs nx) (H : Rep σ 0 P) : ∃ σ', f_X2_keep 0 σ = qdo σ' ∧ HC σ' (hpush hs P) ((nx + 1) % 8) ∧ ∀ a b, ¬ (1 ≤ a ∧ a ≤ 8 ∧ b = 3 + nx) → ¬ (a = 9 ∧ b = 0) → σ' a b = σ a b := by
  obtain ⟨a1, a2, a5, a6, a7⟩ := C
  obtain ⟨s1, e1, o1, H1⟩ := c_copy W (j0 := 3 + nx) (j1 := 0) (by omega) H
  have k9 : s1 9 0 = σ 9 0 := o1 9 0 (by omega)
  have hl : (hpush hs P).length = min (hs.length + 1) 8 := by
    by_cases h8 : hs.length = 8
    · rw [hpush_len8 h8]; omega
    · rw [hpush_len h8]; omega
  have hmin : qmin (nI hs.length + (1 : Int32)) (8 : Int32) = nI (min (hs.length + 1) 8) := by
    rw [nI_1]
    refine i_eq ?_
    rw [i_min, nI_toInt (by omega), nI_toInt (by omega), show (8 : Int32).toInt = 8 from rfl]
    omega
  obtain ⟨τ, hτ⟩ : ∃ τ, τ = qu (qu s1 9 0 2 (nI ((nx + 1) % 8))) 9 0 1 (nI (min (hs.length + 1) 8)) := ⟨_, rfl⟩
  have o : ∀ a b, ¬ (a = 9 ∧ b = 0) → τ a b = s1 a b := fun a b h => by rw [hτ, qu_other _ h, qu_other _ h]
  have kp : ∀ Q j, Rep s1 j Q → Rep τ j Q := fun Q j h => h.tr (fun a h1 h2 => o a j (by omega))
  refine ⟨τ, ?_, ⟨by rw [hl]; omega, by rw [hl, hτ, qu_at, if_pos ⟨rfl, rfl, rfl⟩], Nat.mod_lt _ (by decide), by rw [hτ, qu_at, if_neg (by simp), qu_at, if_pos ⟨rfl, rfl, rfl⟩], fun i Q hQ => ?_⟩, fun a b h1 h2 => by rw [o a b h2, o1 a b h1]⟩
  · unfold f_X2_keep
    rw [a6, c_stateAt a5, qb_N (by omega)]
    show qbind (f_X5_copyFrom (3 + nx) 0 σ) _ _ = _
    rw [e1, qb_V]
    unfold j_X2_keep_18
    rw [k9, a6, nI_1]
    by_cases h7 : nx = 7
    · rw [if_pos (by rw [h7]; decide), qlet_eq, qlet_eq, hτ, show (qu s1 9 0 2 0) 9 0 1 = nI hs.length by rw [qu_at, if_neg (by simp), k9, a2], hmin, h7]
      rfl
    · rw [if_neg (by rw [show (8 : Int32) = nI 8 from rfl, n_le (by omega) (by omega)]; omega), qlet_eq, qlet_eq, hτ, show (qu s1 9 0 2 (nI (nx + 1))) 9 0 1 = nI hs.length by rw [qu_at, if_neg (by simp), k9, a2], hmin, show (nx + 1) % 8 = nx + 1 by omega]
  · rw [hl]
    have old : ∀ i' Q, hs[i']? = some Q → (nx + 8 - hs.length + i') % 8 ≠ nx → Rep τ (3 + (nx + 8 - hs.length + i') % 8) Q := fun i' Q h hne => kp _ _ ((a7 i' Q h).tr (fun a h1 h2 => o1 a _ (fun hh => hne (by omega))))
    by_cases h8 : hs.length = 8
    · rcases hpush_get8 h8 hQ with ⟨h1, h2⟩ | ⟨h1, rfl⟩
      · have := old (i + 1) Q h1 (by omega)
        rw [show ((nx + 1) % 8 + 8 - min (hs.length + 1) 8 + i) % 8 = (nx + 8 - hs.length + (i + 1)) % 8 by omega]
        exact this
      · rw [show ((nx + 1) % 8 + 8 - min (hs.length + 1) 8 + i) % 8 = nx by omega]
        exact kp _ _ H1
    · rcases hpush_get h8 hQ with ⟨h1, h2⟩ | ⟨h1, rfl⟩
      · have := old i Q h1 (by omega)
        rw [show ((nx + 1) % 8 + 8 - min (hs.length + 1) 8 + i) % 8 = (nx + 8 - hs.length + i) % 8 by omega]
        exact this
      · rw [show ((nx + 1) % 8 + 8 - min (hs.length + 1) 8 + i) % 8 = nx by omega]
        exact kp _ _ H1
/-- a change begins in the class -/
theorem c_begin (W : PW P) {nx : Nat} (C : HC σ hs nx) (H : Rep σ 0 P) : ∃ σ', f_X7_beginChange σ = qdo σ' ∧ HC σ' (hpush hs P) ((nx + 1) % 8) ∧ Rep σ' 0 P ∧ σ' 0 0 8 = 0 ∧ (∀ a b, ¬ (1 ≤ a ∧ a ≤ 8 ∧ 3 ≤ b) → ¬ (a = 9 ∧ b = 0) → ¬ (a = 0 ∧ b = 0) → σ' a b = σ a b) ∧ ∀ x, x ≠ 8 → σ' 0 0 x = σ 0 0 x := by
  obtain ⟨s1, e1, C1, o1⟩ := c_keep W C H
  have o : ∀ a b, ¬ (a = 0 ∧ b = 0) → (qu s1 0 0 8 0) a b = s1 a b := fun a b h => qu_other _ h
  refine ⟨qu s1 0 0 8 0, by unfold f_X7_beginChange; rw [e1, qb_V, qlet_eq], ?_, ?_, by rw [qu_at, if_pos ⟨rfl, rfl, rfl⟩], fun a b h1 h2 h3 => by rw [o a b h3, o1 a b (by omega) h2], fun x hx => by rw [qu_at, if_neg (fun h => hx h.2.2), o1 0 0 (by omega) (by omega)]⟩
  · exact ⟨C1.1, by rw [o 9 0 (by simp)]; exact C1.2.1, C1.2.2.1, by rw [o 9 0 (by simp)]; exact C1.2.2.2.1, fun i Q hQ => (C1.2.2.2.2 i Q hQ).tr (fun a h1 h2 => o a _ (by omega))⟩
  · exact (H.tr (fun a h1 h2 => o1 a 0 (by omega) (by omega))).tr (fun a h1 h2 => o a 0 (by omega))
/-! the reference's history -/
end HI

