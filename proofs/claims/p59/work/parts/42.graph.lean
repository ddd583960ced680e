/-! ways in the graph of needs -/
def gw (ed : Nat → Nat → Bool) : Nat → Nat → Nat → Prop
  | 0, t, u => ed t u = true
  | k + 1, t, u => ∃ w, ed t w = true ∧ gw ed k w u
def gr (ed : Nat → Nat → Bool) (t u : Nat) : Prop := ∃ k, gw ed k t u
section G
variable {ed : Nat → Nat → Bool} {n : Nat} {h : Nat → Nat}
theorem gr_one {t u : Nat} (e : ed t u = true) : gr ed t u := ⟨0, e⟩
theorem gr_cons {t w u : Nat} (e : ed t w = true) (g : gr ed w u) : gr ed t u := by
  obtain ⟨k, g⟩ := g
  exact ⟨k + 1, w, e, g⟩
theorem gr_trans {t w u : Nat} (g : gr ed t w) (g2 : gr ed w u) : gr ed t u := by
  obtain ⟨k, g⟩ := g
  revert t
  induction k with
  | zero => intro t g; exact gr_cons g g2
  | succ k ih => intro t g; obtain ⟨x, e, g⟩ := g; exact gr_cons e (ih g)
theorem gr_last {t u : Nat} (g : gr ed t u) : ed t u = true ∨ ∃ w, gr ed t w ∧ ed w u = true := by
  obtain ⟨k, g⟩ := g
  revert t
  induction k with
  | zero => intro t g; exact Or.inl g
  | succ k ih =>
    intro t g
    obtain ⟨x, e, g⟩ := g
    rcases ih g with h1 | ⟨w, h1, h2⟩
    · exact Or.inr ⟨x, gr_one e, h1⟩
    · exact Or.inr ⟨w, gr_cons e h1, h2⟩
theorem gr_first {t u : Nat} (g : gr ed t u) : ed t u = true ∨ ∃ w, ed t w = true ∧ gr ed w u := by
  obtain ⟨k, g⟩ := g
  cases k with
  | zero => exact Or.inl g
  | succ k => obtain ⟨x, e, g⟩ := g; exact Or.inr ⟨x, e, k, g⟩
/-- what is reached lies among the tasks, lower -/
theorem gr_low (hc : ∀ t u, t < n → ed t u = true → u < n) (hh : ∀ t u, t < n → ed t u = true → h u < h t) {t u : Nat} (ht : t < n) (g : gr ed t u) : u < n ∧ h u < h t := by
  obtain ⟨k, g⟩ := g
  revert t
  induction k with
  | zero => intro t ht g; exact ⟨hc t u ht g, hh t u ht g⟩
  | succ k ih =>
    intro t ht g
    obtain ⟨x, e, g⟩ := g
    have h1 := ih (hc t x ht e) g
    have h2 := hh t x ht e
    exact ⟨h1.1, by omega⟩
/-- how many below k have p -/
def gcnt (p : Nat → Bool) : Nat → Nat
  | 0 => 0
  | k + 1 => gcnt p k + (if p k then 1 else 0)
theorem gcnt_le (p : Nat → Bool) : ∀ k, gcnt p k ≤ k
  | 0 => Nat.le_refl _
  | k + 1 => by have := gcnt_le p k; unfold gcnt; split <;> omega
theorem gcnt_mono {p q : Nat → Bool} (hpq : ∀ i, p i = true → q i = true) : ∀ k, gcnt p k ≤ gcnt q k
  | 0 => Nat.le_refl _
  | k + 1 => by
    have h1 := gcnt_mono hpq k
    unfold gcnt
    by_cases hp : p k = true
    · rw [if_pos hp, if_pos (hpq k hp)]; omega
    · rw [if_neg hp]; split <;> omega
theorem gcnt_lt {p q : Nat → Bool} (hpq : ∀ i, p i = true → q i = true) {x : Nat} (hx : p x = false) (hq : q x = true) : ∀ k, x < k → gcnt p k < gcnt q k
  | 0, hk => by omega
  | k + 1, hk => by
    unfold gcnt
    by_cases hxk : x = k
    · subst hxk
      have h1 := gcnt_mono hpq x
      rw [hx, hq]
      simp
      omega
    · have h1 := gcnt_lt hpq hx hq k (by omega)
      by_cases hp : p k = true
      · rw [if_pos hp, if_pos (hpq k hp)]; omega
      · rw [if_neg hp]; split <;> omega
/-- a rank below n -/
theorem g_rank (hc : ∀ t u, t < n → ed t u = true → u < n) (hh : ∃ h : Nat → Nat, ∀ t u, t < n → ed t u = true → h u < h t) : ∃ h : Nat → Nat, (∀ t u, t < n → ed t u = true → h u < h t) ∧ ∀ t, t < n → h t < n := by
  obtain ⟨h, hh⟩ := hh
  refine ⟨fun t => gcnt (fun u => decide (h u < h t)) n, fun t u ht e => ?_, fun t ht => ?_⟩
  · have h1 := hh t u ht e
    exact gcnt_lt (x := u) (fun i hi => by simp at hi ⊢; omega) (by simp) (by simpa using h1) n (hc t u ht e)
  · have h1 := gcnt_lt (p := fun u => decide (h u < h t)) (q := fun _ => true) (x := t) (fun _ _ => rfl) (by simp) rfl n ht
    have h2 := gcnt_le (fun _ => true) n
    show gcnt (fun u => decide (h u < h t)) n < n
    omega
end G

