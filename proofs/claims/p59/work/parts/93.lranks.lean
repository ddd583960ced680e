/-! every rank is somebody's -/
section RK
variable {P : qP} {A B : Nat → Int}
theorem rb_total {t u : Nat} (h : t ≠ u) : rb A B t u = true ∨ rb A B u t = true := by
  unfold rb
  rw [decide_eq_true_iff, decide_eq_true_iff]
  omega
theorem rb_of_rank {n t u : Nat} (ht : t < n) (hu : u < n) (h : rkc A B n t < rkc A B n u) : rb A B t u = true := by
  by_cases e : t = u
  · rw [e] at h
    omega
  · rcases rb_total (A := A) (B := B) e with h1 | h1
    · exact h1
    · have := rkc_lt hu h1
      omega
theorem gsum_hit {x : Nat} : ∀ n, gsum (fun k => if x = k then 1 else 0) n = if x < n then 1 else 0
  | 0 => by rw [if_neg (by omega)]; rfl
  | n + 1 => by
    rw [gsum_last, gsum_hit n]
    by_cases h : x < n
    · rw [if_pos h, if_neg (by omega), if_pos (by omega)]
    · by_cases h2 : x = n
      · rw [if_neg h, if_pos h2, if_pos (by omega)]
      · rw [if_neg h, if_neg h2, if_neg (by omega)]
theorem gsum_ones {f : Nat → Nat} : ∀ n, (∀ i, i < n → f i = 1) → gsum f n = n
  | 0, _ => rfl
  | n + 1, h => by rw [gsum_last, gsum_ones n (fun i hi => h i (by omega)), h n (by omega)]
theorem gsum_le1 {f : Nat → Nat} : ∀ n, (∀ i, i < n → f i ≤ 1) → gsum f n ≤ n
  | 0, _ => Nat.le_refl _
  | n + 1, h => by
    rw [gsum_last]
    have := gsum_le1 n (fun i hi => h i (by omega))
    have := h n (by omega)
    omega
theorem gsum_gap {f : Nat → Nat} {x : Nat} : ∀ n, (∀ i, i < n → f i ≤ 1) → x < n → f x = 0 → gsum f n < n
  | 0, _, hx, _ => by omega
  | n + 1, h, hx, h0 => by
    rw [gsum_last]
    have h1 := h n (by omega)
    by_cases e : x = n
    · have := gsum_le1 n (fun i hi => h i (by omega))
      rw [e] at h0
      omega
    · have := gsum_gap n (fun i hi => h i (by omega)) (by omega) h0
      omega
theorem gsum_once {f : Nat → Nat} {p : Nat → Bool} : ∀ n, (∀ i, f i = if p i = true then 1 else 0) → (∀ i j, i < n → j < n → p i = true → p j = true → i = j) → gsum f n ≤ 1
  | 0, _, _ => Nat.zero_le _
  | n + 1, h, hu => by
    rw [gsum_last, h n]
    have h1 := gsum_once n h (fun i j hi hj => hu i j (by omega) (by omega))
    by_cases hp : p n = true
    · rw [if_pos hp, gsum_zero n (fun i hi => by
        rw [h i, if_neg (fun h2 => by have := hu i n (by omega) (by omega) h2 hp; omega)])]
      exact Nat.le_refl _
    · rw [if_neg hp]
      exact h1
theorem rank_ex {n k : Nat} (hk : k < n) : ∃ t, t < n ∧ rkc A B n t = k := by
  apply Classical.byContradiction
  intro hno
  have key : gsum (fun k => gsum (fun t => if rkc A B n t = k then 1 else 0) n) n = n := by
    rw [gsum_swap (fun k t => if rkc A B n t = k then 1 else 0) n n]
    refine gsum_ones n (fun t ht => ?_)
    rw [gsum_hit, if_pos (rkc_small ht)]
  have h2 : gsum (fun k => gsum (fun t => if rkc A B n t = k then 1 else 0) n) n < n := by
    refine gsum_gap (x := k) n (fun i hi => ?_) hk ?_
    · refine gsum_once (p := fun t => decide (rkc A B n t = i)) n (fun t => ?_) (fun t u ht hu h1 h2 => ?_)
      · by_cases e : rkc A B n t = i
        · rw [if_pos e, if_pos (decide_eq_true e)]
        · rw [if_neg e, if_neg (by rw [decide_eq_false e]; decide)]
      · rw [decide_eq_true_iff] at h1 h2
        exact rkc_inj ht hu (by rw [h1, h2])
    · refine gsum_zero n (fun t ht => ?_)
      rw [if_neg (fun e => hno ⟨t, ht, e⟩)]
  omega
/-- the task at a rank -/
theorem rank_at (W : PW P) {k : Nat} (hk : k < pn P) : ∃ t, t < pn P ∧ rkc A B (pn P) t = k ∧ gfs (rkq P A B (nI k)) (pn P) 0 = t := by
  have hn := W.1
  obtain ⟨t, ht, e⟩ := rank_ex (A := A) (B := B) hk
  refine ⟨t, ht, e, ?_⟩
  have hq : rkq P A B (nI k) t = true := by
    unfold rkq
    rw [e]
    exact decide_eq_true rfl
  rcases gfs_spec (rkq P A B (nI k)) (pn P) 0 with ⟨h1, h2⟩ | ⟨h1, h2, h3⟩
  · rw [h2 t (Nat.zero_le _) (by omega)] at hq
    cases hq
  · exact rkq_inj W _ _ (by omega) ht h3 hq
end RK
