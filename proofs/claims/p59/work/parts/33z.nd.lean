/-! two names that differ, told by their numbers -/
theorem qnd_ck {a b k j : Nat} {t : List (Nat × Nat)} (h : Nat.beq a k = false) (h2 : qnd a b t) : qnd a b ((k, j) :: t) := qnd_c (fun e => by rw [e.1, Nat.beq_refl] at h; cases h) h2
theorem qnd_cj {a b k j : Nat} {t : List (Nat × Nat)} (h : Nat.beq b j = false) (h2 : qnd a b t) : qnd a b ((k, j) :: t) := qnd_c (fun e => by rw [e.2, Nat.beq_refl] at h; cases h) h2
