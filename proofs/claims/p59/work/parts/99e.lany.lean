/-! ANY DEED that the law picks -/
section AY
variable {P : qP} {hs : List qP} {σ : qS} {LL : Nat} {xs : Nat → Int32}
theorem e_pk (hL : LL < 2 ^ 31) (xs : Nat → Int32) {i c m : Nat} (hi : i + c < 2 ^ 31) (hm0 : 0 < m) (hm : m < 2 ^ 31) : ∃ r, r < m ∧ ∀ σ, f_L_pick LL xs (nI i + nI c) (nI m) σ = qan (nI r) σ := by
  rw [nI_add]
  exact e_pick hL xs hi hm0 hm
theorem qsw_all {Q : Option qO → Prop} {x : Int32} {od : Option qO} (hd : Q od) : ∀ (l : List (Option qO)) (k : Int), (∀ o ∈ l, Q o) → Q (qsw x k l od)
  | [], _, _ => hd
  | o :: l, k, h => by
    unfold qsw
    split
    · exact h o List.mem_cons_self
    · exact qsw_all hd l (k + 1) (fun o ho => h o (List.mem_cons_of_mem _ ho))
theorem Ch.id {e : Option qO} (h : Ch e σ) : Ch (qbind e (qvI (fun r s => (some (.inl (some (qI r)), s)))) qE0) σ := by
  obtain ⟨r, P', hs', σ', h1, h2⟩ := h
  refine ⟨r, P', hs', σ', ?_, h2⟩
  rw [h1, qb_I]
theorem y_deed (C : Cl σ P hs) (k : Nat) (hk : k < 8) {a b c d : Int32} : Ch (qbind (f_L_deed (nI k) a b c d σ) (qvI (fun r s => (some (.inl (some (qI r)), s)))) qE0) σ := (d_deed C.1 C.2 hk a b c d).id
theorem y_112 (hL : LL < 2 ^ 31) (C : Cl σ P hs) {i : Nat} (hi : i < 1000000) : Ch (j_L_any_112 LL xs (nI i) σ) σ := by
  obtain ⟨r1, -, e1⟩ := e_pk hL xs (i := i) (c := 2) (m := 9) (by omega) (by decide) (by decide)
  obtain ⟨r2, -, e2⟩ := e_pk hL xs (i := i) (c := 3) (m := 3) (by omega) (by decide) (by decide)
  obtain ⟨r3, -, e3⟩ := e_pk hL xs (i := i) (c := 4) (m := 5) (by omega) (by decide) (by decide)
  obtain ⟨r4, -, e4⟩ := e_pk hL xs (i := i) (c := 5) (m := 31) (by omega) (by decide) (by decide)
  have e1 : ∀ σ, f_L_pick LL xs (nI i + (2 : Int32)) (9 : Int32) σ = qan (nI r1) σ := e1
  have e2 : ∀ σ, f_L_pick LL xs (nI i + (3 : Int32)) (3 : Int32) σ = qan (nI r2) σ := e2
  have e3 : ∀ σ, f_L_pick LL xs (nI i + (4 : Int32)) (5 : Int32) σ = qan (nI r3) σ := e3
  have e4 : ∀ σ, f_L_pick LL xs (nI i + (5 : Int32)) (31 : Int32) σ = qan (nI r4) σ := e4
  unfold j_L_any_112
  rw [e1, qb_I, e2, qb_I, e3, qb_I, e4, qb_I]
  exact y_deed C 0 (by decide)
theorem y_167 (hL : LL < 2 ^ 31) (C : Cl σ P hs) {i m : Nat} (hi : i < 1000000) (hm0 : 0 < m) (hm : m < 2 ^ 31) {v4 : Int32} : Ch (j_L_any_167 LL xs (nI i) (nI m) v4 σ) σ := by
  obtain ⟨r1, -, e1⟩ := e_pk hL xs (i := i) (c := 2) (m := m) (by omega) hm0 hm
  have e1 : ∀ σ, f_L_pick LL xs (nI i + (2 : Int32)) (nI m) σ = qan (nI r1) σ := e1
  unfold j_L_any_167
  rw [e1, qb_I]
  exact y_deed C 2 (by decide)
theorem y_203 (hL : LL < 2 ^ 31) (C : Cl σ P hs) {i : Nat} (hi : i < 1000000) {v4 : Int32} : Ch (j_L_any_203 LL xs (nI i) v4 σ) σ := by
  obtain ⟨r1, -, e1⟩ := e_pk hL xs (i := i) (c := 2) (m := 9) (by omega) (by decide) (by decide)
  have e1 : ∀ σ, f_L_pick LL xs (nI i + (2 : Int32)) (9 : Int32) σ = qan (nI r1) σ := e1
  unfold j_L_any_203
  rw [e1, qb_I]
  exact y_deed C 4 (by decide)
theorem y_224 (hL : LL < 2 ^ 31) (C : Cl σ P hs) {i : Nat} (hi : i < 1000000) {v4 : Int32} : Ch (j_L_any_224 LL xs (nI i) v4 σ) σ := by
  obtain ⟨r1, -, e1⟩ := e_pk hL xs (i := i) (c := 2) (m := 31) (by omega) (by decide) (by decide)
  have e1 : ∀ σ, f_L_pick LL xs (nI i + (2 : Int32)) (31 : Int32) σ = qan (nI r1) σ := e1
  unfold j_L_any_224
  rw [e1, qb_I]
  exact y_deed C 5 (by decide)
theorem y_243 (hL : LL < 2 ^ 31) (C : Cl σ P hs) {i : Nat} (hi : i < 1000000) : Ch (j_L_any_243 LL xs (nI i) σ) σ := by
  obtain ⟨r1, -, e1⟩ := e_pk hL xs (i := i) (c := 2) (m := 3) (by omega) (by decide) (by decide)
  obtain ⟨r2, -, e2⟩ := e_pk hL xs (i := i) (c := 3) (m := 16) (by omega) (by decide) (by decide)
  have e1 : ∀ σ, f_L_pick LL xs (nI i + (2 : Int32)) (3 : Int32) σ = qan (nI r1) σ := e1
  have e2 : ∀ σ, f_L_pick LL xs (nI i + (3 : Int32)) (16 : Int32) σ = qan (nI r2) σ := e2
  unfold j_L_any_243
  rw [e1, qb_I, e2, qb_I]
  exact y_deed C 6 (by decide)
theorem qmax1 {n : Nat} (hn : n < 2 ^ 31) : qmax (1 : Int32) (nI n) = nI (max 1 n) := by
  apply i_eq
  rw [i_max, nI_toInt hn, nI_toInt (by omega), show (1 : Int32).toInt = 1 from rfl]
  omega
theorem l_any (hL : LL < 2 ^ 31) (C : Cl σ P hs) {i : Nat} (hi : i < 1000000) : Ch (f_L_any LL xs (nI i) σ) σ := by
  have hn := C.1.1.1
  obtain ⟨r1, -, e1⟩ := e_pk hL xs (i := i) (c := 1) (m := max 1 (pn P)) (by omega) (by omega) (by omega)
  obtain ⟨r2, -, e2⟩ := e_pick hL xs (i := i) (m := 20) (by omega) (by decide) (by decide)
  obtain ⟨r3, -, e3⟩ := e_pk hL xs (i := i) (c := 2) (m := max 1 (pn P)) (by omega) (by omega) (by omega)
  have e1 : ∀ σ, f_L_pick LL xs (nI i + (1 : Int32)) (nI (max 1 (pn P))) σ = qan (nI r1) σ := e1
  have e2 : ∀ σ, f_L_pick LL xs (nI i) (20 : Int32) σ = qan (nI r2) σ := e2
  have e3 : ∀ σ, f_L_pick LL xs (nI i + (2 : Int32)) (nI (max 1 (pn P))) σ = qan (nI r3) σ := e3
  unfold f_L_any
  rw [m_count C.1, qb_I, qmax1 (by omega), e1, qb_I, e2, qb_I, e3, qb_I]
  have a := y_112 (xs := xs) hL C hi
  have b : Ch (j_L_any_167 LL xs (nI i) (nI (max 1 (pn P))) (nI r1) σ) σ := y_167 hL C hi (by omega) (by omega)
  have c : Ch (j_L_any_203 LL xs (nI i) (nI r1) σ) σ := y_203 hL C hi
  have d : Ch (j_L_any_224 LL xs (nI i) (nI r1) σ) σ := y_224 hL C hi
  have e := y_243 (xs := xs) hL C hi
  refine qsw_all (Q := fun o => Ch o σ) (y_deed C 7 (by decide)) _ 0 ?_
  simp only [List.forall_mem_cons, List.not_mem_nil, false_implies, implies_true, and_true]
  exact ⟨a, a, a, y_deed C 1 (by decide), b, b, b, b, b, b, y_deed C 3 (by decide), c, c, d, d, d, e, e⟩
end AY
