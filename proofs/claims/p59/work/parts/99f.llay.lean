/-! THE FIRST DEEDS -/
section LY
variable {LL : Nat} {xs : Nat → Int32}
def Dn (e : Option qO) (σ : qS) : Prop := ∃ (P' : qP) (hs' : List qP) (σ' : qS), e = qdo σ' ∧ Cl σ' P' hs' ∧ Wk σ σ'
theorem Dn.wk {e : Option qO} {σ σ1 : qS} (h : Dn e σ1) (k : Wk σ σ1) : Dn e σ := by
  obtain ⟨P', hs', σ', h1, h2, h3⟩ := h
  exact ⟨P', hs', σ', h1, h2, k.trans h3⟩
theorem y_ch {P : qP} {hs : List qP} {σ : qS} (C : Cl σ P hs) (k : Nat) (hk : k < 8) (a b c d : Int32) : ∃ (r : Int32) (P' : qP) (hs' : List qP) (σ' : qS), f_L_deed (nI k) a b c d σ = qan r σ' ∧ Cl σ' P' hs' ∧ Wk σ σ' := by
  obtain ⟨r, P', hs', σ', h1, h2, h3, h4⟩ := d_deed C.1 C.2 hk a b c d
  exact ⟨r, P', hs', σ', h1, ⟨h2, h3⟩, h4⟩
theorem y_145 (hL : LL < 2 ^ 31) : ∀ (d i m : Nat) (v2 : Int32) (σ : qS) (P : qP) (hs : List qP), i + d = 3 → d < m → Cl σ P hs → Dn (l_L_lay_145 LL xs m v2 (nI i) σ) σ := by
  intro d
  induction d with
  | zero =>
    intro i m v2 σ P hs hi hm C
    obtain ⟨m, rfl⟩ : ∃ m', m = m' + 1 := ⟨m - 1, by omega⟩
    obtain ⟨r, -, e⟩ := e_pick hL xs (i := 5) (m := 2) (by decide) (by decide) (by decide)
    have e : ∀ σ, f_L_pick LL xs (5 : Int32) (2 : Int32) σ = qan (nI r) σ := e
    obtain ⟨r2, P', hs', σ', h1, h2, h3⟩ := y_ch C 7 (by decide) 0 0 0 0
    have h1 : f_L_deed (7 : Int32) 0 0 0 0 σ = qan r2 σ' := h1
    simp only [l_L_lay_145, b_L_lay_145]
    rw [if_pos (show (3 : Int32) ≤ nI i from nI_le (a := 3) (by omega) (by omega)), e, qb_I]
    by_cases h : nI r = 0
    · rw [if_pos h, h1, qb_I]
      exact ⟨P', hs', σ', rfl, h2, h3⟩
    · rw [if_neg h]
      exact ⟨P, hs, σ, rfl, C, Wk.refl σ⟩
  | succ d ih =>
    intro i m v2 σ P hs hi hm C
    obtain ⟨m, rfl⟩ : ∃ m', m = m' + 1 := ⟨m - 1, by omega⟩
    obtain ⟨r, -, e⟩ := e_pk hL xs (i := 2) (c := i) (m := 7) (by omega) (by decide) (by decide)
    have e : ∀ σ, f_L_pick LL xs ((2 : Int32) + nI i) (7 : Int32) σ = qan (nI r) σ := e
    obtain ⟨r2, P', hs', σ', h1, h2, h3⟩ := y_ch C 6 (by decide) (nI i) ((5 : Int32) + nI r) 0 0
    have h1 : f_L_deed (6 : Int32) (nI i) ((5 : Int32) + nI r) 0 0 σ = qan r2 σ' := h1
    simp only [l_L_lay_145, b_L_lay_145]
    rw [if_neg (show ¬ (3 : Int32) ≤ nI i from nI_ge (b := 3) (by omega) (by decide)), e, qb_I, h1, qb_I, nI_1]
    exact (ih (i + 1) m _ σ' P' hs' (by omega) (by omega) h2).wk h3
theorem y_93 (hL : LL < 2 ^ 31) {mx r : Nat} (hx : 0 < mx) (hx2 : mx < 2 ^ 31) (hr : r < 12) (er : ∀ σ, f_L_pick LL xs (1 : Int32) (12 : Int32) σ = qan (nI r) σ) : ∀ (d i m : Nat) (v2 : Int32) (σ : qS) (P : qP) (hs : List qP), r ≤ i + d → i < 1000 → d < m → Cl σ P hs → Dn (l_L_lay_93 LL xs m v2 (nI mx) (nI i) σ) σ := by
  intro d
  induction d with
  | zero =>
    intro i m v2 σ P hs hi hi2 hm C
    obtain ⟨m, rfl⟩ : ∃ m', m = m' + 1 := ⟨m - 1, by omega⟩
    simp only [l_L_lay_93, b_L_lay_93]
    rw [er, qb_I, if_pos (nI_le (by omega) (by omega))]
    exact y_145 hL 3 0 4 v2 σ P hs rfl (by decide) C
  | succ d ih =>
    intro i m v2 σ P hs hi hi2 hm C
    obtain ⟨m, rfl⟩ : ∃ m', m = m' + 1 := ⟨m - 1, by omega⟩
    simp only [l_L_lay_93, b_L_lay_93]
    rw [er, qb_I]
    by_cases h : r ≤ i
    · rw [if_pos (nI_le h (by omega))]
      exact y_145 hL 3 0 4 v2 σ P hs rfl (by decide) C
    · obtain ⟨r1, -, e1⟩ := e_pk hL xs (i := 111) (c := i) (m := mx) (by omega) hx hx2
      obtain ⟨r2, -, e2⟩ := e_pk hL xs (i := 131) (c := i) (m := mx) (by omega) hx hx2
      have e1 : ∀ σ, f_L_pick LL xs ((111 : Int32) + nI i) (nI mx) σ = qan (nI r1) σ := e1
      have e2 : ∀ σ, f_L_pick LL xs ((131 : Int32) + nI i) (nI mx) σ = qan (nI r2) σ := e2
      obtain ⟨r3, P', hs', σ', h1, h2, h3⟩ := y_ch C 2 (by decide) (nI r1) (nI r2) 0 0
      have h1 : f_L_deed (2 : Int32) (nI r1) (nI r2) 0 0 σ = qan r3 σ' := h1
      rw [if_neg (nI_ge (by omega) (by omega)), e1, qb_I, e2, qb_I, h1, qb_I, nI_1]
      exact (ih (i + 1) m _ σ' P' hs' (by omega) (by omega) (by omega) h2).wk h3
theorem y_4 (hL : LL < 2 ^ 31) {r : Nat} (hr : r < 14) (er : ∀ σ, f_L_pick LL xs (0 : Int32) (14 : Int32) σ = qan (nI r) σ) : ∀ (d i m : Nat) (v2 : Int32) (σ : qS) (P : qP) (hs : List qP), r ≤ i + d → i < 1000 → d < m → Cl σ P hs → Dn (l_L_lay_4 LL xs m v2 (nI i) σ) σ := by
  have out : ∀ (v2 : Int32) (σ : qS) (P : qP) (hs : List qP), Cl σ P hs → Dn (qbind (f_X7_taskCount σ) (qvI (fun r2 s2 => l_L_lay_93 LL xs 12 v2 (qmax (1 : Int32) r2) (0 : Int32) s2)) qE0) σ := by
    intro v2 σ P hs C
    have hn := C.1.1.1
    obtain ⟨r1, h1, e1⟩ := e_pick hL xs (i := 1) (m := 12) (by decide) (by decide) (by decide)
    have e1 : ∀ σ, f_L_pick LL xs (1 : Int32) (12 : Int32) σ = qan (nI r1) σ := e1
    rw [m_count C.1, qb_I, qmax1 (by omega)]
    exact y_93 hL (by omega) (by omega) h1 e1 11 0 12 v2 σ P hs (by omega) (by decide) (by decide) C
  intro d
  induction d with
  | zero =>
    intro i m v2 σ P hs hi hi2 hm C
    obtain ⟨m, rfl⟩ : ∃ m', m = m' + 1 := ⟨m - 1, by omega⟩
    simp only [l_L_lay_4, b_L_lay_4]
    rw [er, qb_I, if_pos (nI_le (by omega) (by omega))]
    exact out v2 σ P hs C
  | succ d ih =>
    intro i m v2 σ P hs hi hi2 hm C
    obtain ⟨m, rfl⟩ : ∃ m', m = m' + 1 := ⟨m - 1, by omega⟩
    simp only [l_L_lay_4, b_L_lay_4]
    rw [er, qb_I]
    by_cases h : r ≤ i
    · rw [if_pos (nI_le h (by omega))]
      exact out v2 σ P hs C
    · obtain ⟨r1, -, e1⟩ := e_pk hL xs (i := 11) (c := i) (m := 9) (by omega) (by decide) (by decide)
      obtain ⟨r2, -, e2⟩ := e_pk hL xs (i := 31) (c := i) (m := 3) (by omega) (by decide) (by decide)
      obtain ⟨r3, -, e3⟩ := e_pk hL xs (i := 51) (c := i) (m := 5) (by omega) (by decide) (by decide)
      obtain ⟨r4, -, e4⟩ := e_pk hL xs (i := 71) (c := i) (m := 2) (by omega) (by decide) (by decide)
      obtain ⟨r5, -, e5⟩ := e_pk hL xs (i := 91) (c := i) (m := 20) (by omega) (by decide) (by decide)
      have e1 : ∀ σ, f_L_pick LL xs ((11 : Int32) + nI i) (9 : Int32) σ = qan (nI r1) σ := e1
      have e2 : ∀ σ, f_L_pick LL xs ((31 : Int32) + nI i) (3 : Int32) σ = qan (nI r2) σ := e2
      have e3 : ∀ σ, f_L_pick LL xs ((51 : Int32) + nI i) (5 : Int32) σ = qan (nI r3) σ := e3
      have e4 : ∀ σ, f_L_pick LL xs ((71 : Int32) + nI i) (2 : Int32) σ = qan (nI r4) σ := e4
      have e5 : ∀ σ, f_L_pick LL xs ((91 : Int32) + nI i) (20 : Int32) σ = qan (nI r5) σ := e5
      obtain ⟨r6, P', hs', σ', h1, h2, h3⟩ := y_ch C 0 (by decide) ((1 : Int32) + nI r1) (nI r2) ((1 : Int32) + nI r3) (nI r4 * nI r5)
      have h1 : f_L_deed (0 : Int32) ((1 : Int32) + nI r1) (nI r2) ((1 : Int32) + nI r3) (nI r4 * nI r5) σ = qan r6 σ' := h1
      rw [if_neg (nI_ge (by omega) (by omega)), e1, qb_I, e2, qb_I, e3, qb_I, e4, qb_I, e5, qb_I, h1, qb_I, nI_1]
      exact (ih (i + 1) m _ σ' P' hs' (by omega) (by omega) (by omega) h2).wk h3
theorem l_lay (hL : LL < 2 ^ 31) {P : qP} {hs : List qP} {σ : qS} (C : Cl σ P hs) : Dn (f_L_lay LL xs σ) σ := by
  obtain ⟨r, h, e⟩ := e_pick hL xs (i := 0) (m := 14) (by decide) (by decide) (by decide)
  have e : ∀ σ, f_L_pick LL xs (0 : Int32) (14 : Int32) σ = qan (nI r) σ := e
  exact y_4 hL h e 13 0 14 0 σ P hs (by omega) (by decide) (by decide) C
end LY
