/-! what a task depends on: the class's search, its closure, the reference's rounds -/
def gsub (S R : Int32) : Prop := ∀ u, qbit S u = true → qbit R u = true
def gun (S : Int32) (N : Nat) : Nat := gcnt (fun u => !qbit S u) N
theorem gun_mono {S R : Int32} (h : gsub S R) (N : Nat) : gun R N ≤ gun S N := gcnt_mono (fun i hi => by
  cases hs : qbit S i
  · rfl
  · rw [h i hs] at hi; cases hi) N
theorem qbit_put {S : Int32} {i u : Nat} (hi : i < 32) : qbit (S ||| ((1 : Int32) <<< (nI i &&& 31))) u = (qbit S u || decide (i = u)) := by
  rw [qbit_or, qbit_shl hi]
theorem gun_set {S : Int32} {i N : Nat} (hi : i < 32) (hN : i < N) (h : qbit S i = false) : gun (S ||| ((1 : Int32) <<< (nI i &&& 31))) N < gun S N := by
  refine gcnt_lt (x := i) (fun u hu => ?_) ?_ ?_ N hN
  · rw [qbit_put hi] at hu
    cases hs : qbit S u
    · rfl
    · rw [hs] at hu; cases hu
  · rw [qbit_put hi]; simp
  · rw [h]; rfl
theorem gun_le (S : Int32) (N : Nat) : gun S N ≤ N := gcnt_le _ N
def SRes (P : qP) (t : Nat) (S R : Int32) : Prop := gsub S R ∧ (∀ u, qbit R u = true → qbit S u = true ∨ gr (ped P) t u) ∧ (∀ u, ped P t u = true → qbit R u = true) ∧ (∀ v, qbit R v = true → qbit S v = false → ∀ u, ped P v u = true → qbit R u = true) ∧ ∀ u, qbit R u = true → u < pn P
def SInv (P : qP) (t : Nat) (S : Int32) (i : Nat) (R : Int32) : Prop := gsub S R ∧ (∀ u, qbit R u = true → qbit S u = true ∨ gr (ped P) t u) ∧ (∀ u, u < i → ped P t u = true → qbit R u = true) ∧ (∀ v, qbit R v = true → qbit S v = false → ∀ u, ped P v u = true → qbit R u = true) ∧ ∀ u, qbit R u = true → u < pn P
section SE
variable {σ : qS} {j : Nat} {P : qP}
theorem PW.ed_lt (W : PW P) {t u : Nat} (ht : t < pn P) (e : ped P t u = true) : u < pn P := (W.2.1 t ht).2.2.2.2.1 u e
theorem c_search_loop (H : Rep σ j P) (W : PW P) {t d : Nat} (ht : t < pn P) {S : Int32} (hun : gun S (pn P) + d ≤ 12) {rf : Nat → Nat → Int32 → Int32 → Int32 → qS → Option qO}
    (hrf : ∀ (i : Nat) (S' : Int32), i < pn P → (∀ u, qbit S' u = true → u < pn P) → gun S' (pn P) + (d + 1) ≤ 12 → ∃ R, rf 6 j (nI i) S' (nI (d + 1)) σ = qan R σ ∧ SRes P i S' R) :
    ∀ (k i m : Nat) (S' : Int32), i + k = 12 → k < m → SInv P t S i S' → ∃ R, l_X5_search_22 rf 6 j m (nI d) S' (pf P 4 t) (nI i) σ = qan R σ ∧ SInv P t S 12 R := by
  intro k
  induction k with
  | zero =>
    intro i m S' hi hm hI
    obtain ⟨m, rfl⟩ : ∃ m', m = m' + 1 := ⟨m - 1, by omega⟩
    have hi : i = 12 := by omega
    subst hi
    refine ⟨S', ?_, hI⟩
    simp only [l_X5_search_22, b_X5_search_22]
    rw [if_pos (by decide)]
  | succ k ih =>
    intro i m S' hi hm hI
    obtain ⟨m, rfl⟩ : ∃ m', m = m' + 1 := ⟨m - 1, by omega⟩
    have hi32 : i < 32 := by omega
    have hni : ¬ (12 : Int32) ≤ nI i := by rw [show (12 : Int32) = nI 12 from rfl, n_le (by decide) (by omega)]; omega
    simp only [l_X5_search_22, b_X5_search_22]
    rw [if_neg hni, e_hasBit hi32, qb_I]
    have next : ∀ S2 : Int32, SInv P t S (i + 1) S2 → ∃ R, l_X5_search_22 rf 6 j m (nI d) S2 (pf P 4 t) (nI i + 1) σ = qan R σ ∧ SInv P t S 12 R := by
      intro S2 h2
      rw [nI_1]
      exact ih (i + 1) m S2 (by omega) (by omega) h2
    by_cases he : ped P t i = true
    · rw [show qbit (pf P 4 t) i = true from he, if_neg (by decide), e_hasBit hi32, qb_I]
      have hin := W.ed_lt ht he
      by_cases hs : qbit S' i = true
      · rw [hs, if_neg (by decide)]
        refine next S' ⟨hI.1, hI.2.1, fun u hu e => ?_, hI.2.2.2⟩
        by_cases hui : u = i
        · rw [hui]; exact hs
        · exact hI.2.2.1 u (by omega) e
      · have hs : qbit S' i = false := by simpa using hs
        rw [hs, if_pos (by rfl), nI_1]
        have hb : ∀ u, qbit (S' ||| ((1 : Int32) <<< (nI i &&& 31))) u = true → u < pn P := by
          intro u hu
          rw [qbit_put hi32] at hu
          simp only [Bool.or_eq_true, decide_eq_true_eq] at hu
          rcases hu with hu | hu
          · exact hI.2.2.2.2 u hu
          · omega
        have h1 := gun_set hi32 hin hs
        have h2 := gun_mono hI.1 (pn P)
        obtain ⟨R, e1, r1, r2, r3, r4, r5⟩ := hrf i (S' ||| ((1 : Int32) <<< (nI i &&& 31))) hin hb (by omega)
        rw [e1, qb_I]
        have hsR : ∀ u, qbit S' u = true → qbit R u = true := fun u hu => r1 u (by rw [qbit_put hi32, hu]; rfl)
        have hiR : qbit R i = true := r1 i (by rw [qbit_put hi32]; simp)
        refine next R ⟨fun u hu => hsR u (hI.1 u hu), fun u hu => ?_, fun u hu e => ?_, fun v hv hS u e => ?_, r5⟩
        · rcases r2 u hu with h3 | h3
          · rw [qbit_put hi32] at h3
            simp only [Bool.or_eq_true, decide_eq_true_eq] at h3
            rcases h3 with h3 | h3
            · exact hI.2.1 u h3
            · subst h3; exact Or.inr (gr_one he)
          · exact Or.inr (gr_cons he h3)
        · by_cases hui : u = i
          · rw [hui]; exact hiR
          · exact hsR u (hI.2.2.1 u (by omega) e)
        · by_cases hvS : qbit S' v = true
          · exact hsR u (hI.2.2.2.1 v hvS hS u e)
          · by_cases hvi : v = i
            · subst hvi; exact r3 u e
            · exact r4 v hv (by rw [qbit_put hi32]; simp only [Bool.or_eq_false_iff, decide_eq_false_iff_not]; exact ⟨by simpa using hvS, fun h => hvi h.symm⟩) u e
    · have he : ped P t i = false := by simpa using he
      rw [show qbit (pf P 4 t) i = false from he, if_pos (by rfl)]
      refine next S' ⟨hI.1, hI.2.1, fun u hu e => ?_, hI.2.2.2⟩
      by_cases hui : u = i
      · subst hui; rw [he] at e; cases e
      · exact hI.2.2.1 u (by omega) e
theorem c_search_n (H : Rep σ j P) (W : PW P) : ∀ (m d t : Nat) (S : Int32), m + d = 16 → t < pn P → (∀ u, qbit S u = true → u < pn P) → gun S (pn P) + d ≤ 12 → ∃ R, fn_X5_search m 6 j (nI t) S (nI d) σ = qan R σ ∧ SRes P t S R := by
  intro m
  induction m with
  | zero => intro d t S h1 h2 h3 h4; omega
  | succ m ih =>
    intro d t S h1 ht hS hun
    have hn := W.1
    simp only [fn_X5_search, fb_X5_search]
    rw [if_pos (by rw [show (12 : Int32) = nI 12 from rfl, n_le (by omega) (by decide)]; omega), c_need H W ht, qb_I]
    obtain ⟨R, e1, hI⟩ := c_search_loop H W ht hun (rf := fn_X5_search m) (fun i S' hi hb hu => ih (d + 1) i S' (by omega) hi hb hu) 12 0 qFU S (by omega) (by decide) ⟨fun _ h => h, fun u h => Or.inl h, fun u hu => by omega, fun v h1 h2 => absurd (h1.symm.trans h2) (by decide), hS⟩
    refine ⟨R, e1, hI.1, hI.2.1, fun u e => hI.2.2.1 u ?_ e, hI.2.2.2⟩
    have := W.ed_lt ht e
    omega
/-- the class's own search: it finds what is reached -/
theorem c_search (H : Rep σ j P) (W : PW P) {t : Nat} (ht : t < pn P) : ∃ R, f_X5_search 6 j (nI t) 0 0 σ = qan R σ ∧ ∀ u, qbit R u = true ↔ gr (ped P) t u := by
  obtain ⟨R, e1, r1, r2, r3, r4, r5⟩ := c_search_n H W 16 0 t 0 rfl ht (fun u h => by rw [qbit_0] at h; cases h) (by have := gun_le 0 (pn P); have := W.1; omega)
  refine ⟨R, e1, fun u => ⟨fun h => ?_, fun h => ?_⟩⟩
  · rcases r2 u h with h | h
    · rw [qbit_0] at h; cases h
    · exact h
  · obtain ⟨k, g⟩ := h
    have key : ∀ k t', (∀ u, ped P t' u = true → qbit R u = true) → gw (ped P) k t' u → qbit R u = true := by
      intro k
      induction k with
      | zero => intro t' h1 g; exact h1 u g
      | succ k ih =>
        intro t' h1 g
        obtain ⟨w, e, g⟩ := g
        exact ih w (fun u' e' => r4 w (h1 w e) (qbit_0 w) u' e') g
    exact key k t r3 g
noncomputable def prea (P : qP) (t u : Nat) : Bool := @decide (gr (ped P) t u) (Classical.propDecidable _)
theorem prea_iff {t u : Nat} : prea P t u = true ↔ gr (ped P) t u := by
  unfold prea
  exact @decide_eq_true_iff _ (Classical.propDecidable _)
theorem prea_of {R : Int32} {t u : Nat} (h : ∀ u, qbit R u = true ↔ gr (ped P) t u) : qbit R u = prea P t u := by
  cases hr : qbit R u
  · cases hp : prea P t u
    · rfl
    · rw [(h u).mpr (prea_iff.mp hp)] at hr; cases hr
  · rw [prea_iff.mpr ((h u).mp hr)]
theorem c_reaches (H : Rep σ j P) (W : PW P) {t u : Nat} (ht : t < pn P) (hu : u < 32) : f_X5_reaches j (nI t) (nI u) σ = qan (qb1 (prea P t u)) σ := by
  obtain ⟨R, e1, e2⟩ := c_search H W ht
  unfold f_X5_reaches
  rw [e1, qb_I, e_hasBit hu, qb_I, if_pos (qb1_bo _), prea_of e2]
end SE

