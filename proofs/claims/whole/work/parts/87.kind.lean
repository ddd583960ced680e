/-! the reference's words, its commands -/
def sof : Nat → Nat
  | 0 => 0 | 1 => 5 | 2 => 10 | 3 => 15 | 4 => 22 | 5 => 28 | 6 => 35 | 7 => 41 | _ => 45
theorem e_startOf (w : Nat) (hw : w < 9) (s : qS) : f_X8_startOf (nI w) s = qan (nI (sof w)) s := by
  rcases (show w = 0 ∨ w = 1 ∨ w = 2 ∨ w = 3 ∨ w = 4 ∨ w = 5 ∨ w = 6 ∨ w = 7 ∨ w = 8 by omega) with rfl | rfl | rfl | rfl | rfl | rfl | rfl | rfl | rfl <;> rfl
theorem sof_len : ∀ w : Fin 8, sof (w + 1) = sof w + (nmk w).length := by decide
theorem sof_45 : ∀ w : Fin 8, sof w + (nmk w).length ≤ 45 := by decide
theorem nmk_chr : ∀ w : Fin 8, ∀ i : Fin 7, (i : Nat) < (nmk w).length → qsc 8 (sof w + i) = nI ((nmk w).getD i 0) := by decide
theorem nmk_small : ∀ w : Fin 8, ∀ x ∈ nmk w, x < 127 := by decide
theorem nmk_len7 : ∀ w : Fin 8, (nmk w).length ≤ 7 := by decide
section RK
variable {T : qTx} {σ : qS}
theorem r_word_loop (h : RTx T σ) {p : Nat} (h19 : σ 26 0 19 = nI p) (hp : p ≤ T.1) {w : Nat} (hw : w < 8) {rk : Int32 → Int32 → Int32 → qS → Option qO} (v1 v2 : Int32) : ∀ (xs : List Nat) (i m : Nat), (nmk w).drop i = xs → i ≤ (nmk w).length → xs.length < m → l_X8_kindHere_36 rk m v1 v2 (nI w) (nI (nmk w).length) (nI i) σ = j_X8_kindHere_90 rk v1 v2 (nI w) (nI (nmk w).length) (nI ((tss T (true, p + i) xs).2 - p)) σ ∧ p ≤ (tss T (true, p + i) xs).2 ∧ (tss T (true, p + i) xs).2 ≤ p + (nmk w).length ∧ ((tss T (true, p + i) xs).1 = true ↔ (tss T (true, p + i) xs).2 = p + (nmk w).length)
  | [], i, m, hd, hi, hm => by
    obtain ⟨m, rfl⟩ : ∃ m', m = m' + 1 := ⟨m - 1, by simp only [List.length_nil] at hm; omega⟩
    have hlen : (nmk w).length ≤ i := List.drop_eq_nil_iff.mp hd
    have h7 := nmk_len7 ⟨w, hw⟩
    dsimp only at h7
    have e : (tss T (true, p + i) []) = (true, p + i) := rfl
    rw [e]
    refine ⟨?_, by dsimp only; omega, by dsimp only; omega, ⟨fun _ => by dsimp only; omega, fun _ => rfl⟩⟩
    show b_X8_kindHere_36 rk _ v1 v2 (nI w) _ (nI i) σ = _
    unfold b_X8_kindHere_36
    rw [if_pos (nI_le hlen (by omega))]
    dsimp only
    rw [Nat.add_sub_cancel_left]
  | x :: xs, i, m, hd, hi0, hm => by
    obtain ⟨m, rfl⟩ : ∃ m', m = m' + 1 := ⟨m - 1, by simp only [List.length_cons] at hm; omega⟩
    obtain ⟨hi, hx, hd2, hmem⟩ := drop_cons hd
    have h7 := nmk_len7 ⟨w, hw⟩
    have h45 := sof_45 ⟨w, hw⟩
    have hlit := nmk_lit ⟨w, hw⟩ x hmem
    have hsm := nmk_small ⟨w, hw⟩ x hmem
    dsimp only at h7 h45
    have h60 := h.1
    have hch : qsc 8 (sof w + i) = nI x := by rw [← hx]; exact nmk_chr ⟨w, hw⟩ ⟨i, by omega⟩ hi
    have htsp : tsp T (true, p + i) x = if lt1 T x (p + i) = true then (true, p + i + 1) else (false, p + i) := by
      unfold tsp
      rw [if_neg (by simp), if_neg hlit.1, if_neg hlit.2]
    have hxs : tss T (true, p + i) (x :: xs) = tss T (tsp T (true, p + i) x) xs := rfl
    have hstop : tsp T (true, p + i) x = (false, p + i) → l_X8_kindHere_36 rk (m + 1) v1 v2 (nI w) (nI (nmk w).length) (nI i) σ = j_X8_kindHere_90 rk v1 v2 (nI w) (nI (nmk w).length) (nI i) σ → l_X8_kindHere_36 rk (m + 1) v1 v2 (nI w) (nI (nmk w).length) (nI i) σ = j_X8_kindHere_90 rk v1 v2 (nI w) (nI (nmk w).length) (nI ((tss T (true, p + i) (x :: xs)).2 - p)) σ ∧ p ≤ (tss T (true, p + i) (x :: xs)).2 ∧ (tss T (true, p + i) (x :: xs)).2 ≤ p + (nmk w).length ∧ ((tss T (true, p + i) (x :: xs)).1 = true ↔ (tss T (true, p + i) (x :: xs)).2 = p + (nmk w).length) := by
      intro e he
      rw [hxs, e, tss_no, he]
      refine ⟨?_, by dsimp only; omega, by dsimp only; omega, ⟨fun h => (by cases h), fun h => (by dsimp only at h; omega)⟩⟩
      dsimp only
      rw [Nat.add_sub_cancel_left]
    have hrun : ∀ o, l_X8_kindHere_36 rk (m + 1) v1 v2 (nI w) (nI (nmk w).length) (nI i) σ = o ↔ (if (nI T.1) ≤ nI (p + i) then j_X8_kindHere_90 rk v1 v2 (nI w) (nI (nmk w).length) (nI i) σ else (if qin (nI (p + i)) 60 then (if (σ 35 0 (nI (p + i)).toNatClampNeg) = nI x then l_X8_kindHere_36 rk m v1 v2 (nI w) (nI (nmk w).length) (nI (i + 1)) σ else j_X8_kindHere_90 rk v1 v2 (nI w) (nI (nmk w).length) (nI i) σ) else none)) = o := by
      intro o
      rw [show l_X8_kindHere_36 rk (m + 1) v1 v2 (nI w) (nI (nmk w).length) (nI i) σ = b_X8_kindHere_36 rk (l_X8_kindHere_36 rk m) v1 v2 (nI w) (nI (nmk w).length) (nI i) σ from rfl]
      unfold b_X8_kindHere_36
      rw [if_neg (nI_ge hi (by omega)), h.2.1, h19, nI_add, e_startOf w (by omega), qb_I, nI_add, e_charAt (j := 8) (show sof w + i < qsl 8 by show sof w + i < 45; omega) (by decide) hch (by omega), qb_I, nI_1]
    by_cases hlt : p + i < T.1
    · have h127 := (h.2.2 _ hlt).2
      by_cases hc : T.2 (p + i) = x
      · have hl : lt1 T x (p + i) = true := decide_eq_true ⟨hlt, hc⟩
        rw [if_pos hl] at htsp
        obtain ⟨g1, g2, g3, g4⟩ := r_word_loop h h19 hp hw (rk := rk) v1 v2 xs (i + 1) m hd2 (by omega) (by simp only [List.length_cons] at hm; omega)
        rw [hxs, htsp]
        rw [show p + (i + 1) = p + i + 1 by omega] at g1 g2 g3 g4
        refine ⟨(hrun _).mpr ?_, g2, g3, g4⟩
        rw [if_neg (nI_ge hlt (by omega)), if_pos (n_in (by omega) (by decide)), nI_clamp (by omega), (h.2.2 _ hlt).1, hc, if_pos rfl]
        exact g1
      · have hl : ¬ lt1 T x (p + i) = true := fun hh => hc (of_decide_eq_true hh).2
        rw [if_neg hl] at htsp
        refine hstop htsp ((hrun _).mpr ?_)
        rw [if_neg (nI_ge hlt (by omega)), if_pos (n_in (by omega) (by decide)), nI_clamp (by omega), (h.2.2 _ hlt).1, if_neg (by rw [n_eq (by omega) (by omega)]; exact hc)]
    · have hl : ¬ lt1 T x (p + i) = true := fun hh => hlt (of_decide_eq_true hh).1
      rw [if_neg hl] at htsp
      refine hstop htsp ((hrun _).mpr ?_)
      rw [if_pos (nI_le (by omega) (by omega))]
/-- which word stands here, how far any word goes -/
def kns (T : qTx) (p : Nat) : Nat → Nat → Nat → Nat × Nat
  | 0, _, f => (8, f)
  | d + 1, k, f => if (tss T (true, p) (nmk k)).1 = true then (k, max f (tss T (true, p) (nmk k)).2) else kns T p d (k + 1) (max f (tss T (true, p) (nmk k)).2)
theorem r_kind_loop (h : RTx T σ) {p : Nat} (h19 : σ 26 0 19 = nI p) (h20 : σ 26 0 20 = -1) (hp : p ≤ T.1) : ∀ (d k f m : Nat), d + k = 8 → d + 1 < m → f ≤ T.1 → ((kns T p d k f).1 = 8 ∧ (kns T p d k f).2 ≤ T.1 ∧ l_X8_kindHere_9 m (nI f) (-1) (nI k) σ = j_X8_kindHere_135 (-1) (nI (kns T p d k f).2) σ) ∨ ((kns T p d k f).1 < 8 ∧ tss T (true, p) (nmk (kns T p d k f).1) = (true, p + (nmk (kns T p d k f).1).length) ∧ l_X8_kindHere_9 m (nI f) (-1) (nI k) σ = j_X8_kindHere_135 (nI (kns T p d k f).1) (-1) σ)
  | 0, k, f, m, hd, hm, hf => by
    obtain ⟨m, rfl⟩ : ∃ m', m = m' + 1 := ⟨m - 1, by omega⟩
    obtain rfl : k = 8 := by omega
    refine Or.inl ⟨rfl, hf, ?_⟩
    show b_X8_kindHere_9 _ (nI f) (-1) (nI 8) σ = _
    unfold b_X8_kindHere_9
    rw [if_pos (by decide), if_pos rfl]
    rfl
  | d + 1, k, f, m, hd, hm, hf => by
    obtain ⟨m, rfl⟩ : ∃ m', m = m' + 1 := ⟨m - 1, by omega⟩
    have hk : k < 8 := by omega
    have h60 := h.1
    have hL := sof_len ⟨k, hk⟩
    have h7 := nmk_len7 ⟨k, hk⟩
    dsimp only at hL h7
    obtain ⟨g1, g2, g3, g4⟩ := r_word_loop h h19 hp hk (rk := l_X8_kindHere_9 m) (nI f) (-1) (nmk k) 0 qFU rfl (by omega) (Nat.lt_of_le_of_lt h7 (by decide))
    rw [Nat.add_zero] at g1 g2 g3 g4
    have hin := tss_in T (nmk k) (true, p) hp
    have hrun : l_X8_kindHere_9 (m + 1) (nI f) (-1) (nI k) σ = j_X8_kindHere_90 (l_X8_kindHere_9 m) (nI f) (-1) (nI k) (nI (nmk k).length) (nI ((tss T (true, p) (nmk k)).2 - p)) σ := by
      show b_X8_kindHere_9 (l_X8_kindHere_9 m) (nI f) (-1) (nI k) σ = _
      unfold b_X8_kindHere_9
      rw [if_neg (by rw [show (8 : Int32) = nI 8 from rfl, n_le (by omega) (by omega)]; omega), if_pos rfl, nI_1, e_startOf (k + 1) (by omega), qb_I, e_startOf k (by omega), qb_I, n_sub (by omega), show sof (k + 1) - sof k = (nmk k).length by omega]
      exact g1
    have hmx : qmax (nI f) (nI p + nI ((tss T (true, p) (nmk k)).2 - p)) = nI (max f (tss T (true, p) (nmk k)).2) := by
      rw [nI_add, show p + ((tss T (true, p) (nmk k)).2 - p) = (tss T (true, p) (nmk k)).2 by omega, n_max (by omega) (by omega)]
    by_cases hb : (tss T (true, p) (nmk k)).1 = true
    · have e : kns T p (d + 1) k f = (k, max f (tss T (true, p) (nmk k)).2) := by
        conv => lhs; unfold kns
        rw [if_pos hb]
      rw [e]
      refine Or.inr ⟨hk, Prod.ext hb (g4.mp hb), ?_⟩
      obtain ⟨m, rfl⟩ : ∃ m', m = m' + 1 := ⟨m - 1, by omega⟩
      rw [hrun]
      unfold j_X8_kindHere_90
      have := g4.mp hb
      rw [if_pos (by congr 1; omega), h19, hmx, nI_1]
      show b_X8_kindHere_9 _ _ (nI k) (nI (k + 1)) σ = _
      unfold b_X8_kindHere_9
      rw [if_neg (n_ne k (by omega)), if_neg (n_ne k (by omega)), h20]
      split <;> rfl
    · have e : kns T p (d + 1) k f = kns T p d (k + 1) (max f (tss T (true, p) (nmk k)).2) := by
        conv => lhs; unfold kns
        rw [if_neg hb]
      have hne : ¬ (tss T (true, p) (nmk k)).2 = p + (nmk k).length := fun hh => hb (g4.mpr hh)
      rw [e, hrun]
      have e2 : j_X8_kindHere_90 (l_X8_kindHere_9 m) (nI f) (-1) (nI k) (nI (nmk k).length) (nI ((tss T (true, p) (nmk k)).2 - p)) σ = l_X8_kindHere_9 m (nI (max f (tss T (true, p) (nmk k)).2)) (-1) (nI (k + 1)) σ := by
        unfold j_X8_kindHere_90
        rw [if_neg (by rw [n_eq (by omega) (by omega)]; omega), h19, hmx, nI_1]
      rw [e2]
      exact r_kind_loop h h19 h20 hp d (k + 1) _ m (by omega) (by omega) (Nat.max_le.mpr ⟨hf, hin⟩)
theorem r_kind (h : RTx T σ) {p : Nat} (h19 : σ 26 0 19 = nI p) (h20 : σ 26 0 20 = -1) (hp : p ≤ T.1) : ((kns T p 8 0 p).1 = 8 ∧ (kns T p 8 0 p).2 ≤ T.1 ∧ ∃ σ', f_X8_kindHere σ = qan (-1) σ' ∧ Qd σ σ' ∧ RSt (false, (kns T p 8 0 p).2) σ') ∨ ((kns T p 8 0 p).1 < 8 ∧ tss T (true, p) (nmk (kns T p 8 0 p).1) = (true, p + (nmk (kns T p 8 0 p).1).length) ∧ ∃ σ', f_X8_kindHere σ = qan (nI (kns T p 8 0 p).1) σ' ∧ Qd σ σ' ∧ RSt (true, p + (nmk (kns T p 8 0 p).1).length) σ') := by
  have hk0 : f_X8_kindHere σ = l_X8_kindHere_9 qFU (nI p) (-1) (nI 0) σ := by
    unfold f_X8_kindHere
    rw [h19]
    rfl
  rcases r_kind_loop h h19 h20 hp 8 0 p qFU (by decide) (by decide) hp with ⟨a1, a2, a3⟩ | ⟨a1, a2, a3⟩
  · refine Or.inl ⟨a1, a2, qu (qu σ 26 0 20 (nI (kns T p 8 0 p).2)) 26 0 19 (nI p + 0), ?_, (Qd.at20 _ _).trans (Qd.at19 _ _), ?_⟩
    · rw [hk0, a3]
      unfold j_X8_kindHere_135
      rw [qlet_eq, if_pos rfl, qu_at, if_neg (by simp), h19, qlet_eq]
    · show (qu (qu σ 26 0 20 (nI (kns T p 8 0 p).2)) 26 0 19 (nI p + 0)) 26 0 20 = nI (kns T p 8 0 p).2
      rw [qu_at, if_neg (by simp), qu_at, if_pos ⟨rfl, rfl, rfl⟩]
  · have hL := sof_len ⟨_, a1⟩
    dsimp only at hL
    refine Or.inr ⟨a1, a2, qu (qu σ 26 0 20 (-1)) 26 0 19 (nI (p + (nmk (kns T p 8 0 p).1).length)), ?_, (Qd.at20 _ _).trans (Qd.at19 _ _), ?_⟩
    · rw [hk0, a3]
      unfold j_X8_kindHere_135
      rw [qlet_eq, if_neg (n_ne _ (by omega)), nI_1, e_startOf _ (by omega), qb_I, e_startOf _ (by omega), qb_I, qu_at, if_neg (by simp), h19, n_sub (by omega), nI_add, qlet_eq, show sof ((kns T p 8 0 p).1 + 1) - sof (kns T p 8 0 p).1 = (nmk (kns T p 8 0 p).1).length by omega]
    · exact ⟨by rw [qu_at, if_neg (by simp), qu_at, if_pos ⟨rfl, rfl, rfl⟩], by rw [qu_at, if_pos ⟨rfl, rfl, rfl⟩]⟩
end RK
