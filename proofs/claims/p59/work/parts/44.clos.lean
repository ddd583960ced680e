/-! states that agree but for some kinds; rows copied, filled; the reference's rounds; the closure -/
theorem qu_at (σ : qS) (k j i : Nat) (v : Int32) (a b x : Nat) : qu σ k j i v a b x = if a = k ∧ b = j ∧ x = i then v else σ a b x := by
  unfold qu
  by_cases h : a = k ∧ b = j
  · rw [if_pos h]
    unfold upd
    by_cases hx : x = i
    · rw [if_pos hx, if_pos ⟨h.1, h.2, hx⟩]
    · rw [if_neg hx, if_neg (fun h2 => hx h2.2.2)]
  · rw [if_neg h, if_neg (fun h2 => h ⟨h2.1, h2.2.1⟩)]
def qsm (ks : List Nat) (σ σ' : qS) : Prop := ∀ a b, a ∉ ks → σ' a b = σ a b
theorem qsm.refl (ks : List Nat) (σ : qS) : qsm ks σ σ := fun _ _ _ => rfl
theorem qsm.trans {ks : List Nat} {σ σ' σ'' : qS} (h : qsm ks σ σ') (h2 : qsm ks σ' σ'') : qsm ks σ σ'' := fun a b ha => (h2 a b ha).trans (h a b ha)
theorem qsm.mono {ks ks' : List Nat} {σ σ' : qS} (h : qsm ks σ σ') (hk : ∀ k ∈ ks, k ∈ ks') : qsm ks' σ σ' := fun a b ha => h a b (fun h2 => ha (hk a h2))
theorem qsm_qu (σ : qS) (k j i : Nat) (v : Int32) : qsm [k] σ (qu σ k j i v) := fun a b ha => qu_other σ (fun h => ha (by rw [h.1]; exact List.mem_singleton.mpr rfl))
theorem qsm.qu {ks : List Nat} {σ σ' : qS} (h : qsm ks σ σ') {k j i : Nat} {v : Int32} (hk : k ∈ ks) : qsm ks σ (qu σ' k j i v) := h.trans ((qsm_qu σ' k j i v).mono (fun _ h2 => by rw [List.mem_singleton.mp h2]; exact hk))
theorem Rep.same {ks : List Nat} {σ σ' : qS} {j : Nat} {P : qP} (H : Rep σ j P) (h : qsm ks σ σ') (hk : ∀ k ∈ ks, k = 0 ∨ 8 < k) : Rep σ' j P := by
  have e : ∀ a, 1 ≤ a → a ≤ 8 → ∀ b, σ' a b = σ a b := fun a h1 h2 b => h a b (fun h3 => by have := hk a h3; omega)
  refine ⟨by rw [e 1 (by omega) (by omega)]; exact H.1, fun f t hf ht => by rw [e (2 + f) (by omega) (by omega)]; exact H.2.1 f t hf ht, fun r hr => by rw [e 8 (by omega) (by omega)]; exact H.2.2.1 r hr, by rw [e 1 (by omega) (by omega)]; exact H.2.2.2⟩
/-- a row copied -/
theorem e_copyRow_loop {k1 j1 k2 j2 L : Nat} (h1 : qlen k1 = L) (h2 : qlen k2 = L) (hL : L < 1000) (hne : ¬ (k1 = k2 ∧ j1 = j2)) : ∀ (d i m : Nat) (s : qS), i + d = L → d < m → ∃ s', l_X7_copyRow_2 k1 j1 k2 j2 m (nI i) s = qdo s' ∧ (∀ a b, ¬ (a = k2 ∧ b = j2) → s' a b = s a b) ∧ (∀ x, s' k2 j2 x = if i ≤ x ∧ x < L then s k1 j1 x else s k2 j2 x) := by
  intro d
  induction d with
  | zero =>
    intro i m s hi hm
    obtain ⟨m, rfl⟩ : ∃ m', m = m' + 1 := ⟨m - 1, by omega⟩
    refine ⟨s, ?_, fun _ _ _ => rfl, fun x => by rw [if_neg (by omega)]⟩
    simp only [l_X7_copyRow_2, b_X7_copyRow_2]
    rw [if_pos (by rw [h1]; exact nI_le (by omega) (by omega))]
  | succ d ih =>
    intro i m s hi hm
    obtain ⟨m, rfl⟩ : ∃ m', m = m' + 1 := ⟨m - 1, by omega⟩
    simp only [l_X7_copyRow_2, b_X7_copyRow_2]
    rw [if_neg (by rw [h1]; exact nI_ge (by omega) (by omega)), if_neg (by rw [h2]; exact nI_ge (by omega) (by omega)), if_pos (by rw [h1]; exact n_in (by omega) (by omega)), if_pos (by rw [h2]; exact n_in (by omega) (by omega)), qlet_eq, nI_1, nI_clamp (by omega)]
    obtain ⟨s', e1, e2, e3⟩ := ih (i + 1) m (qu s k2 j2 i (s k1 j1 i)) (by omega) (by omega)
    refine ⟨s', e1, fun a b hab => by rw [e2 a b hab, qu_other s hab], fun x => ?_⟩
    rw [e3 x, qu_other s hne, qu_at]
    by_cases hx : x = i
    · subst hx
      rw [if_neg (by omega), if_pos ⟨rfl, rfl, rfl⟩, if_pos (by omega)]
    · rw [if_neg (show ¬ (k2 = k2 ∧ j2 = j2 ∧ x = i) from fun h => hx h.2.2)]
      by_cases h3 : i + 1 ≤ x ∧ x < L
      · rw [if_pos h3, if_pos (by omega)]
      · rw [if_neg h3, if_neg (by omega)]
theorem e_copyRow {k1 j1 k2 j2 L : Nat} (h1 : qlen k1 = L) (h2 : qlen k2 = L) (hL : L < 1000) (hne : ¬ (k1 = k2 ∧ j1 = j2)) (s : qS) : ∃ s', f_X7_copyRow k1 j1 k2 j2 s = qdo s' ∧ (∀ a b, ¬ (a = k2 ∧ b = j2) → s' a b = s a b) ∧ (∀ x, x < L → s' k2 j2 x = s k1 j1 x) := by
  obtain ⟨s', e1, e2, e3⟩ := e_copyRow_loop h1 h2 hL hne L 0 qFU s (by omega) (by unfold qFU; omega)
  exact ⟨s', e1, e2, fun x hx => by rw [e3 x, if_pos ⟨Nat.zero_le _, hx⟩]⟩
/-- a row filled -/
theorem e_fillRow_loop {k j L : Nat} (h1 : qlen k = L) (hL : L < 1000) (v : Int32) : ∀ (d i m : Nat) (s : qS), i + d = L → d < m → ∃ s', l_X7_fillRow_2 k j m v (nI i) s = qdo s' ∧ (∀ a b, ¬ (a = k ∧ b = j) → s' a b = s a b) ∧ (∀ x, s' k j x = if i ≤ x ∧ x < L then v else s k j x) := by
  intro d
  induction d with
  | zero =>
    intro i m s hi hm
    obtain ⟨m, rfl⟩ : ∃ m', m = m' + 1 := ⟨m - 1, by omega⟩
    refine ⟨s, ?_, fun _ _ _ => rfl, fun x => by rw [if_neg (by omega)]⟩
    simp only [l_X7_fillRow_2, b_X7_fillRow_2]
    rw [if_pos (by rw [h1]; exact nI_le (by omega) (by omega))]
  | succ d ih =>
    intro i m s hi hm
    obtain ⟨m, rfl⟩ : ∃ m', m = m' + 1 := ⟨m - 1, by omega⟩
    simp only [l_X7_fillRow_2, b_X7_fillRow_2]
    rw [if_neg (by rw [h1]; exact nI_ge (by omega) (by omega)), if_pos (by rw [h1]; exact n_in (by omega) (by omega)), qlet_eq, nI_1, nI_clamp (by omega)]
    obtain ⟨s', e1, e2, e3⟩ := ih (i + 1) m (qu s k j i v) (by omega) (by omega)
    refine ⟨s', e1, fun a b hab => by rw [e2 a b hab, qu_other s hab], fun x => ?_⟩
    rw [e3 x, qu_at]
    by_cases hx : x = i
    · subst hx
      rw [if_neg (by omega), if_pos ⟨rfl, rfl, rfl⟩, if_pos (by omega)]
    · rw [if_neg (show ¬ (k = k ∧ j = j ∧ x = i) from fun h => hx h.2.2)]
      by_cases h3 : i + 1 ≤ x ∧ x < L
      · rw [if_pos h3, if_pos (by omega)]
      · rw [if_neg h3, if_neg (by omega)]
theorem e_fillRow {k j L : Nat} (h1 : qlen k = L) (hL : L < 1000) (v : Int32) (s : qS) : ∃ s', f_X7_fillRow k j v s = qdo s' ∧ (∀ a b, ¬ (a = k ∧ b = j) → s' a b = s a b) ∧ (∀ x, x < L → s' k j x = v) := by
  obtain ⟨s', e1, e2, e3⟩ := e_fillRow_loop (j := j) h1 hL v L 0 qFU s (by omega) (by unfold qFU; omega)
  exact ⟨s', e1, e2, fun x hx => by rw [e3 x, if_pos ⟨Nat.zero_le _, hx⟩]⟩
/-! the reference's rounds -/
section NO
variable {σ : qS} {P : qP}
end NO
/-! the class's closure -/
section CL
variable {P : qP} {j : Nat}
/-- between via and the end of its round: M before it -/
theorem c_clos_in (W : PW P) {rk : Int32 → qS → Option qO} {via : Nat} (hv : via < pn P) {σ0 : qS} : ∀ (d i m : Nat) (σ : qS), i + d = pn P → d < m → Rep σ j P → qsm [13] σ0 σ → (∀ x, i ≤ x → σ 13 0 x = σ0 13 0 x) → (σ 13 0 via = σ0 13 0 via) →
    (∀ x, x < i → ∀ u, qbit (σ 13 0 x) u = true ↔ (qbit (σ0 13 0 x) u = true ∨ (qbit (σ0 13 0 x) via = true ∧ qbit (σ0 13 0 via) u = true))) →
    ∃ σ', l_X4_findClosure_23 j rk m (nI via) (nI i) σ = rk (nI via + 1) σ' ∧ qsm [13] σ0 σ' ∧ ∀ x, x < pn P → ∀ u, qbit (σ' 13 0 x) u = true ↔ (qbit (σ0 13 0 x) u = true ∨ (qbit (σ0 13 0 x) via = true ∧ qbit (σ0 13 0 via) u = true)) := by
  have hn := W.1
  intro d
  induction d with
  | zero =>
    intro i m σ hi hm H hq h1 h2 h3
    obtain ⟨m, rfl⟩ : ∃ m', m = m' + 1 := ⟨m - 1, by omega⟩
    refine ⟨σ, ?_, hq, fun x hx => h3 x (by omega)⟩
    simp only [l_X4_findClosure_23, b_X4_findClosure_23]
    rw [if_pos (by rw [H.1]; exact nI_le (by omega) (by omega))]
  | succ d ih =>
    intro i m σ hi hm H hq h1 h2 h3
    obtain ⟨m, rfl⟩ : ∃ m', m = m' + 1 := ⟨m - 1, by omega⟩
    simp only [l_X4_findClosure_23, b_X4_findClosure_23]
    have at13 : ∀ x, x < pn P → f_X7_at 13 0 (nI x) σ = qan (σ 13 0 x) σ := fun x hx => e_at (show x < 12 by omega) (by decide)
    rw [if_neg (by rw [H.1]; exact nI_ge (by omega) (by omega)), at13 i (by omega), qb_I, e_hasBit (by omega), qb_I]
    by_cases hb : qbit (σ 13 0 i) via = true
    · rw [hb, if_neg (by decide), at13 i (by omega), qb_I, at13 via hv, qb_I, e_put (show i < 12 by omega) (by decide), qb_V, nI_1]
      have hb0 : qbit (σ0 13 0 i) via = true := by rw [← h1 i (Nat.le_refl _)]; exact hb
      have hne : ∀ x, x ≠ i → qu σ 13 0 i (σ 13 0 i ||| σ 13 0 via) 13 0 x = σ 13 0 x := fun x hx => by rw [qu_at, if_neg (fun h => hx h.2.2)]
      have hee : qu σ 13 0 i (σ 13 0 i ||| σ 13 0 via) 13 0 i = σ 13 0 i ||| σ 13 0 via := by rw [qu_at, if_pos ⟨rfl, rfl, rfl⟩]
      refine ih (i + 1) m _ (by omega) (by omega) (H.same (qsm_qu σ 13 0 i _) (by simp)) (hq.qu (by simp)) (fun x hx => by rw [hne x (by omega)]; exact h1 x (by omega)) ?_ (fun x hx u => ?_)
      · by_cases hvi : via = i
        · subst hvi
          rw [hee, h2]
          apply qbit_ext
          intro q _
          rw [qbit_or, Bool.or_self]
        · rw [hne via hvi, h2]
      · by_cases hxi : x = i
        · subst hxi
          rw [hee, qbit_or, Bool.or_eq_true, h1 x (Nat.le_refl _), h2]
          constructor
          · rintro (h | h)
            · exact Or.inl h
            · exact Or.inr ⟨hb0, h⟩
          · rintro (h | h)
            · exact Or.inl h
            · exact Or.inr h.2
        · rw [hne x hxi]
          exact h3 x (by omega) u
    · have hb : qbit (σ 13 0 i) via = false := by simpa using hb
      rw [hb, if_pos (by rfl), nI_1]
      refine ih (i + 1) m σ (by omega) (by omega) H hq (fun x hx => h1 x (by omega)) h2 (fun x hx u => ?_)
      by_cases hxi : x = i
      · subst hxi
        rw [h1 x (Nat.le_refl _)] at hb ⊢
        rw [hb]
        simp
      · exact h3 x (by omega) u
/-- the rounds: sound, above the needs, closed for what came -/
theorem c_clos_out (W : PW P) : ∀ (d i m : Nat) (σ : qS), i + d = pn P → d < m → Rep σ j P → (∀ x, x < pn P → ∀ u, qbit (σ 13 0 x) u = true → gr (ped P) x u) → (∀ x, x < pn P → ∀ u, ped P x u = true → qbit (σ 13 0 x) u = true) →
    (∀ v, v < i → ∀ x, x < pn P → qbit (σ 13 0 x) v = true → ∀ u, qbit (σ 13 0 v) u = true → qbit (σ 13 0 x) u = true) →
    ∃ σ', l_X4_findClosure_13 j m (nI i) σ = qdo σ' ∧ qsm [13] σ σ' ∧ (∀ x, x < pn P → ∀ u, qbit (σ' 13 0 x) u = true → gr (ped P) x u) ∧ (∀ x, x < pn P → ∀ u, ped P x u = true → qbit (σ' 13 0 x) u = true) ∧
      ∀ v, v < pn P → ∀ x, x < pn P → qbit (σ' 13 0 x) v = true → ∀ u, qbit (σ' 13 0 v) u = true → qbit (σ' 13 0 x) u = true := by
  have hn := W.1
  intro d
  induction d with
  | zero =>
    intro i m σ hi hm H h1 h2 h3
    obtain ⟨m, rfl⟩ : ∃ m', m = m' + 1 := ⟨m - 1, by omega⟩
    refine ⟨σ, ?_, qsm.refl _ _, h1, h2, fun v hv => h3 v (by omega)⟩
    simp only [l_X4_findClosure_13, b_X4_findClosure_13]
    rw [if_pos (by rw [H.1]; exact nI_le (by omega) (by omega))]
  | succ d ih =>
    intro i m σ hi hm H h1 h2 h3
    obtain ⟨m, rfl⟩ : ∃ m', m = m' + 1 := ⟨m - 1, by omega⟩
    simp only [l_X4_findClosure_13, b_X4_findClosure_13]
    rw [if_neg (by rw [H.1]; exact nI_ge (by omega) (by omega)), show (0 : Int32) = nI 0 from rfl]
    obtain ⟨σ1, e1, q1, r1⟩ := c_clos_in W (rk := l_X4_findClosure_13 j m) (via := i) (by omega) (pn P) 0 qFU σ (by omega) (by unfold qFU; omega) H (qsm.refl _ _) (fun _ _ => rfl) rfl (fun x hx => by omega)
    rw [e1, nI_1]
    have hi' : i < pn P := by omega
    have k1 : ∀ x, x < pn P → ∀ u, qbit (σ1 13 0 x) u = true → gr (ped P) x u := by
      intro x hx u hu
      rcases (r1 x hx u).mp hu with h | ⟨h, h'⟩
      · exact h1 x hx u h
      · exact gr_trans (h1 x hx i h) (h1 i hi' u h')
    have k3 : ∀ v, v < i + 1 → ∀ x, x < pn P → qbit (σ1 13 0 x) v = true → ∀ u, qbit (σ1 13 0 v) u = true → qbit (σ1 13 0 x) u = true := by
      intro v hv x hx hxv u hvu
      have hvn : v < pn P := by omega
      rw [r1 x hx u]
      rcases (r1 x hx v).mp hxv with a | ⟨a, a'⟩
      · rcases (r1 v hvn u).mp hvu with b | ⟨b, b'⟩
        · by_cases hvi : v = i
          · subst hvi; exact Or.inr ⟨a, b⟩
          · exact Or.inl (h3 v (by omega) x hx a u b)
        · by_cases hvi : v = i
          · subst hvi; exact Or.inr ⟨a, b'⟩
          · exact Or.inr ⟨h3 v (by omega) x hx a i b, b'⟩
      · rcases (r1 v hvn u).mp hvu with b | ⟨b, b'⟩
        · by_cases hvi : v = i
          · subst hvi; exact Or.inr ⟨a, b⟩
          · exact Or.inr ⟨a, h3 v (by omega) i hi' a' u b⟩
        · exact Or.inr ⟨a, b'⟩
    obtain ⟨σ2, e2, q2, r2⟩ := ih (i + 1) m σ1 (by omega) (by omega) (H.same q1 (by simp)) k1 (fun x hx u hu => (r1 x hx u).mpr (Or.inl (h2 x hx u hu))) k3
    exact ⟨σ2, e2, q1.trans q2, r2⟩
theorem c_findClosure (W : PW P) {σ : qS} (H : Rep σ j P) : ∃ σ', f_X4_findClosure j σ = qdo σ' ∧ qsm [13] σ σ' ∧ ∀ x, x < pn P → ∀ u, qbit (σ' 13 0 x) u = prea P x u := by
  have hn := W.1
  obtain ⟨σ1, e1, e2, e3⟩ := e_copyRow (k1 := 6) (j1 := j) (k2 := 13) (j2 := 0) (L := 12) rfl rfl (by decide) (fun h => by cases h.1) σ
  have q1 : qsm [13] σ σ1 := fun a b ha => e2 a b (fun h => ha (by rw [h.1]; exact List.mem_singleton.mpr rfl))
  have hrow : ∀ x, x < pn P → σ1 13 0 x = pf P 4 x := fun x hx => by rw [e3 x (by omega)]; exact H.2.1 4 x (by decide) hx
  obtain ⟨σ2, e4, q2, r1, r2, r3⟩ := c_clos_out (j := j) W (pn P) 0 qFU σ1 (by omega) (by unfold qFU; omega) (H.same q1 (by simp)) (fun x hx u hu => by rw [hrow x hx] at hu; exact gr_one hu) (fun x hx u hu => by rw [hrow x hx]; exact hu) (fun v hv => by omega)
  refine ⟨σ2, ?_, q1.trans q2, fun x hx u => prea_of (fun u => ⟨r1 x hx u, fun g => ?_⟩)⟩
  · unfold f_X4_findClosure
    rw [e1, qb_V]
    exact e4
  · obtain ⟨k, g⟩ := g
    revert x
    induction k with
    | zero => intro x hx g; exact r2 x hx u g
    | succ k ih =>
      intro x hx g
      obtain ⟨w, e, g⟩ := g
      have hw := W.ed_lt hx e
      exact r3 w hw x hx (r2 x hx w e) u (ih w hw g)
end CL

