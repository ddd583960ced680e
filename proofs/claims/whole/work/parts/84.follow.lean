/-! the class follows a form, reads a command, reads all -/
def ncnt : List Nat → Nat
  | [] => 0
  | x :: xs => (if x = 35 ∨ x = 37 then 1 else 0) + ncnt xs
theorem drop_cons {l : List Nat} {i x : Nat} {xs : List Nat} (h : l.drop i = x :: xs) : i < l.length ∧ l.getD i 0 = x ∧ l.drop (i + 1) = xs ∧ x ∈ l := by
  have hi : i < l.length := by
    apply Classical.byContradiction
    intro hn
    rw [List.drop_eq_nil_of_le (by omega)] at h
    cases h
  rw [List.drop_eq_getElem_cons hi] at h
  injection h with h1 h2
  refine ⟨hi, ?_, h2, ?_⟩
  · rw [List.getD_eq_getElem?_getD, List.getElem?_eq_getElem hi]
    exact h1
  · rw [← h1]
    exact List.getElem_mem hi
theorem fmk_len12 : ∀ k : Fin 8, (fmk k).length ≤ 12 := by decide
theorem fmk_len4 : ∀ k : Fin 8, 4 ≤ (fmk k).length := by decide
theorem fmk_cnt : ∀ k : Fin 8, ncnt (fmk k) ≤ 4 := by decide
theorem tss_adv (T : qTx) : ∀ (xs : List Nat) (p q : Nat), tss T (true, p) xs = (true, q) → p + xs.length ≤ q
  | [], p, q, h => by
    have h2 : (true, p) = (true, q) := h
    injection h2 with _ h3
    simp only [List.length_nil]; omega
  | x :: xs, p, q, h => by
    have h2 : tss T (tsp T (true, p) x) xs = (true, q) := h
    have h3 : ∃ p', tsp T (true, p) x = (true, p') ∧ p + 1 ≤ p' := by
      cases hb : (tsp T (true, p) x).1
      · have e : tsp T (true, p) x = (false, (tsp T (true, p) x).2) := Prod.ext hb rfl
        rw [e, tss_no] at h2
        cases h2
      · refine ⟨(tsp T (true, p) x).2, Prod.ext hb rfl, ?_⟩
        revert hb
        unfold tsp
        rw [if_neg (by simp)]
        split
        · split
          · intro _; dsimp only; omega
          · intro hb; cases hb
        · split
          · split
            · split
              · intro _; dsimp only; omega
              · intro _; dsimp only; omega
            · intro hb; cases hb
          · split
            · intro _; dsimp only; omega
            · intro hb; cases hb
    obtain ⟨p', e, hp⟩ := h3
    rw [e] at h2
    have := tss_adv T xs p' q h2
    simp only [List.length_cons]; omega
theorem n_max {a b : Nat} (ha : a < 2 ^ 31) (hb : b < 2 ^ 31) : qmax (nI a) (nI b) = nI (max a b) := by
  unfold qmax
  by_cases h : a < b
  · rw [if_pos ((n_lt ha hb).mpr h), Nat.max_eq_right (by omega)]
  · rw [if_neg (fun h2 => h ((n_lt ha hb).mp h2)), Nat.max_eq_left (by omega)]
section CF
variable {T : qTx}
def FW (T : qTx) (cc pl p : Nat) (xs : List Nat) (σ σ' : qS) : Prop := Qp σ σ' ∧ σ' 19 0 4 = nI cc ∧ σ' 19 0 5 = nI (tss T (true, p) xs).2 ∧ σ' 21 0 = σ 21 0 ∧ (∀ y, (y < 4 * cc + pl ∨ 4 * cc + 4 ≤ y) → σ' 22 0 y = σ 22 0 y) ∧ ((tss T (true, p) xs).1 = true → ∀ (n v : Nat), (tvs T (true, p) xs)[n]? = some v → σ' 22 0 (4 * cc + pl + n) = nI v)
theorem c_follows_loop {k : Nat} (hk : k < 8) {cc : Nat} (hcc : cc < 60) : ∀ (xs : List Nat) (i pl p m : Nat) (σ : qS), (fmk k).drop i = xs → i ≤ (fmk k).length → ncnt xs + pl ≤ 4 → xs.length < m → CTx T σ → σ 19 0 4 = nI cc → σ 19 0 5 = nI p → p ≤ T.1 → ∃ σ', l_X6_follows_4 k m (nI pl) (nI i) σ = qan (qb1 (tss T (true, p) xs).1) σ' ∧ FW T cc pl p xs σ σ'
  | [], i, pl, p, m, σ, hd, hi, hc, hm, H, h4, h5, hp => by
    obtain ⟨m, rfl⟩ : ∃ m', m = m' + 1 := ⟨m - 1, by simp only [List.length_nil] at hm; omega⟩
    have hlen : (fmk k).length ≤ i := List.drop_eq_nil_iff.mp hd
    have hL : qsl k = (fmk k).length := fmk_len ⟨k, hk⟩
    have h12 : (fmk k).length ≤ 12 := fmk_len12 ⟨k, hk⟩
    refine ⟨σ, ?_, Qp.refl σ, h4, h5, rfl, fun _ _ => rfl, fun _ n v hv => by simp [tvs] at hv⟩
    show b_X6_follows_4 k _ (nI pl) (nI i) σ = _
    unfold b_X6_follows_4
    rw [e_len, qb_I, if_pos (by rw [hL]; exact (n_le (by omega) (by omega)).mpr hlen)]
    rfl
  | x :: xs, i, pl, p, m, σ, hd, hi0, hc, hm, H, h4, h5, hp => by
    obtain ⟨m, rfl⟩ : ∃ m', m = m' + 1 := ⟨m - 1, by simp only [List.length_cons] at hm; omega⟩
    obtain ⟨hi, hx, hd2, hmem⟩ := drop_cons hd
    have hL : qsl k = (fmk k).length := fmk_len ⟨k, hk⟩
    have h12 : (fmk k).length ≤ 12 := fmk_len12 ⟨k, hk⟩
    have hch : qsc k i = nI x := by rw [← hx]; exact fmk_chr ⟨k, hk⟩ ⟨i, by omega⟩ hi
    have hx128 : x < 128 := fmk_small ⟨k, hk⟩ x hmem
    have h60 := H.1
    have hgo : ∀ (o : Option qO), (if (nI x) = (35 : Int32) then j_X6_follows_33 k (l_X6_follows_4 k m) (nI pl) (nI i) (nI x) σ else (if (nI x) = (37 : Int32) then j_X6_follows_33 k (l_X6_follows_4 k m) (nI pl) (nI i) (nI x) σ else (if (σ 19 0 3) ≤ (σ 19 0 5) then (some (.inl (some (qI (0 : Int32))), σ)) else qbind (f_X7_charAt 20 0 (σ 19 0 5) σ) (qvI (fun r5 s5 => (if r5 = nI x then qlet (qu s5 19 0 5 ((s5 19 0 5) + (1 : Int32))) (fun s6 => l_X6_follows_4 k m (nI pl) (nI i + (1 : Int32)) s6) else (some (.inl (some (qI (0 : Int32))), s5))))) qE0))) = o → l_X6_follows_4 k (m + 1) (nI pl) (nI i) σ = o := by
      intro o ho
      show b_X6_follows_4 k (l_X6_follows_4 k m) (nI pl) (nI i) σ = _
      unfold b_X6_follows_4
      rw [e_len, qb_I, if_neg (by rw [hL, n_le (by omega) (by omega)]; omega), e_charAt (by rw [hL]; exact hi) (by omega) hch hx128, qb_I]
      exact ho
    have hxs : tss T (true, p) (x :: xs) = tss T (tsp T (true, p) x) xs := rfl
    by_cases hnum : x = 35 ∨ x = 37
    · have hc2 : ncnt xs + (pl + 1) ≤ 4 := by
        unfold ncnt at hc
        rw [if_pos hnum] at hc
        omega
      obtain ⟨σ1, e1, Q1, a4, a5, a21, a22⟩ := c_readNumber H hnum (pl := pl) (by omega) hcc hp h4 h5
      have hj : j_X6_follows_33 k (l_X6_follows_4 k m) (nI pl) (nI i) (nI x) σ = qbind (f_X6_readNumber (nI pl) (if x = 37 then 2 else 1) σ) (qvI (fun r3 s3 => (if r3 = 0 then (some (.inl (some (qI (0 : Int32))), s3)) else l_X6_follows_4 k m (nI pl + (1 : Int32)) (nI i + (1 : Int32)) s3))) qE0 := by
        unfold j_X6_follows_33
        rcases hnum with rfl | rfl
        · rw [if_neg (by decide), if_neg (by decide)]
        · rw [if_pos (by decide), if_pos (by decide)]
      have hg2 : ∀ o, j_X6_follows_33 k (l_X6_follows_4 k m) (nI pl) (nI i) (nI x) σ = o → l_X6_follows_4 k (m + 1) (nI pl) (nI i) σ = o := by
        intro o ho
        refine hgo o ?_
        rcases hnum with rfl | rfl
        · rw [if_pos (by decide)]; exact ho
        · rw [if_neg (by decide), if_pos (by decide)]; exact ho
      have htv : tvs T (true, p) (x :: xs) = tsv T (true, p) x :: tvs T (tsp T (true, p) x) xs := by
        show (if x = 35 ∨ x = 37 then _ else _) = _
        rw [if_pos hnum]
      cases hb : (tsp T (true, p) x).1
      · have e : tsp T (true, p) x = (false, (tsp T (true, p) x).2) := Prod.ext hb rfl
        have e2 : tss T (true, p) (x :: xs) = (false, (tsp T (true, p) x).2) := by rw [hxs, e, tss_no]
        refine ⟨σ1, hg2 _ ?_, Q1, a4, by rw [e2]; exact a5, a21, fun y hy => by rw [a22 y, if_neg (by omega)], fun h => by rw [e2] at h; cases h⟩
        rw [hj, e1, hb, qb_I, if_pos (by rfl), e2]
        rfl
      · have e : tsp T (true, p) x = (true, (tsp T (true, p) x).2) := Prod.ext hb rfl
        have hp1 : (tsp T (true, p) x).2 ≤ T.1 := tsp_in T (true, p) x hp
        obtain ⟨σ2, e2, Q2, b4, b5, b21, b22, bv⟩ := c_follows_loop hk hcc xs (i + 1) (pl + 1) (tsp T (true, p) x).2 m σ1 hd2 (by omega) hc2 (by simp only [List.length_cons] at hm; omega) (H.qp Q1) a4 a5 hp1
        rw [← e] at e2 b5 bv
        refine ⟨σ2, hg2 _ ?_, Q1.trans Q2, b4, by rw [hxs]; exact b5, by rw [b21, a21], fun y hy => by rw [b22 y (by omega), a22 y, if_neg (by omega)], fun h n v hv => ?_⟩
        · rw [hj, e1, hb, qb_I, if_neg (by decide), nI_1, nI_1, e2, hxs]
        · rw [htv] at hv
          rcases n with _ | n
          · simp only [List.getElem?_cons_zero, Option.some.injEq] at hv
            rw [Nat.add_zero, b22 _ (by omega), a22, if_pos rfl, hv]
          · simp only [List.getElem?_cons_succ] at hv
            have := bv (by rw [hxs] at h; exact h) n v hv
            rw [show 4 * cc + pl + (n + 1) = 4 * cc + (pl + 1) + n by omega]
            exact this
    · have h35 : x ≠ 35 := fun h => hnum (Or.inl h)
      have h37 : x ≠ 37 := fun h => hnum (Or.inr h)
      have htv : tvs T (true, p) (x :: xs) = tvs T (tsp T (true, p) x) xs := by
        show (if x = 35 ∨ x = 37 then _ else _) = _
        rw [if_neg hnum]
      have hc2 : ncnt xs + pl ≤ 4 := by
        unfold ncnt at hc
        rw [if_neg hnum] at hc
        omega
      have i35 : ¬ nI x = (35 : Int32) := by rw [show (35 : Int32) = nI 35 from rfl, n_eq (by omega) (by omega)]; exact h35
      have i37 : ¬ nI x = (37 : Int32) := by rw [show (37 : Int32) = nI 37 from rfl, n_eq (by omega) (by omega)]; exact h37
      have htsp : tsp T (true, p) x = if lt1 T x p = true then (true, p + 1) else (false, p) := by
        unfold tsp
        rw [if_neg (by simp), if_neg h35, if_neg h37]
      by_cases hl : lt1 T x p = true
      · rw [if_pos hl] at htsp
        have hl2 : p < T.1 ∧ T.2 p = x := by unfold lt1 at hl; exact of_decide_eq_true hl
        obtain ⟨σ1, hs1⟩ : ∃ σ1, σ1 = qu σ 19 0 5 (nI (p + 1)) := ⟨_, rfl⟩
        have Q1 : Qp σ σ1 := by rw [hs1]; exact Qp.pos _ _
        obtain ⟨σ2, e2, Q2, b4, b5, b21, b22, bv⟩ := c_follows_loop hk hcc xs (i + 1) pl (p + 1) m σ1 hd2 (by omega) hc2 (by simp only [List.length_cons] at hm; omega) (H.qp Q1) (by rw [hs1, qu_at, if_neg (by simp)]; exact h4) (by rw [hs1, qu_at, if_pos ⟨rfl, rfl, rfl⟩]) (by omega)
        refine ⟨σ2, hgo _ ?_, Q1.trans Q2, b4, by rw [hxs, htsp]; exact b5, by rw [b21, hs1, qu_other _ (by simp)], fun y hy => by rw [b22 y hy, hs1, qu_at, if_neg (by simp)], fun h n v hv => bv (by rw [hxs, htsp] at h; exact h) n v (by rw [htv, htsp] at hv; exact hv)⟩
        rw [if_neg i35, if_neg i37, H.2.1, h5, if_neg (nI_ge hl2.1 (by omega)), c_chr H hl2.1, qb_I, hl2.2, if_pos rfl, h5, nI_1, nI_1, qlet_eq, ← hs1, e2, hxs, htsp]
      · rw [if_neg hl] at htsp
        have e2 : tss T (true, p) (x :: xs) = (false, p) := by rw [hxs, htsp, tss_no]
        refine ⟨σ, hgo _ ?_, Qp.refl σ, h4, by rw [e2]; exact h5, rfl, fun _ _ => rfl, fun h => by rw [e2] at h; cases h⟩
        rw [if_neg i35, if_neg i37, H.2.1, h5, e2]
        by_cases hlt : p < T.1
        · have hne : T.2 p ≠ x := fun h => hl (by unfold lt1; exact decide_eq_true ⟨hlt, h⟩)
          have h127 := (H.2.2 p hlt).2
          rw [if_neg (nI_ge hlt (by omega)), c_chr H hlt, qb_I, if_neg (by rw [n_eq (by omega) (by omega)]; exact hne)]
          rfl
        · rw [if_pos (nI_le (by omega) (by omega))]
          rfl
theorem c_follows {k : Nat} (hk : k < 8) {cc p : Nat} (hcc : cc < 60) {σ : qS} (H : CTx T σ) (h4 : σ 19 0 4 = nI cc) (h5 : σ 19 0 5 = nI p) (hp : p ≤ T.1) : ∃ σ', f_X6_follows k σ = qan (qb1 (tss T (true, p) (fmk k)).1) σ' ∧ FW T cc 0 p (fmk k) σ σ' :=
  c_follows_loop hk hcc (fmk k) 0 0 p qFU σ rfl (by omega) (fmk_cnt ⟨k, hk⟩) (Nat.lt_of_le_of_lt (fmk_len12 ⟨k, hk⟩) (by decide)) H h4 h5 hp
/-- which form the text follows here: the first; or how far any of them goes -/
def pks (T : qTx) (p : Nat) : Nat → Nat → Nat → (Bool × Nat) × Nat
  | 0, _, f => ((false, f), 8)
  | d + 1, k, f => if (tss T (true, p) (fmk k)).1 = true then (tss T (true, p) (fmk k), k) else pks T p d (k + 1) (max f (tss T (true, p) (fmk k)).2)
def pcm (T : qTx) (p : Nat) : (Bool × Nat) × Nat := pks T p 8 0 p
def CW (T : qTx) (cc p : Nat) (r : (Bool × Nat) × Nat) (σ σ' : qS) : Prop := Qp σ σ' ∧ σ' 19 0 5 = nI r.1.2 ∧ r.1.2 ≤ T.1 ∧ (r.1.1 = true → p + 4 ≤ r.1.2 ∧ r.2 < 8 ∧ σ' 19 0 4 = nI (cc + 1) ∧ σ' 21 0 cc = nI (r.2 + 1) ∧ (∀ y, y ≠ cc → σ' 21 0 y = σ 21 0 y) ∧ (∀ y, y < 4 * cc → σ' 22 0 y = σ 22 0 y) ∧ ∀ (n v : Nat), (tvs T (true, p) (fmk r.2))[n]? = some v → σ' 22 0 (4 * cc + n) = nI v)
theorem c_rc_loop {cc p : Nat} (hcc : cc < 60) (hp : p ≤ T.1) : ∀ (d k f m : Nat) (σ : qS), d + k = 8 → d < m → f ≤ T.1 → CTx T σ → σ 19 0 4 = nI cc → ∃ σ', l_X6_readCommand_18 m (nI p) (nI f) (8 : Int32) (nI k) σ = qan (qb1 (pks T p d k f).1.1) σ' ∧ CW T cc p (pks T p d k f) σ σ'
  | 0, k, f, m, σ, hd, hm, hf, H, h4 => by
    obtain ⟨m, rfl⟩ : ∃ m', m = m' + 1 := ⟨m - 1, by omega⟩
    obtain rfl : k = 8 := by omega
    refine ⟨qu σ 19 0 5 (nI f), ?_, Qp.pos _ _, by rw [qu_at, if_pos ⟨rfl, rfl, rfl⟩]; rfl, hf, fun h => by cases h⟩
    show b_X6_readCommand_18 _ (nI p) (nI f) (8 : Int32) (nI 8) σ = _
    unfold b_X6_readCommand_18
    rw [if_pos (by decide), qlet_eq]
    rfl
  | d + 1, k, f, m, σ, hd, hm, hf, H, h4 => by
    obtain ⟨m, rfl⟩ : ∃ m', m = m' + 1 := ⟨m - 1, by omega⟩
    have hk : k < 8 := by omega
    have h60 := H.1
    obtain ⟨σ1, hs1⟩ : ∃ σ1, σ1 = qu σ 19 0 5 (nI p) := ⟨_, rfl⟩
    have Q1 : Qp σ σ1 := by rw [hs1]; exact Qp.pos _ _
    have a21 : σ1 21 0 = σ 21 0 := by rw [hs1, qu_other _ (by simp)]
    have a22 : σ1 22 0 = σ 22 0 := by rw [hs1, qu_other _ (by simp)]
    obtain ⟨σ2, e2, Q2, b4, b5, b21, b22, bv⟩ := c_follows hk (p := p) hcc (H.qp Q1) (by rw [hs1, qu_at, if_neg (by simp)]; exact h4) (by rw [hs1, qu_at, if_pos ⟨rfl, rfl, rfl⟩]) hp
    have hin := tss_in T (fmk k) (true, p) hp
    have hgo : ∀ o, qbind (f_X6_follows k σ1) (qvI (fun r1 s3 => (if r1 = 0 then l_X6_readCommand_18 m (nI p) (qmax (nI f) (s3 19 0 5)) (8 : Int32) (nI k + (1 : Int32)) s3 else (if (s3 19 0 4) < 0 then (some (.inl (some (qI (1 : Int32))), s3)) else (if (Int32.ofNat 60) ≤ (s3 19 0 4) then (some (.inl (some (qI (1 : Int32))), s3)) else (if qin (s3 19 0 4) 60 then qlet (qu s3 21 0 ((s3 19 0 4)).toNatClampNeg (nI (k + 1))) (fun s4 => qlet (qu s4 19 0 4 ((s4 19 0 4) + (1 : Int32))) (fun s5 => (some (.inl (some (qI (1 : Int32))), s5)))) else none)))))) qE0 = o → l_X6_readCommand_18 (m + 1) (nI p) (nI f) (8 : Int32) (nI k) σ = o := by
      intro o ho
      show b_X6_readCommand_18 (l_X6_readCommand_18 m) (nI p) (nI f) (8 : Int32) (nI k) σ = _
      unfold b_X6_readCommand_18
      rw [if_neg (by rw [show (8 : Int32) = nI 8 from rfl, n_le (by omega) (by omega)]; omega), if_pos (n_in hk (by decide)), qlet_eq, ← hs1, nI_clamp (by omega)]
      exact ho
    by_cases hb : (tss T (true, p) (fmk k)).1 = true
    · have hpk : pks T p (d + 1) k f = (tss T (true, p) (fmk k), k) := by
        show (if (tss T (true, p) (fmk k)).1 = true then _ else _) = _
        rw [if_pos hb]
      have hadv := tss_adv T (fmk k) p (tss T (true, p) (fmk k)).2 (Prod.ext hb rfl)
      have h4' := fmk_len4 ⟨k, hk⟩
      dsimp only at h4'
      rw [hpk]
      refine ⟨qu (qu σ2 21 0 cc (nI (k + 1))) 19 0 4 (nI (cc + 1)), hgo _ ?_, (Q1.trans Q2).trans ((Qp.cmd _ _ _).trans (Qp.cnt _ _)), by rw [qu_at, if_neg (by simp), qu_at, if_neg (by simp)]; exact b5, hin, fun _ => ⟨by dsimp only; omega, hk, by rw [qu_at, if_pos ⟨rfl, rfl, rfl⟩], by rw [qu_at, if_neg (by simp), qu_at, if_pos ⟨rfl, rfl, rfl⟩], fun y hy => by rw [qu_at, if_neg (by simp), qu_at, if_neg (fun h => hy h.2.2), b21, a21], fun y hy => by rw [qu_at, if_neg (by simp), qu_at, if_neg (by simp), b22 y (by omega), a22], fun n v hv => ?_⟩⟩
      · rw [e2, hb, qb_I, if_neg (by decide), b4, if_neg (n_ge0 (by omega)), if_neg (by rw [show Int32.ofNat 60 = nI 60 from rfl, n_le (by omega) (by omega)]; omega), if_pos (n_in hcc (by decide)), nI_clamp (by omega), qlet_eq, qu_at, if_neg (by simp), b4, nI_1, qlet_eq]
        rfl
      · rw [qu_at, if_neg (by simp), qu_at, if_neg (by simp)]
        have := bv hb n v hv
        rw [Nat.add_zero] at this
        exact this
    · have hb0 : (tss T (true, p) (fmk k)).1 = false := by simpa using hb
      have hpk : pks T p (d + 1) k f = pks T p d (k + 1) (max f (tss T (true, p) (fmk k)).2) := by
        show (if (tss T (true, p) (fmk k)).1 = true then _ else _) = _
        rw [if_neg hb]
      obtain ⟨σ3, e3, Q3, c5, cin, cs⟩ := c_rc_loop hcc hp d (k + 1) (max f (tss T (true, p) (fmk k)).2) m σ2 (by omega) (by omega) (Nat.max_le.mpr ⟨hf, hin⟩) ((H.qp Q1).qp Q2) b4
      rw [hpk]
      refine ⟨σ3, hgo _ ?_, (Q1.trans Q2).trans Q3, c5, cin, fun h => ?_⟩
      · rw [e2, hb0, qb_I, if_pos (by rfl), b5, n_max (by omega) (by omega), nI_1]
        exact e3
      · obtain ⟨c0, c1, c2, c3, c4, c6, c7⟩ := cs h
        exact ⟨c0, c1, c2, c3, fun y hy => by rw [c4 y hy, b21, a21], fun y hy => by rw [c6 y hy, b22 y (by omega), a22], c7⟩
theorem c_readCommand {cc p : Nat} (hcc : cc < 60) (hp : p ≤ T.1) {σ : qS} (H : CTx T σ) (h4 : σ 19 0 4 = nI cc) (h5 : σ 19 0 5 = nI p) : ∃ σ', f_X6_readCommand σ = qan (qb1 (pcm T p).1.1) σ' ∧ CW T cc p (pcm T p) σ σ' := by
  unfold f_X6_readCommand
  rw [h5]
  exact c_rc_loop hcc hp 8 0 p qFU σ (by decide) (by decide) hp H h4
end CF
