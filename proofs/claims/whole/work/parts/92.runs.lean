/-! the run of a script -/
section RS
variable {T : qTx} {Q : qP} {σ : qS}
theorem tvs_len : ∀ (xs : List Nat) (st : Bool × Nat), (tvs T st xs).length = ncnt xs
  | [], _ => rfl
  | x :: xs, st => by
    show (if x = 35 ∨ x = 37 then tsv T st x :: tvs T (tsp T st x) xs else tvs T (tsp T st x) xs).length = (if x = 35 ∨ x = 37 then 1 else 0) + ncnt xs
    by_cases h : x = 35 ∨ x = 37
    · rw [if_pos h, if_pos h, List.length_cons, tvs_len xs]; omega
    · rw [if_neg h, if_neg h, tvs_len xs]; omega
theorem pal_vs : ∀ (d p : Nat) (i k : Nat) (vs : List Nat), (pal T d p).2[i]? = some (k, vs) → vs.length = ncnt (fmk k)
  | 0, _, _, _, _, h => by simp [pal] at h
  | d + 1, p, i, k, vs, h => by
    unfold pal at h
    split at h
    · split at h
      · split at h
        · rcases i with _ | i
          · simp only [List.getElem?_cons_zero, Option.some.injEq, Prod.mk.injEq] at h
            obtain ⟨rfl, rfl⟩ := h
            exact tvs_len _ _
          · simp only [List.getElem?_cons_succ] at h
            exact pal_vs d _ i k vs h
        · simp at h
      · rcases i with _ | i
        · simp only [List.getElem?_cons_zero, Option.some.injEq, Prod.mk.injEq] at h
          obtain ⟨rfl, rfl⟩ := h
          exact tvs_len _ _
        · simp at h
    · simp at h
/-- the n-th number -/
def vN (vs : List Nat) (n : Nat) : Int32 := nI (vs.getD n 0)
theorem cop_eq {k : Nat} (hk : k < 8) {vs : List Nat} (hl : vs.length = ncnt (fmk k)) {a b c d : Int32} (h : ∀ (n v : Nat), vs[n]? = some v → n < 4 → (if n = 0 then a else if n = 1 then b else if n = 2 then c else d) = nI v) (s : qS) : cop k a b c d s = cop k (vN vs 0) (vN vs 1) (vN vs 2) (vN vs 3) s ∧ rop k a b c d s = rop k (vN vs 0) (vN vs 1) (vN vs 2) (vN vs 3) s := by
  have hv : ∀ n, n < vs.length → n < 4 → (if n = 0 then a else if n = 1 then b else if n = 2 then c else d) = vN vs n := fun n h1 h2 => by
    rw [h n vs[n] (List.getElem?_eq_getElem h1) h2]
    unfold vN
    rw [List.getD_eq_getElem?_getD, List.getElem?_eq_getElem h1]
    rfl
  rcases (show k = 0 ∨ k = 1 ∨ k = 2 ∨ k = 3 ∨ k = 4 ∨ k = 5 ∨ k = 6 ∨ k = 7 by omega) with rfl | rfl | rfl | rfl | rfl | rfl | rfl | rfl
  · have hl' : vs.length = 4 := hl.trans (by decide)
    have e0 : a = vN vs 0 := hv 0 (by omega) (by omega)
    have e1 : b = vN vs 1 := hv 1 (by omega) (by omega)
    have e2 : c = vN vs 2 := hv 2 (by omega) (by omega)
    have e3 : d = vN vs 3 := hv 3 (by omega) (by omega)
    rw [← e0, ← e1, ← e2, ← e3]
    exact ⟨by simp only [cop], by simp only [rop]⟩
  · have hl' : vs.length = 1 := hl.trans (by decide)
    have e0 : a = vN vs 0 := hv 0 (by omega) (by omega)
    rw [← e0]
    exact ⟨by simp only [cop], by simp only [rop]⟩
  · have hl' : vs.length = 2 := hl.trans (by decide)
    have e0 : a = vN vs 0 := hv 0 (by omega) (by omega)
    have e1 : b = vN vs 1 := hv 1 (by omega) (by omega)
    rw [← e0, ← e1]
    exact ⟨by simp only [cop], by simp only [rop]⟩
  · have hl' : vs.length = 2 := hl.trans (by decide)
    have e0 : a = vN vs 0 := hv 0 (by omega) (by omega)
    have e1 : b = vN vs 1 := hv 1 (by omega) (by omega)
    rw [← e0, ← e1]
    exact ⟨by simp only [cop], by simp only [rop]⟩
  · have hl' : vs.length = 2 := hl.trans (by decide)
    have e0 : a = vN vs 0 := hv 0 (by omega) (by omega)
    have e1 : b = vN vs 1 := hv 1 (by omega) (by omega)
    rw [← e0, ← e1]
    exact ⟨by simp only [cop], by simp only [rop]⟩
  · have hl' : vs.length = 2 := hl.trans (by decide)
    have e0 : a = vN vs 0 := hv 0 (by omega) (by omega)
    have e1 : b = vN vs 1 := hv 1 (by omega) (by omega)
    rw [← e0, ← e1]
    exact ⟨by simp only [cop], by simp only [rop]⟩
  · have hl' : vs.length = 2 := hl.trans (by decide)
    have e0 : a = vN vs 0 := hv 0 (by omega) (by omega)
    have e1 : b = vN vs 1 := hv 1 (by omega) (by omega)
    rw [← e0, ← e1]
    exact ⟨by simp only [cop], by simp only [rop]⟩
  · exact ⟨by simp only [cop], by simp only [rop]⟩
theorem c_one {i k : Nat} (hi : i < 60) (hk : k < 8) {vs : List Nat} (hl : vs.length = ncnt (fmk k)) (h21 : σ 21 0 i = nI (k + 1)) (h22 : ∀ (n v : Nat), vs[n]? = some v → n < 4 → σ 22 0 (4 * i + n) = nI v) : f_X7_runCommand (nI i) σ = cop k (vN vs 0) (vN vs 1) (vN vs 2) (vN vs 3) σ := by
  rw [c_run hi hk h21]
  refine (cop_eq hk hl (fun n v hv hn => ?_) σ).1
  rcases (show n = 0 ∨ n = 1 ∨ n = 2 ∨ n = 3 by omega) with rfl | rfl | rfl | rfl
  · exact h22 0 v hv hn
  · exact h22 1 v hv hn
  · exact h22 2 v hv hn
  · exact h22 3 v hv hn
theorem r_one {i k : Nat} (hi : i < 29) (hk : k < 8) {vs : List Nat} (hl : vs.length = ncnt (fmk k)) (h0 : σ 37 0 (5 * i) = nI k) (h37 : ∀ (n v : Nat), vs[n]? = some v → n < 4 → σ 37 0 (5 * i + 1 + n) = nI v) : f_X8_does (nI (5 * i)) σ = qbind (rop k (vN vs 0) (vN vs 1) (vN vs 2) (vN vs 3) σ) (qvI (fun r s => (some (.inl (some (qI r)), s)))) qE0 := by
  rw [r_run hi hk h0]
  rw [(cop_eq hk hl (fun n v hv hn => ?_) σ).2]
  rcases (show n = 0 ∨ n = 1 ∨ n = 2 ∨ n = 3 by omega) with rfl | rfl | rfl | rfl
  · exact h37 0 v hv hn
  · exact h37 1 v hv hn
  · exact h37 2 v hv hn
  · exact h37 3 v hv hn
/-- how a script's commands end: the project behind the last one; or the command that fails, its letter -/
def SOk (L : List (Nat × List Nat)) (Q Q' : qP) (cc : Nat) : Prop := PW Q' ∧
  (∀ (σ : qS) (m : Nat), L.length < m → Rep σ 1 Q → CL L cc σ → σ 19 0 4 = nI (cc + L.length) → ∃ σ', l_X7_runScript_54 m (nI cc) σ = l_X7_runScript_54 (m - L.length) (nI (cc + L.length)) σ' ∧ Rep σ' 1 Q' ∧ Fc σ σ') ∧
  (∀ (s : qS) (m : Nat), L.length < m → RepR s 27 0 Q → CLr L cc s → s 26 0 21 = nI (cc + L.length) → s 26 0 17 = 0 → ∃ s', l_X8_runScript_38 m (nI cc) s = l_X8_runScript_38 (m - L.length) (nI (cc + L.length)) s' ∧ RepR s' 27 0 Q' ∧ s' 26 0 17 = 0 ∧ Wo s s')
def SNo (L : List (Nat × List Nat)) (Q : qP) (cc : Nat) : Prop := ∃ f ch : Nat, f < cc + L.length ∧ ch ≤ 126 ∧
  (∀ (σ : qS) (m : Nat), L.length < m → Rep σ 1 Q → CL L cc σ → σ 19 0 4 = nI (cc + L.length) → ∃ σ', l_X7_runScript_54 m (nI cc) σ = some (.inr qISE, qu (qu σ' 0 0 11 (nI f)) 0 0 12 (nI ch)) ∧ Fc σ σ') ∧
  (∀ (s : qS) (m : Nat), L.length < m → RepR s 27 0 Q → CLr L cc s → s 26 0 21 = nI (cc + L.length) → s 26 0 17 = 0 → ∃ s', l_X8_runScript_38 m (nI cc) s = qbind (f_X8_copies 28 0 (0 : Int32) 27 0 (0 : Int32) (qu (qu (qu s' 26 0 7 (nI f)) 26 0 8 (nI ch)) 26 0 17 2)) (qvV (fun s10 => (some (.inl (some (qI (0 : Int32))), s10)))) qE0 ∧ Wo s s')
theorem CL.tail {k : Nat} {vs : List Nat} {L : List (Nat × List Nat)} {cc : Nat} {σ σ' : qS} (h : CL ((k, vs) :: L) cc σ) (e21 : σ' 21 0 = σ 21 0) (e22 : σ' 22 0 = σ 22 0) : CL L (cc + 1) σ' := fun i k' vs' hi => by
  have := h (i + 1) k' vs' (by simpa using hi)
  rw [e21, e22, show cc + 1 + i = cc + (i + 1) by omega]
  exact this
theorem CLr.tail {k : Nat} {vs : List Nat} {L : List (Nat × List Nat)} {cc : Nat} {σ σ' : qS} (h : CLr ((k, vs) :: L) cc σ) (e37 : σ' 37 0 = σ 37 0) : CLr L (cc + 1) σ' := fun i k' vs' hi => by
  have := h (i + 1) k' vs' (by simpa using hi)
  rw [e37, show cc + 1 + i = cc + (i + 1) by omega]
  exact this
theorem s_run : ∀ (L : List (Nat × List Nat)) (cc : Nat) (Q : qP), PW Q → (∀ (i k : Nat) (vs : List Nat), L[i]? = some (k, vs) → vs.length = ncnt (fmk k) ∧ k < 8) → cc + L.length < 20 → (∃ Q', SOk L Q Q' cc) ∨ SNo L Q cc
  | [], cc, Q, W, hL, hc => by
    refine Or.inl ⟨Q, W, fun σ m hm H hC h4 => ⟨σ, rfl, H, Fc.refl σ⟩, fun s m hm R hC h21 h17 => ⟨s, rfl, R, h17, ⟨fun _ _ _ => rfl, fun _ _ => rfl⟩⟩⟩
  | (k, vs) :: L, cc, Q, W, hL, hc => by
    obtain ⟨hl, hk⟩ := hL 0 k vs rfl
    simp only [List.length_cons] at hc
    have hcrun : ∀ (σ : qS) (m : Nat), CL ((k, vs) :: L) cc σ → σ 19 0 4 = nI (cc + (L.length + 1)) → l_X7_runScript_54 (m + 1) (nI cc) σ = qbind (cop k (vN vs 0) (vN vs 1) (vN vs 2) (vN vs 3) σ) (qvI (fun r2 s7 => (if r2 = (46 : Int32) then l_X7_runScript_54 m (nI (cc + 1)) s7 else qlet (qu s7 0 0 11 (nI cc)) (fun s8 => (if qch r2 then qlet (qu s8 0 0 12 r2) (fun s9 => (some (.inr qISE, s9))) else none))))) qE0 := by
      intro σ m hC h4
      obtain ⟨-, h21, h22⟩ := hC 0 k vs rfl
      rw [Nat.add_zero] at h21 h22
      show b_X7_runScript_54 (l_X7_runScript_54 m) (nI cc) σ = _
      unfold b_X7_runScript_54
      rw [h4, if_neg (by rw [n_le (by omega) (by omega)]; omega), c_one (by omega) hk hl h21 h22, nI_1]
    have hrrun : ∀ (s : qS) (m : Nat), CLr ((k, vs) :: L) cc s → s 26 0 21 = nI (cc + (L.length + 1)) → l_X8_runScript_38 (m + 1) (nI cc) s = qbind (qbind (rop k (vN vs 0) (vN vs 1) (vN vs 2) (vN vs 3) s) (qvI (fun r s => (some (.inl (some (qI r)), s)))) qE0) (qvI (fun r2 s5 => (if (s5 26 0 17) = 0 then l_X8_runScript_38 m (nI (cc + 1)) s5 else qlet (qu s5 26 0 7 (nI cc)) (fun s6 => (if qin (nI (5 * cc)) 150 then qbind (f_X8_letterFor (s6 37 0 (nI (5 * cc)).toNatClampNeg) s6) (qvI (fun r3 s7 => qlet (qu s7 26 0 8 r3) (fun s8 => qlet (qu s8 26 0 17 (2 : Int32)) (fun s9 => qbind (f_X8_copies 28 0 (0 : Int32) 27 0 (0 : Int32) s9) (qvV (fun s10 => (some (.inl (some (qI (0 : Int32))), s10)))) qE0)))) qE0 else none))))) qE0 := by
      intro s m hC h21
      obtain ⟨-, h0, h37⟩ := hC 0 k vs rfl
      rw [Nat.add_zero] at h0 h37
      show b_X8_runScript_38 (l_X8_runScript_38 m) (nI cc) s = _
      unfold b_X8_runScript_38
      rw [h21, if_neg (by rw [n_le (by omega) (by omega)]; omega), i5, r_one (by omega) hk hl h0 h37, nI_1]
    rcases st_all W hk (vN vs 0) (vN vs 1) (vN vs 2) (vN vs 3) with ⟨Q1, W1, hc1, hr1⟩ | ⟨ch, t, ht0, ht9, hch, hch46, hc1, hr1, hlf⟩
    · have hcc : ∀ σ, Rep σ 1 Q → CL ((k, vs) :: L) cc σ → σ 19 0 4 = nI (cc + (L.length + 1)) → ∀ m, ∃ σ', l_X7_runScript_54 (m + 1) (nI cc) σ = l_X7_runScript_54 m (nI (cc + 1)) σ' ∧ Rep σ' 1 Q1 ∧ Fc σ σ' ∧ CL L (cc + 1) σ' ∧ σ' 19 0 4 = nI (cc + 1 + L.length) := by
        intro σ H hC h4 m
        obtain ⟨σ1, e1, H1, F1⟩ := hc1 σ H
        refine ⟨σ1, ?_, H1, F1, hC.tail (F1.1 21 0 (by omega) (by omega) (by simp)) (F1.1 22 0 (by omega) (by omega) (by simp)), ?_⟩
        · rw [hcrun σ m hC h4, e1, qb_I, if_pos rfl]
        · rw [F1.1 19 0 (by omega) (by omega) (by simp), h4]
          congr 1; omega
      have hrr : ∀ s, RepR s 27 0 Q → CLr ((k, vs) :: L) cc s → s 26 0 21 = nI (cc + (L.length + 1)) → ∀ m, ∃ s', l_X8_runScript_38 (m + 1) (nI cc) s = l_X8_runScript_38 m (nI (cc + 1)) s' ∧ RepR s' 27 0 Q1 ∧ s' 26 0 17 = 0 ∧ Wo s s' ∧ CLr L (cc + 1) s' ∧ s' 26 0 21 = nI (cc + 1 + L.length) := by
        intro s R hC h21 m
        obtain ⟨r, s1, e1, R1, t1, w1⟩ := hr1 s R
        refine ⟨s1, ?_, R1, t1, w1, hC.tail (w1.1 37 0 (by simp)), ?_⟩
        · rw [hrrun s m hC h21, e1, qb_I, qb_I, if_pos t1]
        · rw [w1.2 21 (by decide), h21]
          congr 1; omega
      have hW : ∀ {a b c : qS}, Wo a b → Wo b c → Wo a c := fun h h2 => h.trans h2
      rcases s_run L (cc + 1) Q1 W1 (fun i k' vs' hi => hL (i + 1) k' vs' (by simpa using hi)) (by omega) with ⟨Q2, W2, hc2, hr2⟩ | ⟨f, ch, hf, hch, hc2, hr2⟩
      · refine Or.inl ⟨Q2, W2, fun σ m hm H hC h4 => ?_, fun s m hm R hC h21 h17 => ?_⟩
        · simp only [List.length_cons] at hm h4 ⊢
          obtain ⟨m, rfl⟩ : ∃ m', m = m' + 1 := ⟨m - 1, by omega⟩
          obtain ⟨σ1, e1, H1, F1, C1, n1⟩ := hcc σ H hC h4 m
          obtain ⟨σ2, e2, H2, F2⟩ := hc2 σ1 m (by omega) H1 C1 n1
          refine ⟨σ2, ?_, H2, F1.trans F2⟩
          rw [e1, e2, show m + 1 - (L.length + 1) = m - L.length by omega, show cc + (L.length + 1) = cc + 1 + L.length by omega]
        · simp only [List.length_cons] at hm h21 ⊢
          obtain ⟨m, rfl⟩ : ∃ m', m = m' + 1 := ⟨m - 1, by omega⟩
          obtain ⟨s1, e1, R1, t1, w1, C1, n1⟩ := hrr s R hC h21 m
          obtain ⟨s2, e2, R2, t2, w2⟩ := hr2 s1 m (by omega) R1 C1 n1 t1
          refine ⟨s2, ?_, R2, t2, hW w1 w2⟩
          rw [e1, e2, show m + 1 - (L.length + 1) = m - L.length by omega, show cc + (L.length + 1) = cc + 1 + L.length by omega]
      · refine Or.inr ⟨f, ch, by simp only [List.length_cons]; omega, hch, fun σ m hm H hC h4 => ?_, fun s m hm R hC h21 h17 => ?_⟩
        · simp only [List.length_cons] at hm h4
          obtain ⟨m, rfl⟩ : ∃ m', m = m' + 1 := ⟨m - 1, by omega⟩
          obtain ⟨σ1, e1, H1, F1, C1, n1⟩ := hcc σ H hC h4 m
          obtain ⟨σ2, e2, F2⟩ := hc2 σ1 m (by omega) H1 C1 n1
          exact ⟨σ2, by rw [e1, e2], F1.trans F2⟩
        · simp only [List.length_cons] at hm h21
          obtain ⟨m, rfl⟩ : ∃ m', m = m' + 1 := ⟨m - 1, by omega⟩
          obtain ⟨s1, e1, R1, t1, w1, C1, n1⟩ := hrr s R hC h21 m
          obtain ⟨s2, e2, w2⟩ := hr2 s1 m (by omega) R1 C1 n1 t1
          exact ⟨s2, by rw [e1, e2], hW w1 w2⟩
    · refine Or.inr ⟨cc, ch, by simp only [List.length_cons]; omega, hch, fun σ m hm H hC h4 => ?_, fun s m hm R hC h21 h17 => ?_⟩
      · simp only [List.length_cons] at hm h4
        obtain ⟨m, rfl⟩ : ∃ m', m = m' + 1 := ⟨m - 1, by omega⟩
        refine ⟨σ, ?_, Fc.refl σ⟩
        rw [hcrun σ m hC h4, hc1 σ H, qb_I, if_neg (n_nl (z := 46) (y := 46) rfl (by omega) (by omega) hch46), qlet_eq, if_pos (qch_n hch), qlet_eq]
      · simp only [List.length_cons] at hm h21
        obtain ⟨m, rfl⟩ : ∃ m', m = m' + 1 := ⟨m - 1, by omega⟩
        obtain ⟨r, e1⟩ := hr1 s R
        obtain ⟨-, h0, -⟩ := hC 0 k vs rfl
        rw [Nat.add_zero] at h0
        refine ⟨qu s 26 0 17 (nI t), ?_, Wo.thr _ _⟩
        have et : (qu (qu s 26 0 17 (nI t)) 26 0 7 (nI cc)) 26 0 17 = nI t := by rw [qu_at, if_neg (by simp)]; exact thr_at _ _
        have ek : (qu (qu s 26 0 17 (nI t)) 26 0 7 (nI cc)) 37 0 (5 * cc) = nI k := by rw [qu_at, if_neg (by simp), qu_at, if_neg (by simp)]; exact h0
        rw [hrrun s m hC h21, e1, qb_I, qb_I, thr_at, if_neg (n_nl (z := 0) (y := 0) rfl (by omega) (by omega) ht0), qlet_eq, if_pos (n_in (by omega) (by decide)), nI_clamp (by omega), ek, hlf _ et, qb_I, qlet_eq, qlet_eq]
end RS
