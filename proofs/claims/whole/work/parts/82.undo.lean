/-! undo, save, restore -/
section UN
variable {P P' : qP} {hs hs' : List qP} {sv : qP} {σ σ1 σ2 : qS}
theorem k_undo (h : Inv σ) : CaseL f_L_undo f_X8_undo σ := by
  obtain ⟨P, hs, sv, I, S⟩ := h
  have W := I.1
  have H := I.2.1
  obtain ⟨⟨nx, C⟩, D, hp⟩ := I.2.2.2.1.split
  have hR : ∀ b s, j_X8_undo_13 (qb1 b) s = _ := fun b s => r_goes1 (σ := s) b
  by_cases h0 : hs.length = 0
  · refine casek (k := 1) (b := 0) (σ1 := σ) (σ2 := qu σ 26 0 17 1) (by decide) (by decide) (by unfold f_L_undo f_X7_undo; rw [C.2.1, h0, if_pos (show nI 0 = (0 : Int32) from rfl)]; rfl) I S ?_ (thr_at _ _) (Qr.thr _ _)
    unfold f_X8_undo
    rw [D.2.1, h0, if_pos (by decide)]
    exact hR false σ
  · obtain ⟨k, hk⟩ : ∃ k, hs.length = k + 1 := ⟨hs.length - 1, by omega⟩
    have h8 := C.1
    have hnx := C.2.2.1
    obtain ⟨Q, hQ⟩ : ∃ Q, hs[k]? = some Q := ⟨hs[k], List.getElem?_eq_getElem (by omega)⟩
    have WQ := hp k Q hQ
    have HQ := C.2.2.2.2 k Q hQ
    rw [show (nx + 8 - hs.length + k) % 8 = (nx + 7) % 8 by omega] at HQ
    have hlen : (hs.take k).length = k := by rw [List.length_take]; omega
    have hget : ∀ i Q, (hs.take k)[i]? = some Q → hs[i]? = some Q ∧ i < k := fun i Q hq => by
      rw [List.getElem?_take] at hq
      by_cases hi : i < k
      · rw [if_pos hi] at hq; exact ⟨hq, hi⟩
      · rw [if_neg hi] at hq; cases hq
    have hp' : HP (hs.take k) := fun i Q hq => hp i Q (hget i Q hq).1
    -- the class
    obtain ⟨s1, hs1⟩ : ∃ s1, s1 = qu (qu σ 9 0 2 (nI ((nx + 7) % 8))) 9 0 1 (nI k) := ⟨_, rfl⟩
    have k1 : ∀ a b, ¬ (a = 9 ∧ b = 0) → s1 a b = σ a b := fun a b h => by rw [hs1, qu_other _ h, qu_other _ h]
    have HQ1 : Rep s1 (3 + (nx + 7) % 8) Q := HQ.tr (fun a h1 h2 => k1 a _ (by omega))
    obtain ⟨s2, e2, o2, H2⟩ := c_copy WQ (j0 := 0) (j1 := 3 + (nx + 7) % 8) (by omega) HQ1
    obtain ⟨s3, hs3⟩ : ∃ s3, s3 = qu s2 0 0 8 0 := ⟨_, rfl⟩
    have k3 : ∀ a b, ¬ (a = 0 ∧ b = 0) → s3 a b = s2 a b := fun a b h => by rw [hs3, qu_other _ h]
    have f91 : s1 9 0 1 = nI k := by rw [hs1, qu_at, if_pos ⟨rfl, rfl, rfl⟩]
    have f92 : s1 9 0 2 = nI ((nx + 7) % 8) := by rw [hs1, qu_at, if_neg (by simp), qu_at, if_pos ⟨rfl, rfl, rfl⟩]
    have C3 : HC s3 (hs.take k) ((nx + 7) % 8) := by
      have z9 : s3 9 0 = s1 9 0 := by rw [k3 9 0 (by omega), o2 9 0 (by omega)]
      refine ⟨by omega, by rw [hlen, z9, f91], by omega, by rw [z9, f92], fun i Q' hq => ?_⟩
      obtain ⟨h1, h2⟩ := hget i Q' hq
      have := C.2.2.2.2 i Q' h1
      rw [hlen, show ((nx + 7) % 8 + 8 - k + i) % 8 = (nx + 8 - hs.length + i) % 8 by omega]
      exact this.tr (fun a h1 h2 => by rw [k3 a _ (by omega), o2 a _ (by omega), k1 a _ (by omega)])
    have c3 : Wc σ s3 := ⟨fun a b h1 h2 h3 h4 => by rw [k3 a b h3, o2 a b (by omega), k1 a b h2], fun x hx => by rw [hs3, qu_at, if_neg (fun h => hx h.2.2), o2 0 0 (by omega), k1 0 0 (by omega)]⟩
    have H3 : Rep s3 0 Q := H2.tr (fun a h1 h2 => k3 a 0 (by omega))
    have hmax : qmax (nI hs.length - 1) 0 = nI k := by
      rw [hk, nI_pred]
      refine i_eq ?_
      rw [i_max, nI_toInt (by omega), show (0 : Int32).toInt = 0 from rfl]
      omega
    have htake : f_X2_takeInto 0 σ = qdo s2 := by
      have j19 : ∀ w, w = nI ((nx + 7) % 8) → j_X2_takeInto_19 0 w σ = qdo s2 := fun w hw => by
        unfold j_X2_takeInto_19
        rw [hw, qlet_eq, qlet_eq, show (qu σ 9 0 2 (nI ((nx + 7) % 8))) 9 0 1 = nI hs.length by rw [qu_at, if_neg (by simp), C.2.1], hmax, ← hs1, f92, c_stateAt (by omega), qb_N (by omega), e2, qb_V]
      unfold f_X2_takeInto
      rw [C.2.2.2.1]
      by_cases hz : nx = 0
      · rw [if_pos (by rw [hz]; decide)]
        exact j19 7 (by rw [hz]; rfl)
      · rw [if_neg (by rw [show (0 : Int32) = nI 0 from rfl, n_le (by omega) (by omega)]; omega)]
        refine j19 _ ?_
        obtain ⟨z, hz2⟩ : ∃ z, nx = z + 1 := ⟨nx - 1, by omega⟩
        rw [hz2, nI_pred]
        congr 1
        omega
    refine w_okL (w_ok (r := nI k) (nx := (nx + 7) % 8) I ?_ c3 WQ H3 C3 hp' (Or.inl (by rw [hs3, qu_at, if_pos ⟨rfl, rfl, rfl⟩])) ?_)
    · unfold f_L_undo f_X7_undo
      rw [C.2.1, if_neg (by rw [show (0 : Int32) = nI 0 from rfl, n_eq (by omega) (by omega)]; omega), htake, qb_V, qlet_eq, ← hs3, C3.2.1, hlen]
      rfl
    · -- the reference
      obtain ⟨τ, hτ⟩ : ∃ τ, τ = qu s3 38 0 0 (nI k) := ⟨_, rfl⟩
      rw [← hτ]
      have cc := c3.trans (Wc.out s3 (nI k))
      rw [← hτ] at cc
      have kk : ∀ a b, a = 27 ∨ a = 30 ∨ a = 26 → τ a b = σ a b := fun a b h => cc.1 a b (by omega) (by omega) (by omega) (by simp only [List.mem_cons, List.not_mem_nil, or_false]; omega)
      obtain ⟨t1, ht1⟩ : ∃ t1, t1 = qu (qu τ 26 0 17 0) 26 0 5 (nI k) := ⟨_, rfl⟩
      have kt : ∀ a b, a ≠ 26 → t1 a b = τ a b := fun a b h => by rw [ht1, qu_other _ (fun hh => h hh.1), qu_other _ (fun hh => h hh.1)]
      have R30 : RepR t1 30 (77 * k) Q := ((D.2.2 k Q hQ).tr (kk 30 0 (by omega))).tr (kt 30 0 (by decide))
      obtain ⟨t2, e3, q3, d3, d4⟩ := r_copy (k1 := 30) (k3 := 27) (a := 77 * k) (b := 0) (by decide) (by show 77 * k + 77 ≤ 616; omega) (by decide) (by decide) (by decide) t1
      have f5 : t1 26 0 5 = nI k := by rw [ht1, qu_at, if_pos ⟨rfl, rfl, rfl⟩]
      refine ⟨t2, ?_, R30.cp WQ.1 d3, ⟨by omega, by rw [hlen, q3 26 0 (by simp), f5], fun i Q' hq => ?_⟩, by rw [q3 26 0 (by simp), ht1, qu_at, if_neg (by decide)]; exact thr_at _ _, fun a b h => ?_, fun x h1 h2 => by rw [q3 26 0 (by simp), ht1, qu_at, if_neg (fun h => h2 h.2.2), qu_at, if_neg (fun h => h1 h.2.2)]⟩
      · unfold f_X8_undo
        rw [show τ 26 0 5 = nI hs.length by rw [kk 26 0 (by omega)]; exact D.2.1, if_neg (by rw [show (0 : Int32) = nI 0 from rfl, n_le (by omega) (by omega)]; omega)]
        refine (hR true τ).trans ?_
        rw [if_pos rfl, show (qu τ 26 0 17 0) 26 0 5 = nI hs.length by rw [qu_at, if_neg (by decide), kk 26 0 (by omega)]; exact D.2.1, hk, nI_pred, qlet_eq, ← ht1, f5, show (77 : Int32) = nI 77 from rfl, n_mul, Nat.mul_comm k 77]
        erw [e3]
        rw [qb_V, q3 26 0 (by simp), f5]
      · obtain ⟨h1, h2⟩ := hget i Q' hq
        exact (((D.2.2 i Q' h1).tr (kk 30 0 (by omega))).tr (kt 30 0 (by decide))).tr (q3 30 0 (by simp))
      · simp only [List.mem_cons, List.not_mem_nil, or_false] at h
        rw [q3 a b (by simp only [List.mem_cons, List.not_mem_nil, or_false]; omega), kt a b (by omega)]
theorem k_save (h : Inv σ) : CaseD f_X7_save f_X8_save σ := by
  obtain ⟨P, hs, sv, I, S⟩ := h
  obtain ⟨W, H, R, HH, SS, ⟨n, TT⟩, EE, m, OO⟩ := I
  obtain ⟨s1, e1, o1, H1⟩ := c_copy W (j0 := 2) (j1 := 0) (by decide) H
  obtain ⟨s2, hs2⟩ : ∃ s2, s2 = qu s1 0 0 9 1 := ⟨_, rfl⟩
  have k2 : ∀ a b, ¬ (a = 0 ∧ b = 0) → s2 a b = s1 a b := fun a b h => by rw [hs2, qu_other _ h]
  obtain ⟨t1, e3, q3, d3, d4⟩ := r_copy (k1 := 27) (k3 := 29) (a := 0) (b := 0) (by decide) (by decide) (by decide) (by decide) (by decide) (qu s2 26 0 17 0)
  obtain ⟨t2, ht2⟩ : ∃ t2, t2 = qu t1 26 0 4 1 := ⟨_, rfl⟩
  have kk : ∀ a b, a ≠ 26 → a ≠ 29 → t2 a b = s2 a b := fun a b h1 h2 => by rw [ht2, qu_other _ (fun h => h1 h.1), q3 a b (by simp [h2]), qu_other _ (fun h => h1 h.1)]
  have k : ∀ a b, a ≠ 26 → a ≠ 29 → ¬ (a = 0 ∧ b = 0) → ¬ (1 ≤ a ∧ a ≤ 8 ∧ b = 2) → t2 a b = σ a b := fun a b h1 h2 h3 h4 => by rw [kk a b h1 h2, k2 a b h3, o1 a b h4]
  have y : ∀ x, x ≠ 17 → x ≠ 4 → t2 26 0 x = σ 26 0 x := fun x h1 h2 => by rw [ht2, qu_at, if_neg (fun h => h2 h.2.2), q3 26 0 (by simp), qu_at, if_neg (fun h => h1 h.2.2), k2 26 0 (by omega), o1 26 0 (by omega)]
  have z : ∀ x, x ≠ 9 → t2 0 0 x = σ 0 0 x := fun x hx => by rw [kk 0 0 (by decide) (by decide), hs2, qu_at, if_neg (fun h => hx h.2.2), o1 0 0 (by omega)]
  have z9 : t2 0 0 9 = 1 := by rw [kk 0 0 (by decide) (by decide), hs2, qu_at, if_pos ⟨rfl, rfl, rfl⟩]
  have R2 : RepR (qu s2 26 0 17 0) 27 0 P := (R.tr (by rw [k2 27 0 (by omega), o1 27 0 (by omega)])).tr (qu_other _ (by simp))
  have H2 : Rep t2 2 P := H1.tr (fun a h1 h2 => by rw [kk a 2 (by omega) (by omega), k2 a 2 (by omega)])
  have R29 : RepR t2 29 0 P := (R2.cp W.1 d3 : RepR t1 29 0 P).tr (by rw [ht2, qu_other _ (by simp)])
  have R27 : RepR t2 27 0 P := R.tr (k 27 0 (by decide) (by decide) (by omega) (by omega))
  refine ⟨nI (pn P), s2, t2, ?_, ?_, P, hs, P, ⟨W, H.tr (fun a h1 h2 => k a 0 (by omega) (by omega) (by omega) (by omega)), R27, ?_, ⟨by rw [z9, ht2, qu_at, if_pos ⟨rfl, rfl, rfl⟩], Or.inr ⟨z9, W, H2, R29⟩⟩, ⟨n, TT.tr (by rw [k 19 0 (by decide) (by decide) (by omega) (by omega)]) (y 14 (by decide) (by decide)) (k 20 0 (by decide) (by decide) (by omega) (by omega)) (k 35 0 (by decide) (by decide) (by omega) (by omega))⟩, EE.tr (fun x h1 h2 => z x (by omega)) (fun x h1 h2 => y x (by omega) (by omega)), m, OO.tr (by rw [k 23 0 (by decide) (by decide) (by omega) (by omega)]) (y 16 (by decide) (by decide)) (k 24 0 (by decide) (by decide) (by omega) (by omega)) (k 36 0 (by decide) (by decide) (by omega) (by omega))⟩, ?_⟩
  · unfold f_X7_save
    rw [e1, qb_V, qlet_eq, ← hs2, k2 1 0 (by omega), o1 1 0 (by omega), H.1]
  · unfold f_X8_save
    rw [qlet_eq, show (0 : Int32) = nI 0 from rfl]
    rw [show nI 0 = (0 : Int32) from rfl] at *
    erw [e3]
    rw [qb_V, qlet_eq, ← ht2, show t2 27 0 0 = nI (pn P) from R27.1]
  · obtain ⟨a1, a2, a3, a4, nx, a5, a6, a7⟩ := HH
    exact ⟨a1, by rw [k 9 0 (by decide) (by decide) (by omega) (by omega)]; exact a2, by rw [y 5 (by decide) (by decide)]; exact a3, fun i Q hQ => ⟨(a4 i Q hQ).1, (a4 i Q hQ).2.tr (k 30 0 (by decide) (by decide) (by omega) (by omega))⟩, nx, a5, by rw [k 9 0 (by decide) (by decide) (by omega) (by omega)]; exact a6, fun i Q hQ => (a7 i Q hQ).tr (fun a h1 h2 => k a _ (by omega) (by omega) (by omega) (by omega))⟩
  · unfold PlanSt
    rw [z 8 (by decide)]
    refine S.elim Or.inl (fun h => Or.inr ⟨h.1, ?_⟩)
    have e : ∀ a, 11 ≤ a → a ≤ 18 → t2 a 0 = σ a 0 := fun a h1 h2 => k a 0 (by omega) (by omega) (by omega) (by omega)
    obtain ⟨a1, a2, a3, a4, a5, ⟨a6, a7⟩, a8, a9⟩ := h.2
    exact ⟨fun k hk => by rw [e 12 (by omega) (by omega)]; exact a1 k hk, fun x hx u => by rw [e 13 (by omega) (by omega)]; exact a2 x hx u, fun t ht => by rw [e 14 (by omega) (by omega)]; exact a3 t ht, fun t ht => by rw [e 15 (by omega) (by omega)]; exact a4 t ht, fun t ht => by rw [e 16 (by omega) (by omega)]; exact a5 t ht, ⟨fun t ht hx => by rw [e 17 (by omega) (by omega)]; exact a6 t ht hx, fun r d hr hd => by rw [e 18 (by omega) (by omega)]; exact a7 r d hr hd⟩, by rw [e 11 (by omega) (by omega)]; exact a8, by rw [e 11 (by omega) (by omega)]; exact a9⟩
theorem k_restore (h : Inv σ) : CaseL f_L_restore f_X8_restore σ := by
  obtain ⟨P, hs, sv, I, S⟩ := h
  have W := I.1
  obtain ⟨⟨nx, C⟩, D, hp⟩ := I.2.2.2.1.split
  obtain ⟨h94, hsv⟩ := I.2.2.2.2.1
  rcases hsv with h0 | ⟨h1, Wv, Hv, Rv⟩
  · refine casek (k := 1) (b := 0) (σ1 := σ) (σ2 := qu σ 26 0 17 1) (by decide) (by decide) (by unfold f_L_restore f_X7_restore; rw [if_pos h0]; rfl) I S ?_ (thr_at _ _) (Qr.thr _ _)
    unfold f_X8_restore
    rw [← h94, h0]
    exact r_goes1 (σ := σ) false
  · obtain ⟨s2, e2, o2, H2⟩ := c_copy Wv (j0 := 0) (j1 := 2) (by decide) Hv
    obtain ⟨s3, hs3⟩ : ∃ s3, s3 = qu (qu s2 0 0 8 0) 9 0 1 0 := ⟨_, rfl⟩
    have k3 : ∀ a b, ¬ (a = 0 ∧ b = 0) → ¬ (a = 9 ∧ b = 0) → s3 a b = s2 a b := fun a b h h9 => by rw [hs3, qu_other _ h9, qu_other _ h]
    have C3 : HC s3 [] nx := ⟨by decide, by rw [hs3, qu_at, if_pos ⟨rfl, rfl, rfl⟩]; rfl, C.2.2.1, by rw [hs3, qu_at, if_neg (by simp), qu_at, if_neg (by simp), o2 9 0 (by omega)]; exact C.2.2.2.1, fun i Q hq => by simp at hq⟩
    have c3 : Wc σ s3 := ⟨fun a b h1 h2 h3 h4 => by rw [k3 a b h3 h2, o2 a b (by omega)], fun x hx => by rw [hs3, qu_at, if_neg (by simp), qu_at, if_neg (fun h => hx h.2.2), o2 0 0 (by omega)]⟩
    have H3 : Rep s3 0 sv := H2.tr (fun a h1 h2 => k3 a 0 (by omega) (by omega))
    have hp' : HP [] := fun i Q hq => by simp at hq
    refine w_okL (w_ok (r := nI (pn sv)) (nx := nx) (hs' := []) I ?_ c3 Wv H3 C3 hp' (Or.inl (by rw [hs3, qu_at, if_neg (by simp), qu_at, if_pos ⟨rfl, rfl, rfl⟩])) ?_)
    · unfold f_L_restore f_X7_restore f_X2_clear
      rw [h1, if_neg (by decide), e2, qb_V, qlet_eq, qlet_eq, qb_V, ← hs3, H3.1]
      rfl
    · obtain ⟨τ, hτ⟩ : ∃ τ, τ = qu s3 38 0 0 (nI (pn sv)) := ⟨_, rfl⟩
      rw [← hτ]
      have cc := c3.trans (Wc.out s3 (nI (pn sv)))
      rw [← hτ] at cc
      have kk : ∀ a b, a = 29 ∨ a = 26 → τ a b = σ a b := fun a b h => cc.1 a b (by omega) (by omega) (by omega) (by simp only [List.mem_cons, List.not_mem_nil, or_false]; omega)
      have R29 : RepR (qu τ 26 0 17 0) 29 0 sv := (Rv.tr (kk 29 0 (by omega))).tr (qu_other _ (by simp))
      obtain ⟨t2, e3, q3, d3, d4⟩ := r_copy (k1 := 29) (k3 := 27) (a := 0) (b := 0) (by decide) (by decide) (by decide) (by decide) (by decide) (qu τ 26 0 17 0)
      have R27 : RepR (qu t2 26 0 5 0) 27 0 sv := (R29.cp Wv.1 d3 : RepR t2 27 0 sv).tr (qu_other _ (by simp))
      refine ⟨qu t2 26 0 5 0, ?_, R27, ⟨by decide, by rw [qu_at, if_pos ⟨rfl, rfl, rfl⟩]; rfl, fun i Q hq => by simp at hq⟩, by rw [qu_at, if_neg (by decide), q3 26 0 (by simp)]; exact thr_at _ _, fun a b h => ?_, fun x h1 h2 => by rw [qu_at, if_neg (fun h => h2 h.2.2), q3 26 0 (by simp), qu_at, if_neg (fun h => h1 h.2.2)]⟩
      · unfold f_X8_restore
        rw [show τ 26 0 4 = 1 by rw [kk 26 0 (by omega), ← h94, h1]]
        refine (r_goes1 (σ := τ) true).trans ?_
        rw [if_pos rfl]
        erw [e3]
        rw [qb_V, qlet_eq, show (qu t2 26 0 5 0) 27 0 0 = nI (pn sv) from R27.1]
      · simp only [List.mem_cons, List.not_mem_nil, or_false] at h
        rw [qu_other _ (by omega), q3 a b (by simp only [List.mem_cons, List.not_mem_nil, or_false]; omega), qu_other _ (by omega)]
end UN
