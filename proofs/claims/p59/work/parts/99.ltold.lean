/-! THE LAW'S TEXT OF A TASK -/
theorem x_const {σ : qS} (h : qCo σ) {i : Nat} (hi : i < 8) (hl : (qstx.getD i []).length ≤ 1000) (ok : okt (qstx.getD i [])) : TX σ 42 i (qstx.getD i []) := by
  obtain ⟨h1, h2, h3, h4⟩ := h.1 i hi
  refine ⟨h1, h2, h3, hl, ok, fun x v hv => ?_⟩
  have hx : x < (qstx.getD i []).length := by
    rcases Nat.lt_or_ge x (qstx.getD i []).length with h | h
    · exact h
    · rw [List.getElem?_eq_none h] at hv; cases hv
  show σ 44 i x = v
  rw [h4 x hx]
  unfold qsc
  rw [List.getD_eq_getElem?_getD, hv]
  rfl
theorem okt1 {k : Nat} (h : k ≤ 126) : okt [nI k] := okt_one h
theorem x_c0 {σ : qS} (h : qCo σ) : TX σ 42 0 [] := x_const (i := 0) h (by decide) (by decide) okt_nil
theorem x_c1 {σ : qS} (h : qCo σ) : TX σ 42 1 [nI 44] := x_const (i := 1) h (by decide) (by decide) (okt1 (k := 44) (by decide))
theorem x_c2 {σ : qS} (h : qCo σ) : TX σ 42 2 [nI 58] := x_const (i := 2) h (by decide) (by decide) (okt1 (k := 58) (by decide))
theorem x_c3 {σ : qS} (h : qCo σ) : TX σ 42 3 [nI 120] := x_const (i := 3) h (by decide) (by decide) (okt1 (k := 120) (by decide))
theorem x_c4 {σ : qS} (h : qCo σ) : TX σ 42 4 [nI 114] := x_const (i := 4) h (by decide) (by decide) (okt1 (k := 114) (by decide))
theorem x_c5 {σ : qS} (h : qCo σ) : TX σ 42 5 [nI 64] := x_const (i := 5) h (by decide) (by decide) (okt1 (k := 64) (by decide))
theorem x_c6 {σ : qS} (h : qCo σ) : TX σ 42 6 [nI 33] := x_const (i := 6) h (by decide) (by decide) (okt1 (k := 33) (by decide))
theorem x_c7 {σ : qS} (h : qCo σ) : TX σ 42 7 [nI 60] := x_const (i := 7) h (by decide) (by decide) (okt1 (k := 60) (by decide))
/-- what stays in between -/
def TS (σ : qS) (P : qP) (hs : List qP) : Prop := Cl σ P hs ∧ qCo σ ∧ Row σ 3 (pn P) (fun t => nI (pV P t))
section TT
variable {P : qP} {hs : List qP} {σ σ' : qS} {ks : List (Nat × Nat)} {T U : List Int32} {j k jj NB : Nat}
theorem TS.sn (h : TS σ P hs) (q : qsn ks σ σ') (hk : ∀ p ∈ ks, 60 ≤ p.1) : TS σ' P hs := by
  have e : ∀ a b, a < 60 → σ' a b = σ a b := fun a b ha => q a b (fun h2 => by have := hk _ h2; simp only at this; omega)
  refine ⟨h.1.hn q (fun x hx => ?_), h.2.1.put (fun a b hab => e a b (by omega)), h.2.2.tr (e 50 3 (by omega))⟩
  obtain ⟨p, hp, rfl⟩ := List.mem_map.mp hx
  have := hk p hp
  omega
theorem TS.qt (h : TS σ P hs) (q : Qt σ σ') (I : InvB σ' P hs) (S : PlanSt P σ') : TS σ' P hs := ⟨⟨I, S⟩, h.2.1.put (fun a b hab => q.wk a b (by omega)), h.2.2.wk q.wk⟩
theorem k3 : ∀ p ∈ [(62, j), (63, j), (66, 0)], 60 ≤ p.1 := fun p hp => by
  simp only [List.mem_cons, List.not_mem_nil, or_false] at hp
  rcases hp with rfl | rfl | rfl <;> simp
theorem k3t : ∀ p ∈ [(60, j), (61, j), (66, 0)], 60 ≤ p.1 := fun p hp => by
  simp only [List.mem_cons, List.not_mem_nil, or_false] at hp
  rcases hp with rfl | rfl | rfl <;> simp
/-- a short text put behind, with room enough -/
theorem s_text (h : TS σ P hs) (H : BT σ j 16 T) (hk : k = 42 ∨ k = 60) (X : TX σ k jj U) (hl : T.length + U.length ≤ 16) : ∃ σ', f_J4_append_15ec4 0 j k jj σ = some (.inl (some (qR 62 j)), σ') ∧ BT σ' j 16 (T ++ U) ∧ TS σ' P hs ∧ qsn [(62, j), (63, j), (66, 0)] σ σ' := by
  obtain ⟨σ1, e1, H1, q1⟩ := b_text (NB := 0) hk H X (by omega) (fun h2 => by omega) (by decide)
  unfold gcap at H1
  rw [if_pos hl] at H1
  exact ⟨σ1, e1, H1, h.sn q1 k3, q1⟩
theorem s_int (h : TS σ P hs) (H : BT σ j 16 T) {n : Nat} (hn : n < 200) (hl : T.length + dsz n ≤ 16) : ∃ σ', f_J4_append_bf812 0 j (nI n) σ = some (.inl (some (qR 62 j)), σ') ∧ BT σ' j 16 (T ++ dgs n) ∧ TS σ' P hs ∧ qsn [(62, j), (63, j), (66, 0)] σ σ' := by
  obtain ⟨σ1, e1, H1, q1⟩ := b_int (NB := 0) (Dig.of h.2.1) H hn (by omega) (fun h2 => by omega) (by decide)
  unfold gcap at H1
  rw [if_pos hl] at H1
  exact ⟨σ1, e1, H1, h.sn q1 k3, q1⟩
theorem s_init (h : TS σ P hs) (h3 : σ 62 j 3 = 0) : ∃ σ', f_J4_init_da8c8 j σ = qdo σ' ∧ BT σ' j 16 [] ∧ TS σ' P hs ∧ qsn [(62, j), (63, j), (66, 0)] σ σ' := by
  obtain ⟨σ1, e1, H1, q1⟩ := b_init h3
  exact ⟨σ1, e1, H1, h.sn q1 k3, q1⟩
theorem dsz_1 {n : Nat} (h : n < 10) : dsz n = 1 := by unfold dsz; rw [if_neg (by omega), if_neg (by omega)]
theorem dsz_2 {n : Nat} (h : n < 100) : dsz n ≤ 2 := by unfold dsz; rw [if_neg (by omega)]; split <;> omega
theorem dsz_3 (n : Nat) : dsz n ≤ 3 := by unfold dsz; split <;> try split
                                          all_goals omega
end TT
