/-! CELLS MADE ON THE WAY: their names are bound anew -/
/-- (a, b) is none of these names -/
def qnd (a b : Nat) : List (Nat × Nat) → Prop
  | [] => True
  | q :: t => ¬ (a = q.1 ∧ b = q.2) ∧ qnd a b t
theorem qnd_n {a b : Nat} : qnd a b [] := trivial
theorem qnd_c {a b k j : Nat} {t : List (Nat × Nat)} (h : ¬ (a = k ∧ b = j)) (h2 : qnd a b t) : qnd a b ((k, j) :: t) := ⟨h, h2⟩
theorem qnd_iff {a b : Nat} : ∀ {D : List (Nat × Nat)}, qnd a b D ↔ (a, b) ∉ D
  | [] => by simp [qnd]
  | q :: t => by
    obtain ⟨k, j⟩ := q
    simp only [qnd, List.mem_cons, not_or, Prod.mk.injEq, qnd_iff (D := t)]
theorem qnd_sub {a b : Nat} {D D' : List (Nat × Nat)} (hs : ∀ q ∈ D', q ∈ D) (h : qnd a b D) : qnd a b D' := qnd_iff.mpr fun h2 => qnd_iff.mp h (hs _ h2)
def qfq (D : List (Nat × Nat)) (v : qA) : Prop := match v with
  | .inl _ => True
  | .inr q => qnd q.1 q.2 D
def qfL (D : List (Nat × Nat)) (L : List (Option qA)) : Prop := ∀ v : qA, some v ∈ L → qfq D v
def qfS (D : List (Nat × Nat)) (st : List qA) : Prop := ∀ v ∈ st, qfq D v
section QF
variable {D : List (Nat × Nat)} {L : List (Option qA)} {st : List qA}
theorem qfL_n : qfL D [] := fun v h => by cases h
theorem qfL_o (h : qfL D L) : qfL D (none :: L) := fun v hv => by
  rcases List.mem_cons.mp hv with h2 | h2
  · cases h2
  · exact h v h2
theorem qfL_i {x : Value} (h : qfL D L) : qfL D (some (.inl x) :: L) := fun v hv => by
  rcases List.mem_cons.mp hv with h2 | h2
  · cases h2; trivial
  · exact h v h2
theorem qfL_r {a b : Nat} (h0 : qnd a b D) (h : qfL D L) : qfL D (some (.inr (a, b)) :: L) := fun v hv => by
  rcases List.mem_cons.mp hv with h2 | h2
  · cases h2; exact h0
  · exact h v h2
theorem qfS_n : qfS D [] := fun v h => by cases h
theorem qfS_i {x : Value} (h : qfS D st) : qfS D (.inl x :: st) := fun v hv => by
  rcases List.mem_cons.mp hv with h2 | h2
  · subst h2; trivial
  · exact h v h2
theorem qfS_r {a b : Nat} (h0 : qnd a b D) (h : qfS D st) : qfS D (.inr (a, b) :: st) := fun v hv => by
  rcases List.mem_cons.mp hv with h2 | h2
  · subst h2; exact h0
  · exact h v h2
end QF
/-- g1 is g, but for the names D, which may be bound anew -/
def qEv (D : List (Nat × Nat)) (g g1 : qG) : Prop := g1.1 = g.1 ∧ g1.2.1 = g.2.1 ∧ g1.2.2.2.1 = g.2.2.2.1 ∧ g1.2.2.2.2.2 = g.2.2.2.2.2 ∧ (∀ a b, a < 50 → g1.2.2.1 a b = g.2.2.1 a b) ∧ (∀ a b, qnd a b D → g1.2.2.1 a b = g.2.2.1 a b) ∧ ∀ a b, qnd a b D → (a, b) ∈ qX9 g → (a, b) ∈ qX9 g1
section QEV
variable {D D' : List (Nat × Nat)} {g g1 g2 : qG}
theorem qEv.refl (g : qG) : qEv D g g := ⟨rfl, rfl, rfl, rfl, fun _ _ _ => rfl, fun _ _ _ => rfl, fun _ _ _ h => h⟩
theorem qEv.tr (h : qEv D g g1) (h2 : qEv D' g1 g2) (hs : ∀ q ∈ D', q ∈ D) : qEv D g g2 :=
  ⟨h2.1.trans h.1, h2.2.1.trans h.2.1, h2.2.2.1.trans h.2.2.1, h2.2.2.2.1.trans h.2.2.2.1, fun a b ha => (h2.2.2.2.2.1 a b ha).trans (h.2.2.2.2.1 a b ha), fun a b hd => (h2.2.2.2.2.2.1 a b (qnd_sub hs hd)).trans (h.2.2.2.2.2.1 a b hd), fun a b hd hx => h2.2.2.2.2.2.2 a b (qnd_sub hs hd) (h.2.2.2.2.2.2 a b hd hx)⟩
theorem qEv.live (h : qEv D g g1) {a b : Nat} (hx : (a, b) ∈ qX9 g) (hd : qnd a b D) : (a, b) ∈ qX9 g1 := h.2.2.2.2.2.2 a b hd hx
theorem qEv.Af (h : qEv D g g1) : qAf g1 = qAf g := by
  funext q
  show (g1.2.2.2.1 ≤ q) = (g.2.2.2.1 ≤ q)
  rw [h.2.2.1]
theorem qEv.cv (h : qEv D g g1) {v : qA} (hv : qfq D v) : qcv g1 v = qcv g v := by
  cases v with
  | inl x => rfl
  | inr q => exact congrArg Value.ref (h.2.2.2.2.2.1 q.1 q.2 hv)
theorem qEv.map (h : qEv D g g1) {st : List qA} (hs : qfS D st) : st.map (qcv g1) = st.map (qcv g) := List.map_congr_left fun v hv => h.cv (hs v hv)
theorem qEv.Ls (h : qEv D g g1) {ls : Array Slot} {nL : Nat} {L : List (Option qA)} (hL : qfL D L) (h1 : qLs g ls nL L) : qLs g1 ls nL L := by
  refine ⟨h1.1, h1.2.1, fun q hq => ?_⟩
  obtain ⟨i, v, e1, e2, e3⟩ := qlc_mem g1 L 0 q hq
  rw [Nat.zero_add] at e1
  rw [e1, e3, h.cv (hL v (List.mem_of_getElem? e2))]
  exact h1.at e2
theorem qEv.Kt (h : qEv D g g1) {U : State} (K : qKt g U) : qKt g1 U := by
  obtain ⟨e1, e2, -, -, e5, -⟩ := h
  unfold qKt qtys at K ⊢
  rw [e1, e2]
  simp only [e5 42 _ (by decide)]
  exact K
theorem qEv.K (h : qEv D g g1) {U : State} {H : Heap} (K : qK g U H) : qK g1 U H := by
  have eA := h.Af
  obtain ⟨e1, e2, e3, e4, e5, -⟩ := h
  unfold qK qkS qkG qkC qkX qkL at K ⊢
  rw [eA]
  simp only [e5 42 _ (by decide), e5 44 _ (by decide), e5 45 _ (by decide), e5 46 _ (by decide), qLL, qxs, e4]
  exact K
theorem qEv.E (h : qEv D g g1) {U : State} {H : Heap} (K : qE g U H) : qE g1 U H := ⟨h.Kt K.1, by rw [h.2.2.1]; exact K.2.1, h.K K.2.2⟩
theorem qEv.C {p : Program} {l : Launch} {s : State} {m : MethodId} {meth : Method} {c : Code} {cc : ByteArray} {nL : Nat} {own : String} (h : qEv D g g1) (C : qC p l s m meth c cc nL own g) : qC p l s m meth c cc nL own g1 := ⟨C.1, C.2.1, C.2.2.1, C.2.2.2.1, h.E C.2.2.2.2.1, C.2.2.2.2.2⟩
end QEV
/-- which names a cell's entry looks at -/
def qdep (k j : Nat) : List (Nat × Nat) := if k = 52 then [(50, 4), (50, 5), (50, 6)] else if k = 60 then [(61, j)] else if k = 62 then [(63, j)] else []
theorem qsh9 {k : Nat} (h : qsh k = 9) : k = 52 := by unfold qsh at h; split at h <;> simp_all
theorem qsh10 {k : Nat} (h : qsh k = 10) : k = 60 := by unfold qsh at h; split at h <;> simp_all
theorem qsh_in (k : Nat) : qsh k = 0 ∨ qsh k = 1 ∨ qsh k = 2 ∨ qsh k = 3 ∨ qsh k = 4 ∨ qsh k = 7 ∨ qsh k = 8 ∨ qsh k = 9 ∨ qsh k = 10 ∨ qsh k = 11 ∨ (qsh k = 12 ∧ k = 62) := by unfold qsh; split <;> simp
theorem qfs_lo (k : Nat) : ∀ f ∈ qfs k, ∀ q : Nat × Nat, f = some q → q.1 < 50 := by
  unfold qfs
  split <;> (intro f hf q hq; subst hq; simp at hf) <;> (try (rcases hf with h | h | h | h | h | h | h | h <;> subst h <;> decide)) <;> (try (rcases hf with h | h | h | h | h | h | h <;> subst h <;> decide)) <;> (try (rcases hf with h | h | h <;> subst h <;> decide)) <;> (try (subst hf; decide))
theorem qfl_ev {D : List (Nat × Nat)} {g g1 : qG} (h : qEv D g g1) (j : Nat) (r : Nat → Int32) : ∀ (l : List (Option (Nat × Nat))) (n : Nat), (∀ f ∈ l, ∀ q : Nat × Nat, f = some q → q.1 < 50) → qfl g1 j r n l = qfl g j r n l
  | [], _, _ => rfl
  | f :: t, n, hl => by
    simp only [qfl]
    rw [qfl_ev h j r t (n + 1) (fun x hx => hl x (List.mem_cons_of_mem _ hx))]
    congr 1
    cases f with
    | none => rfl
    | some q => exact congrArg Value.ref (h.2.2.2.2.1 _ _ (hl _ List.mem_cons_self q rfl))
theorem qent_ev {D : List (Nat × Nat)} {g g1 : qG} (h : qEv D g g1) {k j : Nat} {r : Nat → Int32} (hd : ∀ q ∈ qdep k j, qnd q.1 q.2 D) : qent g1 k j r = qent g k j r := by
  have e2 := h.2.1
  have e5 := h.2.2.2.2.1
  rcases qsh_in k with hs | hs | hs | hs | hs | hs | hs | hs | hs | hs | ⟨hs, hk⟩
  · rw [qent0 hs, qent0 hs, qfl_ev h j r _ _ (qfs_lo k)]
  · rw [qent1 hs, qent1 hs, e2]
  · rw [qent2 hs, qent2 hs, e2]
  · rw [qent3 hs, qent3 hs, e2]; simp only [e5 1 _ (by decide)]
  · rw [qent4 hs, qent4 hs, e2]; simp only [e5 40 _ (by decide)]
  · rw [qent7 hs, qent7 hs, e2]
  · rw [qent8 hs, qent8 hs, e2]
  · have hk := qsh9 hs
    subst hk
    rw [qent9 hs, qent9 hs, e2]
    have e : ∀ i, i < 3 → g1.2.2.1 50 (4 + i) = g.2.2.1 50 (4 + i) := fun i hi => h.2.2.2.2.2.1 _ _ (by
      rcases (show i = 0 ∨ i = 1 ∨ i = 2 by omega) with rfl | rfl | rfl
      · exact hd (50, 4) (by simp [qdep])
      · exact hd (50, 5) (by simp [qdep])
      · exact hd (50, 6) (by simp [qdep]))
    congr 7
    funext i
    by_cases hi : i < 3
    · rw [if_pos hi, if_pos hi, e i hi]
    · rw [if_neg hi, if_neg hi]
  · have hk := qsh10 hs
    subst hk
    rw [qent10 hs, qent10 hs, h.2.2.2.2.2.1 61 j (hd (61, j) (by simp [qdep]))]
  · rw [qent11 hs, qent11 hs, e2]
  · subst hk
    rw [qent12 hs, qent12 hs, h.2.2.2.2.2.1 63 j (hd (63, j) (by simp [qdep]))]
/-- the world, name by name -/
def qHp (g : qG) (σ : qS) (H : Heap) (c : List (Nat × Nat)) : Prop := (∀ q ∈ c, va_at g.1 qcls (g.2.2.1 q.1 q.2, qent g q.1 q.2 (σ q.1 q.2)) H) ∧ (∀ q ∈ c, ∀ q' ∈ c, g.2.2.1 q.1 q.2 = g.2.2.1 q'.1 q'.2 → q = q') ∧ (∀ q ∈ c, qAf g (g.2.2.1 q.1 q.2)) ∧ c.Nodup
theorem qws_get {g : qG} {σ : qS} {i : Nat} {q : Nat × Nat} (h : (qcl ++ qX9 g)[i]? = some q) : (qws g σ)[i]? = some (g.2.2.1 q.1 q.2, qent g q.1 q.2 (σ q.1 q.2)) := by
  unfold qws
  rw [List.getElem?_map, h]
  rfl
theorem qHp.of {g : qG} {σ : qS} {H : Heap} (h : qH g σ H) : qHp g σ H (qcl ++ qX9 g) := by
  obtain ⟨h1, h2, -⟩ := h
  refine ⟨fun q hq => ?_, fun q hq q' hq' e => ?_, fun q hq => ?_, ?_⟩
  · obtain ⟨i, hi⟩ := List.getElem?_of_mem hq
    exact h1 i _ (qws_get hi)
  · obtain ⟨i, hi⟩ := List.getElem?_of_mem hq
    obtain ⟨j, hj⟩ := List.getElem?_of_mem hq'
    have := h2.1 i j _ _ (qws_get (σ := σ) hi) (qws_get (σ := σ) hj) e
    subst this
    exact Option.some.inj (hi.symm.trans hj)
  · obtain ⟨i, hi⟩ := List.getElem?_of_mem hq
    exact h2.2 i _ (qws_get (σ := σ) hi)
  · refine List.pairwise_iff_getElem.mpr fun i j hi hj hij he => ?_
    have e1 : (qcl ++ qX9 g)[i]? = some (qcl ++ qX9 g)[i] := List.getElem?_eq_getElem hi
    have e2 : (qcl ++ qX9 g)[j]? = some (qcl ++ qX9 g)[j] := List.getElem?_eq_getElem hj
    have := h2.1 i j _ _ (qws_get (σ := σ) e1) (qws_get (σ := σ) e2) (by rw [he])
    omega
theorem qHp.to {g : qG} {σ : qS} {H : Heap} (h : qHp g σ H (qcl ++ qX9 g)) (hc : qCo σ) : qH g σ H := by
  obtain ⟨h1, h2, h3, h4⟩ := h
  have key : ∀ (k : Nat) (x : Nat × va_E), (qws g σ)[k]? = some x → ∃ q, (qcl ++ qX9 g)[k]? = some q ∧ x = (g.2.2.1 q.1 q.2, qent g q.1 q.2 (σ q.1 q.2)) := by
    intro k x hx
    unfold qws at hx
    rw [List.getElem?_map] at hx
    cases hq : (qcl ++ qX9 g)[k]? with
    | none => rw [hq] at hx; cases hx
    | some q => rw [hq] at hx; exact ⟨q, rfl, (Option.some.inj hx).symm⟩
  refine ⟨fun k x hx => ?_, ⟨fun i j x y hx hy hxy => ?_, fun k x hx => ?_⟩, hc⟩
  · obtain ⟨q, hq, rfl⟩ := key k x hx
    exact h1 q (List.mem_of_getElem? hq)
  · obtain ⟨q, hq, rfl⟩ := key i x hx
    obtain ⟨q', hq', rfl⟩ := key j y hy
    have e := h2 q (List.mem_of_getElem? hq) q' (List.mem_of_getElem? hq') hxy
    subst e
    obtain ⟨li, ei⟩ := List.getElem?_eq_some_iff.mp hq
    obtain ⟨lj, ej⟩ := List.getElem?_eq_some_iff.mp hq'
    have hp := List.pairwise_iff_getElem.mp h4
    rcases Nat.lt_trichotomy i j with hl | hl | hl
    · exact absurd (ei.trans ej.symm) (hp i j li lj hl)
    · exact hl
    · exact absurd (ej.trans ei.symm) (hp j i lj li hl)
  · obtain ⟨q, hq, rfl⟩ := key k x hx
    exact h3 q (List.mem_of_getElem? hq)
theorem qcl_lo {q : Nat × Nat} (h : q ∈ qcl) : q.1 < 26 := by
  obtain ⟨k, hk, h⟩ := List.mem_flatMap.mp h
  obtain ⟨j, -, rfl⟩ := List.mem_map.mp h
  exact List.mem_range.mp hk
/-- one row is another -/
def qrw (σ : qS) (k j : Nat) (r : Nat → Int32) : qS := fun a b => if a = k ∧ b = j then r else σ a b
theorem qrw_at (σ : qS) (k j : Nat) (r : Nat → Int32) : qrw σ k j r k j = r := by simp [qrw]
theorem qrw_ne (σ : qS) {k j a b : Nat} (r : Nat → Int32) (h : ¬ (a = k ∧ b = j)) : qrw σ k j r a b = σ a b := by simp [qrw, h]
theorem qCo.rw {σ : qS} {k j : Nat} {r : Nat → Int32} (h : qCo σ) (hk : 50 ≤ k) : qCo (qrw σ k j r) := h.put (fun a b ha => qrw_ne σ r (by omega))
/-- a name is bound to an address -/
def qbd (g : qG) (k j a : Nat) : qG := (g.1, g.2.1, fun x y => if x = k ∧ y = j then a else g.2.2.1 x y, g.2.2.2.1, (qX9 g).filter (fun q => decide (q ≠ (k, j))) ++ [(k, j)], g.2.2.2.2.2)
theorem qbd_ev {g : qG} {k j a : Nat} (hk : 50 ≤ k) : qEv [(k, j)] g (qbd g k j a) := by
  refine ⟨rfl, rfl, rfl, rfl, fun x y hx => ?_, fun x y hd => ?_, fun x y hd hx => ?_⟩
  · show (if x = k ∧ y = j then a else _) = _
    rw [if_neg (by omega)]
  · show (if x = k ∧ y = j then a else _) = _
    rw [if_neg hd.1]
  · show (x, y) ∈ _ ++ _
    refine List.mem_append_left _ (List.mem_filter.mpr ⟨hx, decide_eq_true (fun e => hd.1 ⟨congrArg Prod.fst e, congrArg Prod.snd e⟩)⟩)
theorem qbd_in {g : qG} {k j a : Nat} : (k, j) ∈ qX9 (qbd g k j a) := List.mem_append_right _ List.mem_cons_self
theorem qH_bindW {g : qG} {σ : qS} {H H1 : Heap} {k j a : Nat} {r : Nat → Int32} (h : qH g σ H) (hk : 50 ≤ k) (hdep : ¬ k = 61 ∧ ¬ k = 63 ∧ ¬ (k = 50 ∧ 4 ≤ j ∧ j ≤ 6)) (hold : ∀ (i : Nat) (y : Nat × va_E), (qws g σ)[i]? = some y → va_at g.1 qcls y H1) (hne : ∀ (i : Nat) (y : Nat × va_E), (qws g σ)[i]? = some y → y.1 ≠ a) (hb : qAf g a) (hat : va_at g.1 qcls (a, qent (qbd g k j a) k j r) H1) : qH (qbd g k j a) (qrw σ k j r) H1 := by
  have P := qHp.of h
  obtain ⟨h1, h2, h3, h4⟩ := P
  have hx : ∀ q ∈ qcl ++ (qX9 g).filter (fun q => decide (q ≠ (k, j))), q ∈ qcl ++ qX9 g ∧ q ≠ (k, j) := by
    intro q hq
    rcases List.mem_append.mp hq with hq | hq
    · refine ⟨List.mem_append_left _ hq, fun e => ?_⟩
      have := qcl_lo hq
      rw [e] at this
      omega
    · obtain ⟨hq, e⟩ := List.mem_filter.mp hq
      exact ⟨List.mem_append_right _ hq, by simpa using e⟩
  have hsp : qcl ++ qX9 (qbd g k j a) = (qcl ++ (qX9 g).filter (fun q => decide (q ≠ (k, j)))) ++ [(k, j)] := by
    rw [List.append_assoc]; rfl
  have ho : ∀ q : Nat × Nat, q ≠ (k, j) → ¬ (q.1 = k ∧ q.2 = j) := fun q hq e => hq (Prod.ext e.1 e.2)
  have had : ∀ q : Nat × Nat, q ≠ (k, j) → (qbd g k j a).2.2.1 q.1 q.2 = g.2.2.1 q.1 q.2 := fun q hq => if_neg (ho q hq)
  have haa : (qbd g k j a).2.2.1 k j = a := if_pos ⟨rfl, rfl⟩
  have hlt : ∀ q ∈ qcl ++ qX9 g, g.2.2.1 q.1 q.2 ≠ a := fun q hq => by
    obtain ⟨i, hi⟩ := List.getElem?_of_mem hq
    exact hne i _ (qws_get hi)
  have hal : ∀ q ∈ qcl ++ qX9 g, va_at g.1 qcls (g.2.2.1 q.1 q.2, qent g q.1 q.2 (σ q.1 q.2)) H1 := fun q hq => by
    obtain ⟨i, hi⟩ := List.getElem?_of_mem hq
    exact hold i _ (qws_get hi)
  refine qHp.to ⟨fun q hq => ?_, fun q hq q' hq' e => ?_, fun q hq => ?_, ?_⟩ (h.2.2.rw hk)
  · rw [hsp] at hq
    rcases List.mem_append.mp hq with hq | hq
    · obtain ⟨hm, hne⟩ := hx q hq
      rw [had q hne, qrw_ne σ r (ho q hne), qent_ev (qbd_ev (a := a) (j := j) (g := g) hk) (fun x hx => ?_)]
      · exact hal q hm
      · refine qnd_c (fun e => ?_) qnd_n
        unfold qdep at hx
        split at hx
        · simp only [List.mem_cons, List.not_mem_nil, or_false] at hx
          rcases hx with hx | hx | hx <;> (rw [hx] at e; simp at e; omega)
        · split at hx
          · simp only [List.mem_cons, List.not_mem_nil, or_false] at hx
            rw [hx] at e; simp at e; omega
          · split at hx
            · simp only [List.mem_cons, List.not_mem_nil, or_false] at hx
              rw [hx] at e; simp at e; omega
            · cases hx
    · rw [List.mem_singleton.mp hq]
      rw [haa, qrw_at]
      exact hat
  · rw [hsp] at hq hq'
    rcases List.mem_append.mp hq with hq | hq
    · obtain ⟨hm, hne⟩ := hx q hq
      rcases List.mem_append.mp hq' with hq' | hq'
      · obtain ⟨hm', hne'⟩ := hx q' hq'
        rw [had q hne, had q' hne'] at e
        exact h2 q hm q' hm' e
      · rw [List.mem_singleton.mp hq'] at e
        rw [had q hne, haa] at e
        exact absurd e (hlt q hm)
    · rw [List.mem_singleton.mp hq] at e ⊢
      rcases List.mem_append.mp hq' with hq' | hq'
      · obtain ⟨hm', hne'⟩ := hx q' hq'
        rw [had q' hne', haa] at e
        exact absurd e.symm (hlt q' hm')
      · rw [List.mem_singleton.mp hq']
  · rw [hsp] at hq
    rcases List.mem_append.mp hq with hq | hq
    · obtain ⟨hm, hne⟩ := hx q hq
      rw [had q hne]
      exact h3 q hm
    · rw [List.mem_singleton.mp hq, haa]
      exact hb
  · rw [hsp]
    refine List.nodup_append.mpr ⟨?_, by simp, fun x hx1 y hy e => ?_⟩
    · have h5 := List.nodup_append.mp h4
      refine List.nodup_append.mpr ⟨h5.1, h5.2.1.filter _, fun x hx1 y hy => h5.2.2 x hx1 y (List.mem_filter.mp hy).1⟩
    · rw [List.mem_singleton.mp hy] at e
      exact (hx x hx1).2 e
