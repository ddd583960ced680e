/-! the start is as the run wants it: the whole -/
theorem zi_start {J : Nat → Nat × zS5} (hJ : zlim (J 0).2) : Cl (zsg J) (0, (fun _ _ => 0), (fun _ => 10), 0) [] := by
  refine ⟨⟨⟨Nat.zero_le _, fun t h => absurd h (Nat.not_lt_zero t), fun r _ => ?_, ⟨fun _ => 0, fun t u h => absurd h (Nat.not_lt_zero t)⟩, Or.inl rfl, fun _ t h => absurd h (Nat.not_lt_zero t)⟩, ⟨rfl, fun f t _ h => absurd h (Nat.not_lt_zero t), fun r hr => ?_, rfl⟩, ⟨0, Nat.zero_le _, rfl, by decide, rfl, fun i Q h => by simp at h⟩, fun i Q h => by simp at h⟩, Or.inl rfl⟩
  · show 5 ≤ (10 : Int32).toInt ∧ (10 : Int32).toInt ≤ 20
    decide
  · rcases (show r = 0 ∨ r = 1 ∨ r = 2 by omega) with rfl | rfl | rfl
    · exact hJ.1
    · exact hJ.2.1
    · exact hJ.2.2
theorem z_eight {α : Type} {ps : List α} (h : ps.length = 8) : ∃ x0 x1 x2 x3 x4 x5 x6 x7, ps = [x0, x1, x2, x3, x4, x5, x6, x7] := by
  match ps, h with
  | [x0, x1, x2, x3, x4, x5, x6, x7], _ => exact ⟨x0, x1, x2, x3, x4, x5, x6, x7, rfl⟩
theorem z_flags {l : Launch} (h : l.flags = flags0) : l.stackTraces = false := by
  unfold Launch.stackTraces
  rw [h]
  decide +kernel
theorem va_T.ofX {b L : Nat} {xs : Nat → Int32} {U : State} {H : Heap} {A : Nat → Prop} (h : va_X b L xs U H) (hA : ¬ A b) : va_T .int b L (fun j => .int (xs j)) A U H := by
  obtain ⟨scr, h1, h2, h3, h4, h5⟩ := h
  exact ⟨scr, h1, h2, h3, by omega, by rw [h4], h5, hA⟩
theorem whole_start {p : Program} {e : Env} {s : State} {m : MethodId} {below : List Frame} {meth : Method} {c : Code} (l : Launch) (hflags : l.flags = flags0) {b L : Nat} {xs : Nat → Int32} (hL : L ≤ 260) (C0 : lw_At p s m meth c b L xs) : W p l e room_1 s m #[Value.ref b] below meth c s.heap [] 0 0 (lw_Z below #[Value.ref b] s) (entryFrame m ([Value.ref b] : List Value).toArray 8) := by
  obtain ⟨hexec, hcode, hret, hml, hown, ht, hX, hb, hlk, hg⟩ := C0
  obtain ⟨D, tf, hT⟩ := z_zT ht
  obtain ⟨aS, aB, aD, k1, k2, k3, k4, k5, k6, k7⟩ := z_consts hg ht
  have Z : zC p s m c cL_law 8 RL D tf := ⟨hexec, hcode, hml, hown, hT⟩
  have hst := z_flags hflags
  have hl := lv_entry ([.ref b]) (n := 8) (Nat.le_of_ble_eq_true rfl)
  rw [lg_entry_eq]
  generalize (lg_sl ([.ref b]) ++ List.replicate (8 - (lg_sl ([.ref b])).length) Slot.unset).toArray = ls at hl ⊢
  refine (zl_walk (cb := 68198) (sb := 6840525) (Q := lw_Z below #[Value.ref b] s) Z (A := fun q => s.heap.size ≤ q) (fun _ h => h) (fun a u hu => ?_)) ls s.heap [] 0 0 hl (fun k q h => by simp at h) ⟨fun i j x y h => by simp at h, fun k q h => by simp at h⟩ va_S.rf (Nat.le_of_ble_eq_true rfl) (Nat.le_of_ble_eq_true rfl)
  obtain ⟨y0, y1, y2, ⟨h, qs, ps⟩, pn, sc, ou, ky⟩ := u
  obtain ⟨x0, x1, x2, x3, x4, x5, x6, x7, rfl⟩ := z_eight hu.2.2.2.1
  intro ls H locs cells slots a1 a2 a3 a4 a5 a6
  have hq := z_qH (z := s.heap.size) (b := b) (aS := aS) (aB := aB) (aD := aD) (LL := L) (xs := xs) a2 a3 (fun _ h => h)
  have hE : qE ((D, tf, zad (zpj y0 y1 y2 x0 x1 x2 x3 x4 x5 x6 x7) a h qs pn sc ou ky b aS aB aD, s.heap.size, [], L, xs) : qG) s s.heap := ⟨⟨hT.1, hT.2.1, k5, k6, k7, va_AOA.of (ht _ zo_A)⟩, Nat.le_refl _, k1, k2, k3, k4, va_T.ofX hX (by show ¬ s.heap.size ≤ b; omega)⟩
  obtain ⟨σ', he⟩ := law_all (xs := xs) (show L < 2 ^ 31 by omega) (zi_start (J := (zpj y0 y1 y2 x0 x1 x2 x3 x4 x5 x6 x7)) hu.1) (zsg_co _)
  have K := t_L_start (e := e) (below := below) (bq := b) (LL := L) (xs := xs) hst (C0 := ⟨hexec, hcode, hret, hlk⟩) (show qC p l s m meth c cL_law 8 RL ((D, tf, zad (zpj y0 y1 y2 x0 x1 x2 x3 x4 x5 x6 x7) a h qs pn sc ou ky b aS aB aD, s.heap.size, [], L, xs) : qG) from ⟨hexec, hcode, hml, hown, hE, hst, hlk⟩) rfl ⟨rfl, rfl⟩ (zsg (zpj y0 y1 y2 x0 x1 x2 x3 x4 x5 x6 x7)) _ he ls H locs cells slots ⟨a1.1, a1.2.1, fun q hq2 => a1.2.2 q ?_⟩ hq a4 a5 a6
  · intro T hT2 X
    obtain ⟨t, b1, b2⟩ := K T hT2 X
    exact ⟨t, b1, b2 rfl⟩
  · simp only [qlc, List.mem_cons, List.not_mem_nil, or_false] at hq2 ⊢
    rcases hq2 with rfl | rfl
    · exact Or.inr rfl
    · exact Or.inl rfl
