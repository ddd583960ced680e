/-! the start is as the run wants it: the whole -/
theorem zi_start {J : Nat → Nat × zS5} {v : zS5} (hJ : zlim (J 0).2) (hv : v.2 0 = 0 ∧ v.2 1 = 0 ∧ v.2 2 = 10 ∧ v.2 3 = 10 ∧ v.2 4 = 10) : Inv (zsg J v) := by
  refine ⟨(0, (fun _ _ => 0), (fun _ => 10), 0), [], (0, (fun _ _ => 0), (fun _ => 10), 0), ⟨⟨Nat.zero_le _, fun t h => absurd h (Nat.not_lt_zero t), fun r _ => ?_, ⟨fun _ => 0, fun t u h => absurd h (Nat.not_lt_zero t)⟩, Or.inl rfl, fun _ t h => absurd h (Nat.not_lt_zero t)⟩, ⟨rfl, fun f t _ h => absurd h (Nat.not_lt_zero t), fun r hr => ?_, rfl⟩, ⟨hv.1, hv.2.1, fun r hr => ?_, fun f t _ h => absurd h (Nat.not_lt_zero t)⟩, ⟨Nat.zero_le _, rfl, rfl, fun i Q h => by simp at h, 0, by decide, rfl, fun i Q h => by simp at h⟩, ⟨rfl, Or.inl rfl⟩, ⟨0, Nat.zero_le _, rfl, rfl, fun i h => absurd h (Nat.not_lt_zero i)⟩, ⟨rfl, rfl, fun h => absurd rfl h⟩, ⟨0, Nat.zero_le _, rfl, rfl, fun i h => absurd h (Nat.not_lt_zero i)⟩⟩, Or.inl rfl⟩
  · show 5 ≤ (10 : Int32).toInt ∧ (10 : Int32).toInt ≤ 20
    decide
  · rcases (show r = 0 ∨ r = 1 ∨ r = 2 by omega) with rfl | rfl | rfl
    · exact hJ.1
    · exact hJ.2.1
    · exact hJ.2.2
  · rcases (show r = 0 ∨ r = 1 ∨ r = 2 by omega) with rfl | rfl | rfl
    · exact hv.2.2.1
    · exact hv.2.2.2.1
    · exact hv.2.2.2.2
theorem z_eight {α : Type} {ps : List α} (h : ps.length = 8) : ∃ x0 x1 x2 x3 x4 x5 x6 x7, ps = [x0, x1, x2, x3, x4, x5, x6, x7] := by
  match ps, h with
  | [x0, x1, x2, x3, x4, x5, x6, x7], _ => exact ⟨x0, x1, x2, x3, x4, x5, x6, x7, rfl⟩
theorem z_flags {l : Launch} (h : l.flags = flags0) : l.stackTraces = false := by
  unfold Launch.stackTraces
  rw [h]
  decide +kernel
theorem whole_start {p : Program} {e : Env} {s : State} {m : MethodId} {below : List Frame} {meth : Method} {c : Code} (l : Launch) (hflags : l.flags = flags0) {b L : Nat} {xs : Nat → Int32} (hL : L ≤ 2560) (C0 : lw_At p s m meth c b L xs) : W p l e room_1 s m #[Value.ref b] below meth c s.heap [] 0 0 (lw_Z below #[Value.ref b] s) (entryFrame m ([Value.ref b] : List Value).toArray 9) := by
  obtain ⟨hexec, hcode, hret, hml, hown, ht, hX, hb, hlk, hg⟩ := C0
  obtain ⟨D, tf, hT⟩ := z_zT ht
  obtain ⟨aC, aS, aB, a41, a43, k1, k2, k3, k4, k5, k6, k7, k8, k9, k10, k11, k12, k13, k14, k15⟩ := z_consts hg ht
  have Z : zC p s m c cL_law 9 RL D tf := ⟨hexec, hcode, hml, hown, hT⟩
  have hst := z_flags hflags
  have hl := lv_entry ([.ref b]) (n := 9) (Nat.le_of_ble_eq_true rfl)
  rw [lg_entry_eq]
  generalize (lg_sl ([.ref b]) ++ List.replicate (9 - (lg_sl ([.ref b])).length) Slot.unset).toArray = ls at hl ⊢
  refine (zl_walk (cb := 1026) (sb := 6156) (Q := lw_Z below #[Value.ref b] s) Z (A := fun q => s.heap.size ≤ q) (fun _ h => h) (fun a u d v q3 q4 hu hv => ?_)) ls s.heap [] 0 0 hl (fun k q h => by simp at h) ⟨fun i j x y h => by simp at h, fun k q h => by simp at h⟩ va_S.rf (Nat.le_of_ble_eq_true rfl) (Nat.le_of_ble_eq_true rfl)
  obtain ⟨y0, y1, y2, ⟨h, qs, ps⟩, pn, sc, ou, ky⟩ := u
  obtain ⟨x0, x1, x2, x3, x4, x5, x6, x7, rfl⟩ := z_eight hu.2.2.2.1
  intro ls H locs cells slots a1 a2 a3 a4 a5 a6
  have hq := z_qH (z := s.heap.size) (b := b) (aC := aC) (aS := aS) (aB := aB) (a41 := a41) (a43 := a43) a2 a3 (fun _ h => h)
  have hI : Inv (zsg (zpj y0 y1 y2 x0 x1 x2 x3 x4 x5 x6 x7) v) := zi_start (J := zpj y0 y1 y2 x0 x1 x2 x3 x4 x5 x6 x7) hu.1 hv
  have hE : qE (D, tf, zad (zpj y0 y1 y2 x0 x1 x2 x3 x4 x5 x6 x7) a h qs pn sc ou ky d v q3 q4 b aC aS aB a41 a43, s.heap.size) s s.heap := ⟨⟨hT.1, hT.2.1, k13, k14, k15⟩, Nat.le_refl _, k1, k2, k3, k4, k5, k6, k7, k8, ⟨k9, k10⟩, k11, k12⟩
  obtain ⟨σ', he⟩ := law_all hL (xs := xs) 513 0 _ hI (Nat.zero_le _) (by omega)
  have K := lt_L_law_28 (e := e) (below := below) (bq := b) hst (show qC p l s m meth c cL_law 9 RL (D, tf, zad (zpj y0 y1 y2 x0 x1 x2 x3 x4 x5 x6 x7) a h qs pn sc ou ky d v q3 q4 b aC aS aB a41 a43, s.heap.size) from ⟨hexec, hcode, hml, hown, hE, hst, hlk⟩) trivial trivial (LL := L) (xs := xs) ⟨hX, hb, by show ¬ s.heap.size ≤ b; omega⟩ ⟨hexec, hcode, hret, hlk, rfl⟩ 513 (nI 0) _ _ he ls H locs cells slots ⟨a1.1, a1.2.1, fun q hq2 => a1.2.2 q ?_⟩ hq a4 a5 a6
  · intro T hT2 X
    obtain ⟨t, b1, b2⟩ := K T hT2 X
    exact ⟨t, b1, b2 rfl⟩
  · simp only [qlc, List.mem_cons, List.not_mem_nil, or_false] at hq2 ⊢
    rcases hq2 with rfl | rfl | rfl | rfl | rfl | rfl
    · exact Or.inr (Or.inr (Or.inr (Or.inr (Or.inr rfl))))
    · exact Or.inr (Or.inr (Or.inr (Or.inr (Or.inl rfl))))
    · exact Or.inr (Or.inr (Or.inr (Or.inl rfl)))
    · exact Or.inr (Or.inr (Or.inl rfl))
    · exact Or.inr (Or.inl rfl)
    · exact Or.inl rfl
