/-! the needs in a task's line -/
section TV
variable {P : qP} {hs : List qP} {σ σ' : qS} {ks : List (Nat × Nat)} {T : List Int32} {j cap : Nat}
theorem BT.sn (H : BT σ j cap T) (q : qsn ks σ σ') (h1 : (62, j) ∉ ks) (h2 : (63, j) ∉ ks) : BT σ' j cap T := H.tr (q 62 j h1) (q 63 j h2)
theorem TX.sn {k : Nat} (X : TX σ k j T) (q : qsn ks σ σ') (h1 : (k, j) ∉ ks) (h2 : (qvk k, j) ∉ ks) : TX σ' k j T := X.tr (q k j h1) (q (qvk k) j h2)
/-- one step: a need, or none -/
theorem l_need (h : TS σ P hs) {t i : Nat} (ht : t < pn P) (hi : i < pn P) (X : TX σ 60 0 T) (hl : T.length ≤ 50) {rk : Int32 → Int32 → Int32 → qS → Option qO} {rk2 : Int32 → Int32 → Int32 → Int32 → Int32 → qS → Option qO} {v2 v3 v5 : Int32} :
    ∃ σ', (qlet (qrw σ 62 0 (fun _ => 0)) (fun s26 => qbind (f_J4_init_da8c8 0 s26) (qvV (fun s27 => qbind (f_J4_append_15ec4 64 0 60 0 s27) (qvM 62 0 (fun s28 => j_L_areTasksTold_183 rk rk2 v2 v3 (nI t) v5 (nI i) s28)) qE0)) qE0)) = rk2 v2 v3 (nI t) v5 (nI (i + 1)) σ' ∧ TS σ' P hs ∧ TX σ' 60 0 (if ped P t i = true then T ++ [nI 60] ++ dgs i else T) := by
  have W := h.1.1.1
  have hn := W.1
  have q0 := qsn_qrw σ 62 0 (fun _ => 0)
  have h0 : TS (qrw σ 62 0 (fun _ => 0)) P hs := h.sn q0 (fun p hp => by rw [List.mem_singleton.mp hp]; show 60 ≤ 62; omega)
  obtain ⟨σ1, e1, B1, h1, q1⟩ := s_init (j := 0) h0 (by rw [qrw_at])
  have X1 : TX σ1 60 0 T := (X.sn q0 (by simp) (by simp [qvk])).sn q1 (by simp) (by simp [qvk])
  obtain ⟨σ2, e2, B2, q2⟩ := b_text (NB := 64) (Or.inr rfl) B1 X1 (by simp only [List.length_nil]; omega) (fun _ => by simp only [List.length_nil]; omega) (by decide)
  rw [List.nil_append, List.length_nil, Nat.zero_add] at B2
  have h2 := h1.sn q2 k3
  have hc : gcap 16 T.length ≤ 50 := by unfold gcap; split <;> omega
  rw [qlet_eq, e1, qb_V, e2, qb_M]
  unfold j_L_areTasksTold_183
  rw [m_direct h2.1.1 ht hi, qb_I]
  cases hp : ped P t i
  · obtain ⟨σ3, e3, B3, q3⟩ := b_text (NB := 104) (Or.inl rfl) B2 (x_c0 h2.2.1) (by simp only [List.length_nil]; omega) (fun _ => by simp only [List.length_nil]; omega) (by decide)
    rw [List.append_nil] at B3
    have h3 := h2.sn q3 k3
    obtain ⟨σ4, e4, X4, q4⟩ := b_toString (NB := 64) B3 (by omega) (by decide) (by omega)
    refine ⟨σ4, ?_, h3.sn q4 k3t, ?_⟩
    · rw [qb1_f, if_pos rfl, e3, qb_M, e4, qb_M, nI_1]
    · rw [if_neg (by decide)]; exact X4
  · have q3 := qsn_qrw σ2 62 1 (fun _ => 0)
    have h3 : TS (qrw σ2 62 1 (fun _ => 0)) P hs := h2.sn q3 (fun p hp => by rw [List.mem_singleton.mp hp]; show 60 ≤ 62; omega)
    obtain ⟨σ4, e4, C4, h4, q4⟩ := s_init (j := 1) h3 (by rw [qrw_at])
    obtain ⟨σ5, e5, C5, h5, q5⟩ := s_text h4 C4 (Or.inl rfl) (x_c7 h4.2.1) (by simp only [List.length_cons, List.length_nil]; omega)
    have z1 := dsz_2 (n := i) (by omega)
    obtain ⟨σ6, e6, C6, h6, q6⟩ := s_int h5 C5 (n := i) (by omega) (by simp only [List.length_append, List.length_cons, List.length_nil]; omega)
    have lU : ([] ++ [nI 60] ++ dgs i).length = 1 + dsz i := by simp only [List.length_append, List.length_cons, List.length_nil, dgs_sz]
    obtain ⟨σ7, e7, X7, q7⟩ := b_toString (NB := 4) C6 (by omega) (by decide) (by omega)
    have h7 := h6.sn q7 k3t
    have B7 : BT σ7 0 (gcap 16 T.length) T := ((((B2.sn q3 (by simp) (by simp)).sn q4 (by simp) (by simp)).sn q5 (by simp) (by simp)).sn q6 (by simp) (by simp)).sn q7 (by simp) (by simp)
    obtain ⟨σ8, e8, B8, q8⟩ := b_text (NB := 104) (Or.inr rfl) B7 X7 (by omega) (fun _ => by omega) (by decide)
    have h8 := h7.sn q8 k3
    obtain ⟨σ9, e9, X9, q9⟩ := b_toString (NB := 64) B8 (by rw [List.length_append]; omega) (by decide) (by rw [List.length_append]; omega)
    refine ⟨σ9, ?_, h8.sn q9 k3t, ?_⟩
    · rw [qb1_t, if_neg (by decide), qlet_eq, e4, qb_V, e5, qb_M, e6, qb_M, e7, qb_M, e8, qb_M, e9, qb_M, nI_1]
    · rw [if_pos rfl, List.append_assoc]; exact X9
theorem l_needs {rk : Int32 → Int32 → Int32 → qS → Option qO} {v2 v3 v5 : Int32} {t : Nat} (ht : t < pn P) : ∀ (d i m : Nat) (σ : qS) (T : List Int32), i + d = pn P → d < m → TS σ P hs → TX σ 60 0 T → T.length + 3 * d ≤ 50 →
    ∃ (σ' : qS) (m' : Nat), l_L_areTasksTold_164 rk m v2 v3 (nI t) v5 (nI i) σ = l_L_areTasksTold_164 rk (m' + 1) v2 v3 (nI t) v5 (nI (pn P)) σ' ∧ TS σ' P hs ∧ TX σ' 60 0 (ntx P t d i T) := by
  intro d
  induction d with
  | zero =>
    intro i m σ T hi hm h X hl
    obtain ⟨m, rfl⟩ : ∃ m', m = m' + 1 := ⟨m - 1, by omega⟩
    have hi : i = pn P := by omega
    subst hi
    exact ⟨σ, m, rfl, h, X⟩
  | succ d ih =>
    intro i m σ T hi hm h X hl
    have hn := h.1.1.1.1
    obtain ⟨m, rfl⟩ : ∃ m', m = m' + 1 := ⟨m - 1, by omega⟩
    obtain ⟨σ1, e1, h1, X1⟩ := l_need (rk := rk) (rk2 := l_L_areTasksTold_164 rk m) (v2 := v2) (v3 := v3) (v5 := v5) h ht (show i < pn P by omega) X (by omega)
    have z1 := dsz_2 (n := i) (by omega)
    obtain ⟨σ2, m2, e2, h2, X2⟩ := ih (i + 1) m σ1 _ (by omega) (by omega) h1 X1 (by
      split
      · simp only [List.length_append, List.length_cons, List.length_nil, dgs_sz]; omega
      · omega)
    refine ⟨σ2, m2, ?_, h2, X2⟩
    rw [← e2, ← e1]
    simp only [l_L_areTasksTold_164, b_L_areTasksTold_164]
    rw [if_neg (by rw [n_ofl (h.2.2.len (by omega))]; exact nI_ge (by omega) (by omega))]
end TV
