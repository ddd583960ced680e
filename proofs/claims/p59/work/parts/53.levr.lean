/-! levelling in the reference -/
def LvR (P : qP) (σ : qS) (x : Int32) (lev : Nat → Nat) : Prop := (∀ t, t < pn P → qbit x t = true → σ 33 0 t = nI (lev t)) ∧ ∀ r d, r < 3 → d < 160 → σ 34 0 (160 * r + d) = nI (pU P x lev r d)
section RL
variable {P : qP}
/-- the greatest finish -/
theorem pend_le (W : PW P) : ∀ i, i ≤ pn P → ∀ x, pend P i ≤ x ↔ ∀ u, qbit (pst P i).1 u = true → (pst P i).2 u + pdn P u ≤ x := by
  have hn := W.1
  intro i
  induction i with
  | zero => intro _ x; exact ⟨fun _ u hu => absurd (hu.symm.trans (pst0 P u)) (by decide), fun _ => Nat.zero_le _⟩
  | succ i ih =>
    intro hi x
    obtain ⟨s1, s2, -, -, -, -⟩ := pst_step W (i := i) (by omega)
    have hbit : ∀ u, qbit (pst P (i + 1)).1 u = (qbit (pst P i).1 u || decide (pur P (pst P i).1 = u)) := fun u => qbit_put (by omega)
    have hl : ∀ u, (pst P (i + 1)).2 u = if u = pur P (pst P i).1 then plow P (pst P i).1 (pst P i).2 (pur P (pst P i).1) 200 (ps0 P (pst P i).2 (pur P (pst P i).1)) else (pst P i).2 u := fun u => rfl
    have hnb := (pready_iff.mp s2).1
    rw [pend_s, Nat.max_le, ih (by omega)]
    constructor
    · rintro ⟨h1, h2⟩ u hu
      rw [hbit, Bool.or_eq_true, decide_eq_true_iff] at hu
      rw [hl]
      by_cases e : u = pur P (pst P i).1
      · rw [if_pos e, e]; exact h2
      · rw [if_neg e]
        exact hu.elim (h1 u) (fun h => absurd h.symm e)
    · intro h
      refine ⟨fun u hu => ?_, ?_⟩
      · have := h u (by rw [hbit, hu]; rfl)
        rw [hl, if_neg (fun e => by rw [e, hnb] at hu; cases hu)] at this
        exact this
      · have := h (pur P (pst P i).1) (by rw [hbit]; simp)
        rw [hl, if_pos rfl] at this
        exact this
theorem pst_full (W : PW P) {t : Nat} (ht : t < pn P) : qbit (pst P (pn P)).1 t = true := gcnt_full (pst_spec W (pn P) (Nat.le_refl _)).1 t ht
def pV (P : qP) (t : Nat) : Nat := (pst P (pn P)).2 t
theorem pend_last (W : PW P) (hb : pend P (pn P) ≤ 138) : plast P (fun t => nI (pV P t)) = nI (pend P (pn P)) := by
  have hV : ∀ t, t < pn P → pV P t + pdn P t ≤ pend P (pn P) := fun t ht => (pend_le W (pn P) (Nat.le_refl _) _).mp (Nat.le_refl _) t (pst_full W ht)
  apply i_eq
  rw [nI_toInt (by omega)]
  apply Int.le_antisymm
  · rw [plast_le]
    refine ⟨by omega, fun u hu => ?_⟩
    have := hV u hu
    rw [(W.dn hu).1, nI_add, nI_toInt (by omega)]
    omega
  · have h1 : (plast P (fun t => nI (pV P t))).toInt ≤ (plast P (fun t => nI (pV P t))).toInt := Int.le_refl _
    rw [plast_le] at h1
    have h2 : pend P (pn P) ≤ (plast P (fun t => nI (pV P t))).toInt.toNat := by
      rw [pend_le W (pn P) (Nat.le_refl _)]
      intro u hu
      have hu' := ((pst_spec W (pn P) (Nat.le_refl _)).2 u hu).1
      have h3 := h1.2 u hu'
      have h4 := hV u hu'
      rw [(W.dn hu').1, nI_add, nI_toInt (by omega)] at h3
      have : pV P u = (pst P (pn P)).2 u := rfl
      omega
    omega
end RL

