/-! changes of a project -/
def psetf (P : qP) (f t : Nat) (v : Int32) : qP := (pn P, fun g u => if g = f ∧ u = t then v else pf P g u, pl P, ph P)
def padd (P : qP) (a b c d : Int32) : qP := (pn P + 1, fun g u => if u = pn P then (if g = 0 then a else if g = 1 then b else if g = 2 then c else if g = 3 then d else if g = 4 then 0 else -1) else pf P g u, pl P, ph P)
def plimf (P : qP) (r : Nat) (v : Int32) : qP := (pn P, pf P, fun q => if q = r then v else pl P q, ph P)
def psh (x t : Nat) : Nat := if t < x then t else t + 1
def pcut (x : Nat) (v : Int32) : Int32 := (v &&& (((1 : Int32) <<< (nI x &&& 31)) - 1)) ||| ((v >>> ((1 : Int32) &&& 31)) &&& ((((1 : Int32) <<< (nI x &&& 31)) - 1) ^^^ (-1 : Int32)))
def pdrop (P : qP) (x : Nat) : qP := (pn P - 1, fun g u => if g = 4 then pcut x (pf P 4 (psh x u)) else pf P g (psh x u), pl P, ph P)
def pmark (P : qP) : qP := (pn P, fun g u => if g = 5 then nI (pV P u) else pf P g u, pl P, 1)
section OP
variable {P : qP} {σ : qS}
theorem psetf_f (P : qP) (f t : Nat) (v : Int32) (g u : Nat) : pf (psetf P f t v) g u = if g = f ∧ u = t then v else pf P g u := rfl
theorem padd_f (P : qP) (a b c d : Int32) (g u : Nat) : pf (padd P a b c d) g u = if u = pn P then (if g = 0 then a else if g = 1 then b else if g = 2 then c else if g = 3 then d else if g = 4 then 0 else -1) else pf P g u := rfl
theorem PW.set0 (W : PW P) {t : Nat} (ht : t < pn P) {v : Int32} (h : 1 ≤ v.toInt ∧ v.toInt ≤ 9) : PW (psetf P 0 t v) := by
  obtain ⟨w1, w2, w3, w4, w5, w6⟩ := W
  have e : ∀ g u, g ≠ 0 → pf (psetf P 0 t v) g u = pf P g u := fun g u hg => by rw [psetf_f, if_neg (fun hh => hg hh.1)]
  refine ⟨w1, fun u hu => ?_, w3, ?_, w5, fun h0 u hu => by rw [e 5 u (by decide)]; exact w6 h0 u hu⟩
  · have := w2 u hu
    refine ⟨?_, by rw [e 1 u (by decide)]; exact this.2.1, by rw [e 2 u (by decide)]; exact this.2.2.1, by rw [e 3 u (by decide)]; exact this.2.2.2.1, fun x hx => this.2.2.2.2.1 x (by unfold ped at *; rw [e 4 u (by decide)] at hx; exact hx), by rw [e 5 u (by decide)]; exact this.2.2.2.2.2⟩
    rw [psetf_f]
    split
    · exact h
    · exact this.1
  · obtain ⟨h, hh⟩ := w4
    exact ⟨h, fun x y hx e2 => hh x y hx (by unfold ped at *; rw [e 4 x (by decide)] at e2; exact e2)⟩
theorem PW.set3 (W : PW P) {t : Nat} (ht : t < pn P) {v : Int32} (h : 0 ≤ v.toInt ∧ v.toInt ≤ 30) : PW (psetf P 3 t v) := by
  obtain ⟨w1, w2, w3, w4, w5, w6⟩ := W
  have e : ∀ g u, g ≠ 3 → pf (psetf P 3 t v) g u = pf P g u := fun g u hg => by rw [psetf_f, if_neg (fun hh => hg hh.1)]
  refine ⟨w1, fun u hu => ?_, w3, ?_, w5, fun h0 u hu => by rw [e 5 u (by decide)]; exact w6 h0 u hu⟩
  · have := w2 u hu
    refine ⟨by rw [e 0 u (by decide)]; exact this.1, by rw [e 1 u (by decide)]; exact this.2.1, by rw [e 2 u (by decide)]; exact this.2.2.1, ?_, fun x hx => this.2.2.2.2.1 x (by unfold ped at *; rw [e 4 u (by decide)] at hx; exact hx), by rw [e 5 u (by decide)]; exact this.2.2.2.2.2⟩
    rw [psetf_f]
    split
    · exact h
    · exact this.2.2.2.1
  · obtain ⟨h, hh⟩ := w4
    exact ⟨h, fun x y hx e2 => hh x y hx (by unfold ped at *; rw [e 4 x (by decide)] at e2; exact e2)⟩
theorem PW.set4 (W : PW P) {t : Nat} {v : Int32} (h1 : ∀ u, qbit v u = true → u < pn P) (h2 : ∃ h : Nat → Nat, ∀ x y, x < pn P → ped (psetf P 4 t v) x y = true → h y < h x) : PW (psetf P 4 t v) := by
  obtain ⟨w1, w2, w3, w4, w5, w6⟩ := W
  have e : ∀ g u, g ≠ 4 → pf (psetf P 4 t v) g u = pf P g u := fun g u hg => by rw [psetf_f, if_neg (fun hh => hg hh.1)]
  refine ⟨w1, fun u hu => ?_, w3, h2, w5, fun h0 u hu => by rw [e 5 u (by decide)]; exact w6 h0 u hu⟩
  have := w2 u hu
  refine ⟨by rw [e 0 u (by decide)]; exact this.1, by rw [e 1 u (by decide)]; exact this.2.1, by rw [e 2 u (by decide)]; exact this.2.2.1, by rw [e 3 u (by decide)]; exact this.2.2.2.1, fun x hx => ?_, by rw [e 5 u (by decide)]; exact this.2.2.2.2.2⟩
  unfold ped at hx
  rw [psetf_f] at hx
  by_cases hu2 : u = t
  · rw [if_pos ⟨rfl, hu2⟩] at hx
    exact h1 x hx
  · rw [if_neg (fun hh => hu2 hh.2)] at hx
    exact this.2.2.2.2.1 x hx
theorem ped_link {t u x y : Nat} (hu : u < 32) : ped (psetf P 4 t (pf P 4 t ||| ((1 : Int32) <<< (nI u &&& 31)))) x y = (ped P x y || (decide (x = t) && decide (u = y))) := by
  unfold ped
  rw [psetf_f]
  by_cases hx : x = t
  · rw [if_pos ⟨rfl, hx⟩, qbit_put hu, decide_eq_true hx, hx, Bool.true_and]
  · rw [if_neg (fun h => hx h.2), decide_eq_false hx, Bool.false_and, Bool.or_false]
theorem ped_unlink {t u x y : Nat} (hu : u < 32) (hy : y < 32) : ped (psetf P 4 t (pf P 4 t &&& (((1 : Int32) <<< (nI u &&& 31)) ^^^ (-1 : Int32)))) x y = (ped P x y && !(decide (x = t) && decide (u = y))) := by
  unfold ped
  rw [psetf_f]
  by_cases hx : x = t
  · rw [if_pos ⟨rfl, hx⟩, qbit_and, qbit_not hy, qbit_shl hu, decide_eq_true hx, hx, Bool.true_and]
  · rw [if_neg (fun h => hx h.2), decide_eq_false hx, Bool.false_and]
    simp
theorem PW.link (W : PW P) {t u : Nat} (ht : t < pn P) (hu : u < pn P) (hne : t ≠ u) (hr : prea P u t = false) : PW (psetf P 4 t (pf P 4 t ||| ((1 : Int32) <<< (nI u &&& 31)))) := by
  have hn := W.1
  refine W.set4 (fun x hx => ?_) ?_
  · rw [qbit_put (by omega), Bool.or_eq_true, decide_eq_true_iff] at hx
    rcases hx with hx | hx
    · exact W.ed_lt ht hx
    · omega
  · obtain ⟨h, hh⟩ := W.2.2.2.1
    refine ⟨fun x => if x = t ∨ prea P x t = true then h x + (h u + 1) else h x, fun x y hx e => ?_⟩
    rw [ped_link (by omega), Bool.or_eq_true, Bool.and_eq_true, decide_eq_true_iff, decide_eq_true_iff] at e
    dsimp only
    rcases e with e | ⟨rfl, rfl⟩
    · have h1 := hh x y hx e
      by_cases hy : y = t ∨ prea P y t = true
      · have hx2 : x = t ∨ prea P x t = true := Or.inr (prea_iff.mpr (by
          rcases hy with rfl | hy
          · exact gr_one e
          · exact gr_cons e (prea_iff.mp hy)))
        rw [if_pos hy, if_pos hx2]
        omega
      · rw [if_neg hy]
        split <;> omega
    · rw [if_neg (show ¬ (u = x ∨ prea P u x = true) by
        rintro (h | h)
        · exact hne h.symm
        · rw [hr] at h; cases h), if_pos (Or.inl rfl)]
      omega
theorem PW.unlink (W : PW P) {t u : Nat} (ht : t < pn P) (hu : u < pn P) : PW (psetf P 4 t (pf P 4 t &&& (((1 : Int32) <<< (nI u &&& 31)) ^^^ (-1 : Int32)))) := by
  have hn := W.1
  refine W.set4 (fun x hx => ?_) ?_
  · rw [qbit_and, Bool.and_eq_true] at hx
    exact W.ed_lt ht hx.1
  · obtain ⟨h, hh⟩ := W.2.2.2.1
    refine ⟨h, fun x y hx e => hh x y hx ?_⟩
    unfold ped at e ⊢
    rw [psetf_f] at e
    by_cases hx2 : x = t
    · rw [if_pos ⟨rfl, hx2⟩, qbit_and, Bool.and_eq_true] at e
      rw [hx2]
      exact e.1
    · rw [if_neg (fun h => hx2 h.2)] at e
      exact e
theorem PW.add (W : PW P) (hn2 : pn P < 12) {a b c d : Int32} (ha : 1 ≤ a.toInt ∧ a.toInt ≤ 9) (hb : 0 ≤ b.toInt ∧ b.toInt ≤ 2) (hc : 1 ≤ c.toInt ∧ c.toInt ≤ 5) (hd : 0 ≤ d.toInt ∧ d.toInt ≤ 30) : PW (padd P a b c d) := by
  obtain ⟨w1, w2, w3, w4, w5, w6⟩ := W
  have e : ∀ g u, u ≠ pn P → pf (padd P a b c d) g u = pf P g u := fun g u hg => by rw [padd_f, if_neg hg]
  have en : ∀ g, pf (padd P a b c d) g (pn P) = (if g = 0 then a else if g = 1 then b else if g = 2 then c else if g = 3 then d else if g = 4 then 0 else -1) := fun g => by rw [padd_f, if_pos rfl]
  refine ⟨by show pn P + 1 ≤ 12; omega, fun u hu => ?_, w3, ?_, w5, fun h0 u hu => ?_⟩
  · have hu : u < pn P + 1 := hu
    by_cases hx : u = pn P
    · subst hx
      rw [en 0, en 1, en 2, en 3]
      refine ⟨ha, hb, hc, hd, fun x hx => ?_, ?_⟩
      · unfold ped at hx
        rw [en 4] at hx
        simp [qbit_0] at hx
      · rw [en 5]
        show -1 ≤ (-1 : Int32).toInt ∧ (-1 : Int32).toInt ≤ 1000
        decide
    · have := w2 u (by omega)
      rw [e 0 u hx, e 1 u hx, e 2 u hx, e 3 u hx, e 5 u hx]
      refine ⟨this.1, this.2.1, this.2.2.1, this.2.2.2.1, fun x hx2 => ?_, this.2.2.2.2.2⟩
      unfold ped at hx2
      rw [e 4 u hx] at hx2
      exact Nat.lt_succ_of_lt (this.2.2.2.2.1 x hx2)
  · obtain ⟨h, hh⟩ := w4
    refine ⟨h, fun x y hx e2 => ?_⟩
    have hx : x < pn P + 1 := hx
    unfold ped at e2
    by_cases hx2 : x = pn P
    · subst hx2
      rw [en 4] at e2
      simp [qbit_0] at e2
    · rw [e 4 x hx2] at e2
      exact hh x y (by omega) e2
  · have hu : u < pn P + 1 := hu
    by_cases hx : u = pn P
    · subst hx
      rw [en 5]
      rfl
    · rw [e 5 u hx]
      exact w6 h0 u (by omega)
theorem PW.lim (W : PW P) {r : Nat} {v : Int32} (h : 5 ≤ v.toInt ∧ v.toInt ≤ 20) : PW (plimf P r v) := by
  obtain ⟨w1, w2, w3, w4, w5, w6⟩ := W
  refine ⟨w1, w2, fun q hq => ?_, w4, w5, w6⟩
  show 5 ≤ (if q = r then v else pl P q).toInt ∧ (if q = r then v else pl P q).toInt ≤ 20
  split
  · exact h
  · exact w3 q hq
theorem PW.mark (W : PW P) : PW (pmark P) := by
  have hv := @pV_le P W
  obtain ⟨w1, w2, w3, w4, w5, w6⟩ := W
  refine ⟨w1, fun u hu => ?_, w3, w4, Or.inr rfl, fun h => by cases h⟩
  have := w2 u hu
  refine ⟨this.1, this.2.1, this.2.2.1, this.2.2.2.1, this.2.2.2.2.1, ?_⟩
  show -1 ≤ (nI (pV P u)).toInt ∧ (nI (pV P u)).toInt ≤ 1000
  have := hv hu
  rw [nI_toInt (by omega)]
  omega
theorem qbit_shr31 (x : Int32) : qbit (x >>> ((1 : Int32) &&& 31)) 31 = qbit x 31 := by
  have k1 : (((1 : Int32) &&& 31).toBitVec.smod 32).toNat = 1 := by decide
  unfold qbit
  rw [Int32.toBitVec_shiftRight, BitVec.sshiftRight_eq', k1, BitVec.getLsbD_sshiftRight]
  simp [BitVec.msb, BitVec.getMsbD]
theorem qbit_cut {x u : Nat} (hx : x < 31) {v : Int32} (hv : ∀ i, qbit v i = true → i < 31) : qbit (pcut x v) u = qbit v (psh x u) := by
  unfold pcut psh
  rw [qbit_or, qbit_and, qbit_and, qbit_low hx]
  by_cases h32 : u < 32
  · rw [qbit_not h32, qbit_low hx]
    by_cases h : u < x
    · simp [h]
    · rw [if_neg h]
      simp only [h, decide_false, Bool.and_false, Bool.false_or, Bool.not_false, Bool.and_true]
      by_cases h31 : u < 31
      · exact qbit_shr h31
      · have hu : u = 31 := by omega
        subst hu
        rw [qbit_shr31, qbit_ge (by omega : 32 ≤ 31 + 1)]
        cases hb : qbit v 31
        · rfl
        · have := hv 31 hb; omega
  · rw [if_neg (by omega), qbit_ge (show 32 ≤ u by omega), qbit_ge (show 32 ≤ u by omega), qbit_ge (show 32 ≤ u + 1 by omega)]
    rfl
theorem PW.drop (W : PW P) {x : Nat} (hx : x < pn P) : PW (pdrop P x) := by
  obtain ⟨w1, w2, w3, w4, w5, w6⟩ := W
  have hs : ∀ u, u < pn P - 1 → psh x u < pn P := fun u hu => by unfold psh; split <;> omega
  have e : ∀ g u, g ≠ 4 → pf (pdrop P x) g u = pf P g (psh x u) := fun g u hg => if_neg hg
  have ed : ∀ u y, u < pn P - 1 → ped (pdrop P x) u y = ped P (psh x u) (psh x y) := fun u y hu => qbit_cut (by omega) (fun i hi => by have := (w2 _ (hs u hu)).2.2.2.2.1 i hi; omega)
  refine ⟨by show pn P - 1 ≤ 12; omega, fun u hu => ?_, w3, ?_, w5, fun h0 u hu => by rw [e 5 u (by decide)]; exact w6 h0 _ (hs u hu)⟩
  · have := w2 _ (hs u hu)
    rw [e 0 u (by decide), e 1 u (by decide), e 2 u (by decide), e 3 u (by decide), e 5 u (by decide)]
    refine ⟨this.1, this.2.1, this.2.2.1, this.2.2.2.1, fun y hy => ?_, this.2.2.2.2.2⟩
    rw [ed u y hu] at hy
    have h9 := this.2.2.2.2.1 _ hy
    show y < pn P - 1
    unfold psh at h9
    split at h9 <;> omega
  · obtain ⟨h, hh⟩ := w4
    exact ⟨fun u => h (psh x u), fun u y hu e2 => hh _ _ (hs u hu) (by rw [ed u y hu] at e2; exact e2)⟩
/-! the class's changes -/
theorem Rep.setf {j : Nat} (H : Rep σ j P) {f t : Nat} (hf : f < 6) (v : Int32) : Rep (qu σ (2 + f) j t v) j (psetf P f t v) := by
  refine ⟨by rw [qu_at, if_neg (by omega)]; exact H.1, fun g u hg hu => ?_, fun r hr => by rw [qu_at, if_neg (by omega)]; exact H.2.2.1 r hr, by rw [qu_at, if_neg (by omega)]; exact H.2.2.2⟩
  rw [qu_at, psetf_f]
  by_cases h : g = f ∧ u = t
  · rw [if_pos ⟨by omega, rfl, h.2⟩, if_pos h]
  · rw [if_neg (fun hh => h ⟨by omega, hh.2.2⟩), if_neg h]
    exact H.2.1 g u hg hu
theorem Rep.lim {j : Nat} (H : Rep σ j P) (r : Nat) (v : Int32) : Rep (qu σ 8 j r v) j (plimf P r v) := by
  refine ⟨by rw [qu_at, if_neg (by omega)]; exact H.1, fun g u hg hu => by rw [qu_at, if_neg (by omega)]; exact H.2.1 g u hg hu, fun q hq => ?_, by rw [qu_at, if_neg (by omega)]; exact H.2.2.2⟩
  show qu σ 8 j r v 8 j q = if q = r then v else pl P q
  rw [qu_at]
  by_cases h : q = r
  · rw [if_pos ⟨rfl, rfl, h⟩, if_pos h]
  · rw [if_neg (fun hh => h hh.2.2), if_neg h]
    exact H.2.2.1 q hq
end OP

