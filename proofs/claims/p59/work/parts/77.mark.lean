/-! the baseline doesn't move the plan -/
section MK2
variable {P : qP}
theorem mk_soon (f : Nat → Int32) (t : Nat) : psoon (pmark P) f t = psoon P f t := rfl
theorem mk_last (f : Nat → Int32) : plast (pmark P) f = plast P f := rfl
theorem mk_Ei : ∀ k, pEi (pmark P) k = pEi P k
  | 0 => rfl
  | k + 1 => by
    funext t
    show psoon (pmark P) (pEi (pmark P) k) t = psoon P (pEi P k) t
    rw [mk_Ei k]
    rfl
theorem mk_E : pE (pmark P) = pE P := mk_Ei (pn P)
theorem mk_lat (f : Nat → Int32) (t : Nat) : plat (pmark P) f t = plat P f t := by
  show fo _ (pn P) 0 (plast (pmark P) (pE (pmark P))) = fo _ (pn P) 0 (plast P (pE P))
  rw [mk_E]
  rfl
theorem mk_Li : ∀ k, pLi (pmark P) k = pLi P k
  | 0 => rfl
  | k + 1 => by
    funext t
    show plat (pmark P) (pLi (pmark P) k) t - pf P 0 t = plat P (pLi P k) t - pf P 0 t
    rw [mk_Li k, mk_lat]
theorem mk_L : pL (pmark P) = pL P := mk_Li (pn P + 1)
theorem mk_fs (x : Int32) : ∀ d i, pfs (pmark P) x d i = pfs P x d i
  | 0, _ => rfl
  | d + 1, i => by
    show (if pready P x i = true then i else pfs (pmark P) x d (i + 1)) = (if pready P x i = true then i else pfs P x d (i + 1))
    rw [mk_fs x d (i + 1)]
theorem mk_mask : ∀ i, pmask (pmark P) i = pmask P i
  | 0 => rfl
  | i + 1 => by
    show pmask (pmark P) i ||| ((1 : Int32) <<< (nI (pfs (pmark P) (pmask (pmark P) i) (pn P) 0) &&& 31)) = pmask P i ||| ((1 : Int32) <<< (nI (pfs P (pmask P i) (pn P) 0) &&& 31))
    rw [mk_mask i, mk_fs]
theorem mk_ord (i : Nat) : pord (pmark P) i = pord P i := by
  show pfs (pmark P) (pmask (pmark P) i) (pn P) 0 = pfs P (pmask P i) (pn P) 0
  rw [mk_mask, mk_fs]
theorem mk_U (x : Int32) (lev : Nat → Nat) (r d : Nat) : pU (pmark P) x lev r d = pU P x lev r d := rfl
theorem mk_fd (x : Int32) (lev : Nat → Nat) (t : Nat) : ∀ k d, pfd (pmark P) x lev t k d = pfd P x lev t k d
  | 0, _ => rfl
  | k + 1, d => by
    show (decide (pU P x lev (prn P t) d + pmn P t ≤ pln P (prn P t)) && pfd (pmark P) x lev t k (d + 1)) = (decide (pU P x lev (prn P t) d + pmn P t ≤ pln P (prn P t)) && pfd P x lev t k (d + 1))
    rw [mk_fd x lev t k (d + 1)]
theorem mk_fit (x : Int32) (lev : Nat → Nat) (t s : Nat) : pfit (pmark P) x lev t s = pfit P x lev t s := mk_fd x lev t (pdn P t) s
theorem mk_low (x : Int32) (lev : Nat → Nat) (t : Nat) : ∀ k s, plow (pmark P) x lev t k s = plow P x lev t k s
  | 0, _ => rfl
  | k + 1, s => by
    show (if pfit (pmark P) x lev t s = true then s else plow (pmark P) x lev t k (s + 1)) = (if pfit P x lev t s = true then s else plow P x lev t k (s + 1))
    rw [mk_fit, mk_low x lev t k (s + 1)]
theorem mk_ug (x : Int32) : ∀ d i a, pug (pmark P) x d i a = pug P x d i a
  | 0, _, _ => rfl
  | d + 1, i, a => by
    show pug (pmark P) x d (i + 1) (if pready P x i = true then (if a = pn P then i else if pL (pmark P) i < pL (pmark P) a then i else a) else a) = pug P x d (i + 1) (if pready P x i = true then (if a = pn P then i else if pL P i < pL P a then i else a) else a)
    rw [mk_ug x d (i + 1), mk_L]
theorem mk_ur (x : Int32) : pur (pmark P) x = pur P x := mk_ug x (pn P) 0 (pn P)
theorem mk_s0 (lev : Nat → Nat) (t : Nat) : ps0 (pmark P) lev t = ps0 P lev t := rfl
theorem mk_st : ∀ i, pst (pmark P) i = pst P i
  | 0 => rfl
  | i + 1 => by
    have e : ∀ Q : qP, pst Q (i + 1) = ((pst Q i).1 ||| ((1 : Int32) <<< (nI (pur Q (pst Q i).1) &&& 31)), fun u => if u = pur Q (pst Q i).1 then plow Q (pst Q i).1 (pst Q i).2 (pur Q (pst Q i).1) 200 (ps0 Q (pst Q i).2 (pur Q (pst Q i).1)) else (pst Q i).2 u) := fun Q => rfl
    rw [e, e, mk_st i, mk_ur]
    simp only [mk_low, mk_s0]
theorem mk_end : ∀ i, pend (pmark P) i = pend P i
  | 0 => rfl
  | i + 1 => by
    rw [pend_s, pend_s, mk_end i, mk_st, mk_ur, mk_low, mk_s0]
    rfl
theorem PlanOK.mark {σ : qS} (p : PlanOK P σ) : PlanOK (pmark P) σ := by
  obtain ⟨a1, a2, a3, a4, a5, ⟨a6, a7⟩, a8, a9⟩ := p
  refine ⟨fun k hk => by rw [mk_ord]; exact a1 k hk, a2, fun t ht => by rw [mk_E]; exact a3 t ht, fun t ht => by rw [mk_E]; exact a4 t ht, fun t ht => by rw [mk_L]; exact a5 t ht, ⟨fun t ht hx => ?_, fun r d hr hd => ?_⟩, by rw [mk_E]; exact a8, ?_⟩
  · rw [mk_st] at hx ⊢
    exact a6 t ht hx
  · rw [mk_st]
    exact a7 r d hr hd
  · rw [mk_end]
    exact a9
end MK2

