/-! the latest starts -/
section LA
variable {P : qP}
theorem plast_le {f : Nat → Int32} {x : Int} : (plast P f).toInt ≤ x ↔ 0 ≤ x ∧ ∀ u, u < pn P → (f u + pf P 0 u).toInt ≤ x := by
  have e : plast P f = fo (fun u a => if (fun _ : Nat => true) u = true then qmax a ((fun u => f u + pf P 0 u) u) else a) (pn P) 0 0 := fo_congr _ _ _ (fun u _ _ a => by rw [if_pos rfl])
  rw [e, fo_max]
  exact ⟨fun h => ⟨h.1, fun u hu => h.2 u (Nat.zero_le _) (by omega) rfl⟩, fun h => ⟨h.1, fun u _ hu _ => h.2 u (by omega)⟩⟩
theorem plast_bd (W : PW P) : 0 ≤ (plast P (pE P)).toInt ∧ (plast P (pE P)).toInt ≤ 138 := by
  have h1 : (plast P (pE P)).toInt ≤ (plast P (pE P)).toInt := Int.le_refl _
  rw [plast_le] at h1
  refine ⟨h1.1, ?_⟩
  rw [plast_le]
  refine ⟨by decide, fun u hu => ?_⟩
  have a1 := pE_small W hu
  have a2 := (W.2.1 u hu).1
  rw [i_add (by omega) (by omega) (by omega) (by omega)]
  omega
def plat (P : qP) (f : Nat → Int32) (t : Nat) : Int32 := fo (fun o a => if ped P o t = true then qmin a (f o) else a) (pn P) 0 (plast P (pE P))
theorem plat_congr {f f' : Nat → Int32} {t : Nat} (h : ∀ o, o < pn P → ped P o t = true → f o = f' o) : plat P f t = plat P f' t := by
  refine fo_congr _ _ _ (fun u _ h2 a => ?_)
  by_cases e : ped P u t = true
  · rw [if_pos e, if_pos e, h u (by omega) e]
  · rw [if_neg e, if_neg e]
theorem plat_ge {f : Nat → Int32} {t : Nat} {x : Int} : x ≤ (plat P f t).toInt ↔ x ≤ (plast P (pE P)).toInt ∧ ∀ o, o < pn P → ped P o t = true → x ≤ (f o).toInt := by
  unfold plat
  rw [fo_min (c := fun o => ped P o t) (v := f)]
  exact ⟨fun h => ⟨h.1, fun u hu e => h.2 u (Nat.zero_le _) (by omega) e⟩, fun h => ⟨h.1, fun u _ hu e => h.2 u (by omega) e⟩⟩
def IsL (P : qP) (L : Nat → Int32) : Prop := ∀ t, t < pn P → L t = plat P L t - pf P 0 t
def pLi (P : qP) : Nat → Nat → Int32
  | 0 => fun _ => 0
  | k + 1 => fun t => plat P (pLi P k) t - pf P 0 t
def pL (P : qP) : Nat → Int32 := pLi P (pn P + 1)
theorem pLi_eq (W : PW P) {h : Nat → Nat} (hh : ∀ t u, t < pn P → ped P t u = true → h u < h t) (hb : ∀ t, t < pn P → h t < pn P) : ∀ k t, t < pn P → pn P - h t < k → ∀ k', pn P - h t < k' → pLi P k t = pLi P k' t := by
  intro k
  induction k with
  | zero => intro t ht h1; omega
  | succ k ih =>
    intro t ht h1 k' h2
    obtain ⟨k', rfl⟩ : ∃ z, k' = z + 1 := ⟨k' - 1, by omega⟩
    show plat P (pLi P k) t - pf P 0 t = plat P (pLi P k') t - pf P 0 t
    rw [plat_congr (fun o ho e => ih o ho (by have := hh o t ho e; have := hb o ho; omega) k' (by have := hh o t ho e; have := hb o ho; omega))]
theorem pL_is (W : PW P) : IsL P (pL P) := by
  have hc : ∀ t u, t < pn P → ped P t u = true → u < pn P := fun t u h1 h2 => W.ed_lt h1 h2
  obtain ⟨h, hh, hb⟩ := g_rank hc W.2.2.2.1
  intro t ht
  show pLi P (pn P + 1) t = plat P (pLi P (pn P + 1)) t - pf P 0 t
  rw [pLi_eq W hh hb (pn P + 1) t ht (by omega) (pn P + 1 + 1) (by omega)]
  rfl
theorem pL_bd (W : PW P) {t : Nat} (ht : t < pn P) : -108 ≤ (pL P t).toInt ∧ (pL P t).toInt ≤ 138 := by
  have hn := W.1
  have hc : ∀ t u, t < pn P → ped P t u = true → u < pn P := fun t u h1 h2 => W.ed_lt h1 h2
  obtain ⟨h, hh, hb⟩ := g_rank hc W.2.2.2.1
  have hL := pL_is W
  have hl := plast_bd W
  have key : ∀ k t, t < pn P → pn P - h t ≤ k → -9 * ((pn P : Int) - h t) ≤ (pL P t).toInt ∧ (pL P t).toInt ≤ 138 := by
    intro k
    induction k with
    | zero => intro t ht h0; have := hb t ht; omega
    | succ k ih =>
      intro t ht h0
      have a1 := (W.2.1 t ht).1
      have a2 := hb t ht
      have a3 : -9 * ((pn P : Int) - h t) + 9 ≤ (plat P (pL P) t).toInt := by
        rw [plat_ge]
        refine ⟨by omega, fun o ho e => ?_⟩
        have b1 := hh o t ho e
        have b2 := hb o ho
        have b3 := ih o ho (by omega)
        omega
      have a4 : (plat P (pL P) t).toInt ≤ (plat P (pL P) t).toInt := Int.le_refl _
      rw [plat_ge] at a4
      rw [hL t ht, i_sub (by omega) (by omega) (by omega) (by omega)]
      omega
  have := key (pn P - h t) t ht (Nat.le_refl _)
  have := hb t ht
  omega
theorem gcnt_full {p : Nat → Bool} {k : Nat} (h : gcnt p k = k) : ∀ i, i < k → p i = true := by
  intro i hi
  cases hp : p i
  · have := gcnt_lt (q := fun _ => true) (fun _ _ => rfl) hp rfl k hi
    have := gcnt_le (fun _ => true) k
    omega
  · rfl
/-- every task has its place in the order, behind those that it needs -/
theorem pord_all (W : PW P) {t : Nat} (ht : t < pn P) : ∃ k, k < pn P ∧ pord P k = t := by
  obtain ⟨h1, h2, -⟩ := pord_spec W (pn P) (Nat.le_refl _)
  exact (h1 t).mp (gcnt_full h2 t ht)
theorem pord_lt (W : PW P) {k : Nat} (hk : k < pn P) : pord P k < pn P := ((pord_spec W (pn P) (Nat.le_refl _)).2.2 k hk).1
theorem pord_inj (W : PW P) {k k' : Nat} (h : k < k') (hk : k' < pn P) : pord P k ≠ pord P k' := by
  intro e
  have h1 := ((pord_spec W (pn P) (Nat.le_refl _)).2.2 k' hk).2
  have h2 := (pready_iff.mp h1).1
  rw [((pord_spec W k' (by omega)).1 _).mpr ⟨k, h, e⟩] at h2
  cases h2
theorem pord_need (W : PW P) {k : Nat} (hk : k < pn P) {u : Nat} (e : ped P (pord P k) u = true) : ∃ k', k' < k ∧ pord P k' = u := by
  have hn := W.1
  have h1 := ((pord_spec W (pn P) (Nat.le_refl _)).2.2 k hk).2
  have h2 := (pready_iff.mp h1).2 u (by have := W.ed_lt (pord_lt W hk) e; omega) e
  exact ((pord_spec W k (by omega)).1 u).mp h2
theorem n_dec (k : Nat) : nI k + (-1 : Int32) = nI k - 1 := by
  rw [Int32.sub_eq_add_neg]
theorem c_late_in {j : Nat} (W : PW P) {rk : Int32 → qS → Option qO} {v2 : Int32} {t : Nat} (ht : t < pn P) {σ : qS} (H : Rep σ j P) : ∀ (d i m : Nat) (a : Int32), i + d = pn P → d < m →
    l_X4_findLatest_29 j rk m v2 (nI t) a (nI i) σ = rk (v2 + (-1 : Int32)) (qu σ 16 0 t (fo (fun o a => if ped P o t = true then qmin a (σ 16 0 o) else a) d i a - pf P 0 t)) := by
  have hn := W.1
  intro d
  induction d with
  | zero =>
    intro i m a hi hm
    obtain ⟨m, rfl⟩ : ∃ m', m = m' + 1 := ⟨m - 1, by omega⟩
    simp only [l_X4_findLatest_29, b_X4_findLatest_29, fo]
    rw [if_pos (by rw [H.1]; exact nI_le (by omega) (by omega)), c_dur H W ht, qb_I, e_put (show t < 12 by omega) (by decide), qb_V]
  | succ d ih =>
    intro i m a hi hm
    obtain ⟨m, rfl⟩ : ∃ m', m = m' + 1 := ⟨m - 1, by omega⟩
    simp only [l_X4_findLatest_29, b_X4_findLatest_29]
    rw [if_neg (by rw [H.1]; exact nI_ge (by omega) (by omega)), c_linked H W (by omega) (by omega), qb_I, fo]
    by_cases e : ped P i t = true
    · rw [e, if_neg (by decide), e_at (show i < 12 by omega) (by decide), qb_I, nI_1, ih (i + 1) m _ (by omega) (by omega), if_pos rfl]
    · rw [show ped P i t = false by simpa using e, if_pos (by rfl), nI_1, ih (i + 1) m _ (by omega) (by omega), if_neg (by decide)]
theorem c_late_out {j : Nat} (W : PW P) : ∀ (i m : Nat) (σ : qS), i ≤ pn P → i < m → Rep σ j P → (∀ k, k < pn P → σ 12 0 k = nI (pord P k)) → σ 11 0 7 = plast P (pE P) → (∀ k, i ≤ k → k < pn P → σ 16 0 (pord P k) = pL P (pord P k)) →
    ∃ σ', l_X4_findLatest_7 j m (nI i - 1) σ = qdo σ' ∧ qsm [16] σ σ' ∧ ∀ t, t < pn P → σ' 16 0 t = pL P t := by
  have hn := W.1
  intro i
  induction i with
  | zero =>
    intro m σ hi hm H h12 h11 h1
    obtain ⟨m, rfl⟩ : ∃ m', m = m' + 1 := ⟨m - 1, by omega⟩
    refine ⟨σ, ?_, qsm.refl _ _, fun t ht => ?_⟩
    · simp only [l_X4_findLatest_7, b_X4_findLatest_7]
      rw [if_pos (by decide)]
    · obtain ⟨k, hk, rfl⟩ := pord_all W ht
      exact h1 k (Nat.zero_le _) hk
  | succ i ih =>
    intro m σ hi hm H h12 h11 h1
    obtain ⟨m, rfl⟩ : ∃ m', m = m' + 1 := ⟨m - 1, by omega⟩
    have hlt := pord_lt W (k := i) (by omega)
    simp only [l_X4_findLatest_7, b_X4_findLatest_7]
    rw [nI_pred, if_neg (n_ge0 (by omega)), e_at (show i < 12 by omega) (by decide), qb_I, h12 i (by omega), show (0 : Int32) = nI 0 from rfl, c_late_in W hlt H (pn P) 0 qFU _ (by omega) (by unfold qFU; omega), n_dec]
    have e1 : fo (fun o a => if ped P o (pord P i) = true then qmin a (σ 16 0 o) else a) (pn P) 0 (σ 11 0 7) - pf P 0 (pord P i) = pL P (pord P i) := by
      rw [pL_is W (pord P i) hlt, h11]
      congr 1
      refine plat_congr (f := σ 16 0) (fun o ho e => ?_)
      obtain ⟨q, hq, rfl⟩ := pord_all W ho
      obtain ⟨k', hk', ek⟩ := pord_need W hq e
      have : k' = i := by
        rcases Nat.lt_trichotomy k' i with h | h | h
        · exact absurd ek (pord_inj W h (by omega))
        · exact h
        · exact absurd ek.symm (pord_inj W h (by omega))
      exact h1 q (by omega) hq
    rw [e1]
    have q1 := qsm_qu σ 16 0 (pord P i) (pL P (pord P i))
    obtain ⟨σ2, a1, a2, a3⟩ := ih m (qu σ 16 0 (pord P i) (pL P (pord P i))) (by omega) (by omega) (H.same q1 (by simp)) (fun k hk => by rw [q1 12 0 (by simp)]; exact h12 k hk) (by rw [q1 11 0 (by simp)]; exact h11) (fun k hk1 hk2 => by
      rw [qu_at]
      by_cases e : pord P k = pord P i
      · rw [if_pos ⟨rfl, rfl, e⟩, e]
      · rw [if_neg (fun h => e h.2.2)]
        refine h1 k ?_ hk2
        rcases Nat.lt_or_ge i k with h | h
        · exact h
        · have : k = i := by omega
          rw [this] at e
          exact absurd rfl e)
    exact ⟨σ2, a1, q1.trans a2, a3⟩
theorem c_findLatest {j : Nat} (W : PW P) {σ : qS} (H : Rep σ j P) (h12 : ∀ k, k < pn P → σ 12 0 k = nI (pord P k)) (h11 : σ 11 0 7 = plast P (pE P)) : ∃ σ', f_X4_findLatest j σ = qdo σ' ∧ qsm [16] σ σ' ∧ ∀ t, t < pn P → σ' 16 0 t = pL P t := by
  have hn := W.1
  unfold f_X4_findLatest
  rw [H.1]
  exact c_late_out W (pn P) qFU σ (Nat.le_refl _) (by unfold qFU; omega) H h12 h11 (fun k h1 h2 => by omega)
end LA

