/-! THE LAW'S LEVELS are the class's, and its use of the resources -/
def Use (σ : qS) (u : Nat → Nat → Nat) : Prop := ∀ r, r < 3 → σ 50 (4 + r) qLI = nI 200 ∧ ∀ d, d < 200 → σ 50 (4 + r) d = nI (u r d)
section LL
variable {P : qP} {hs : List qP} {σ σ' : qS} {ks : List (Nat × Nat)}
theorem Use.len {u : Nat → Nat → Nat} (U : Use σ u) {r : Nat} (hr : r < 3) : qln (σ 50 (4 + r)) = 200 := by
  unfold qln
  rw [(U r hr).1, nI_clamp (by decide)]
theorem Use.congr {u u' : Nat → Nat → Nat} (U : Use σ u) (h : ∀ r d, r < 3 → d < 200 → u r d = u' r d) : Use σ u' := fun r hr => ⟨(U r hr).1, fun d hd => by rw [(U r hr).2 d hd, h r d hr hd]⟩
theorem Use.sn {u : Nat → Nat → Nat} (U : Use σ u) (q : qsn ks σ σ') (h : ∀ r, r < 3 → (50, 4 + r) ∉ ks) : Use σ' u := fun r hr => by
  rw [q 50 (4 + r) (h r hr)]
  exact U r hr
theorem Use.put {u : Nat → Nat → Nat} (U : Use σ u) {r d : Nat} (hr : r < 3) (hd : d < 200) (m : Nat) : Use (qu σ 50 (4 + r) d (nI (u r d + m))) (fun r' d' => if r' = r ∧ d' = d then u r d + m else u r' d') := fun r' hr' => by
  have hl := n_li (show d < 1000 by omega)
  refine ⟨by rw [qu_at, if_neg (by rintro ⟨-, -, h⟩; exact hl h.symm)]; exact (U r' hr').1, fun d' hd' => ?_⟩
  rw [qu_at]
  show _ = nI (if r' = r ∧ d' = d then u r d + m else u r' d')
  by_cases h : r' = r ∧ d' = d
  · rw [if_pos ⟨rfl, by rw [h.1], h.2⟩, if_pos h]
  · rw [if_neg (fun h2 => h ⟨by omega, h2.2.2⟩), if_neg h]; exact (U r' hr').2 d' hd'
/-! whether it fits -/
theorem l_fits_loop {x : Int32} {lev : Nat → Nat} (I : InvB σ P hs) (U : Use σ (pU P x lev)) {t s : Nat} (ht : t < pn P) (hs2 : s + pdn P t ≤ 138) : ∀ (k d m : Nat) (a : Bool), d + k = s + pdn P t → k < m → l_L_fits_6 m (nI t) (nI s) (qb1 a) (nI d) σ = qan (qb1 (a && pfd P x lev t k d)) σ := by
  have W := I.1
  have hn := W.1
  have hr := W.rn ht
  have hl := W.ln hr.2
  have hm2 := W.mn ht
  intro k
  induction k with
  | zero =>
    intro d m a hd hm
    obtain ⟨m, rfl⟩ : ∃ m', m = m' + 1 := ⟨m - 1, by omega⟩
    simp only [l_L_fits_6, b_L_fits_6]
    rw [m_duration I ht, qb_I, (W.dn ht).1, nI_add, if_pos (nI_le (by omega) (by omega)), if_pos (qb1_bo _), pfd, Bool.and_true]
  | succ k ih =>
    intro d m a hd hm
    obtain ⟨m, rfl⟩ : ∃ m', m = m' + 1 := ⟨m - 1, by omega⟩
    have ih0 := ih (d + 1) m false (by omega) (by omega)
    have ih1 := ih (d + 1) m true (by omega) (by omega)
    rw [qb1_f, Bool.false_and] at ih0
    rw [qb1_t, Bool.true_and] at ih1
    have hu := pU_le W (x := x) (lev := lev) (r := prn P t) (d := d)
    simp only [l_L_fits_6, b_L_fits_6]
    rw [m_duration I ht, qb_I, (W.dn ht).1, nI_add, if_neg (nI_ge (by omega) (by omega)), nI_1]
    cases a
    · rw [qb1_f, if_pos rfl, Bool.false_and]
      exact ih0
    · rw [qb1_t, if_neg (by decide), m_resource I ht, qb_I, hr.1, if_pos (n_in hr.2 (by decide)), nI_clamp (show prn P t < 2 ^ 31 by omega), if_pos (by rw [U.len hr.2]; exact n_in (by omega) (by decide)), m_demand I ht, qb_I, m_resource I ht, qb_I, hr.1, m_limit I hr.2, qb_I, nI_clamp (show d < 2 ^ 31 by omega), (U _ hr.2).2 d (by omega), hm2.1, hl.1, nI_add, Bool.true_and, pfd]
      by_cases h : pU P x lev (prn P t) d + pmn P t ≤ pln P (prn P t)
      · rw [if_neg (fun h2 => by rw [n_lt (by omega) (by omega)] at h2; omega), decide_eq_true h, Bool.true_and]
        exact ih1
      · rw [if_pos ((n_lt (by omega) (by omega)).mpr (by omega)), decide_eq_false h, Bool.false_and]
        exact ih0
theorem l_fits {x : Int32} {lev : Nat → Nat} (I : InvB σ P hs) (U : Use σ (pU P x lev)) {t s : Nat} (ht : t < pn P) (hs2 : s + pdn P t ≤ 138) : f_L_fits (nI t) (nI s) σ = qan (qb1 (pfit P x lev t s)) σ := by
  have := (I.1.dn ht).2
  have h := l_fits_loop I U ht hs2 (pdn P t) s qFU true rfl (by unfold qFU; omega)
  rw [Bool.true_and] at h
  exact h
/-! its place -/
theorem l_add_loop {rk : Int32 → Int32 → qS → Option qO} {i t s : Nat} (ht : t < pn P) (hs2 : s + pdn P t ≤ 138) : ∀ (k d m : Nat) (σ : qS) (f : Nat → Int32) (b : Nat → Bool) (u : Nat → Nat → Nat), d + k = s + pdn P t → k < m → InvB σ P hs → Row σ 3 (pn P) f → Bow σ (pn P) b → Use σ u →
    ∃ σ', l_L_levelled_128 rk m (nI (pn P)) (nI i) (nI t) (nI s) (nI d) σ = rk (nI (pn P)) (nI (i + 1)) (qu (qu σ' 50 3 t (nI s)) 51 0 t 1) ∧ qsn [(50, 4), (50, 5), (50, 6)] σ σ' ∧ Use σ' (fun r y => if r = prn P t ∧ d ≤ y ∧ y < d + k then u r y + pmn P t else u r y) := by
  intro k
  induction k with
  | zero =>
    intro d m σ f b u hd hm I R B U
    have W := I.1
    have hn := W.1
    obtain ⟨m, rfl⟩ : ∃ m', m = m' + 1 := ⟨m - 1, by omega⟩
    refine ⟨σ, ?_, qsn.refl _ _, U.congr (fun r y _ _ => by rw [if_neg (by omega)])⟩
    have B2 : Bow (qu σ 50 3 t (nI s)) (pn P) b := B.otherp (by omega)
    simp only [l_L_levelled_128, b_L_levelled_128]
    rw [m_duration I ht, qb_I, (W.dn ht).1, nI_add, if_pos (nI_le (by omega) (by omega)), if_pos (by rw [R.len (by omega)]; exact n_in (by omega) (by omega)), qlet_eq, nI_clamp (show t < 2 ^ 31 by omega), if_pos (by rw [B2.len (by omega)]; exact n_in (by omega) (by omega)), qlet_eq, nI_1]
  | succ k ih =>
    intro d m σ f b u hd hm I R B U
    have W := I.1
    have hn := W.1
    have hr := W.rn ht
    obtain ⟨m, rfl⟩ : ∃ m', m = m' + 1 := ⟨m - 1, by omega⟩
    have q1 : qsn [(50, 4), (50, 5), (50, 6)] σ (qu σ 50 (4 + prn P t) d (nI (u (prn P t) d + pmn P t))) := (qsn_qu σ 50 (4 + prn P t) d _).mono (fun q hq => by
      rw [List.mem_singleton.mp hq]
      rcases (show prn P t = 0 ∨ prn P t = 1 ∨ prn P t = 2 by omega) with h | h | h <;> rw [h] <;> simp)
    obtain ⟨σ2, e2, q2, U2⟩ := ih (d + 1) m (qu σ 50 (4 + prn P t) d (nI (u (prn P t) d + pmn P t))) f b _ (by omega) (by omega) (I.hn q1 (by simp)) (R.otherp (by omega)) (B.otherp (by omega)) (U.put hr.2 (show d < 200 by omega) (pmn P t))
    refine ⟨σ2, ?_, q1.trans q2, U2.congr (fun r y hr' hy => ?_)⟩
    · simp only [l_L_levelled_128, b_L_levelled_128]
      rw [m_duration I ht, qb_I, (W.dn ht).1, nI_add, if_neg (nI_ge (by omega) (by omega)), m_resource I ht, qb_I, hr.1, if_pos (n_in hr.2 (by decide)), nI_clamp (show prn P t < 2 ^ 31 by omega), if_pos (by rw [U.len hr.2]; exact n_in (by omega) (by decide)), m_demand I ht, qb_I, if_pos (by rw [U.len hr.2]; exact n_in (by omega) (by decide)), qlet_eq, nI_clamp (show d < 2 ^ 31 by omega), (U _ hr.2).2 d (by omega), (W.mn ht).1, nI_add, nI_1]
      exact e2
    · show (if r = prn P t ∧ d + 1 ≤ y ∧ y < d + 1 + k then (if r = prn P t ∧ y = d then u (prn P t) d + pmn P t else u r y) + pmn P t else (if r = prn P t ∧ y = d then u (prn P t) d + pmn P t else u r y)) = if r = prn P t ∧ d ≤ y ∧ y < d + (k + 1) then u r y + pmn P t else u r y
      by_cases h : r = prn P t
      · subst h
        by_cases h2 : y = d
        · subst h2
          rw [if_neg (by omega), if_pos ⟨rfl, rfl⟩, if_pos ⟨rfl, Nat.le_refl _, by omega⟩]
        · rw [if_neg (show ¬ (prn P t = prn P t ∧ y = d) from fun h3 => h2 h3.2)]
          by_cases h3 : d + 1 ≤ y ∧ y < d + 1 + k
          · rw [if_pos ⟨rfl, h3⟩, if_pos ⟨rfl, by omega, by omega⟩]
          · rw [if_neg (fun h4 => h3 h4.2), if_neg (fun h4 => h3 (by omega))]
      · rw [if_neg (fun h2 => h h2.1), if_neg (fun h2 => h h2.1), if_neg (fun h2 => h h2.1)]
theorem l_low_loop {rk : Int32 → Int32 → qS → Option qO} {i : Nat} {x : Int32} {lev : Nat → Nat} (I : InvB σ P hs) (U : Use σ (pU P x lev)) {t D : Nat} (ht : t < pn P) (hD : D + pdn P t ≤ 138) (hf : pfit P x lev t D = true) : ∀ (k s m : Nat), s ≤ D → D < s + k → k < m →
    l_L_levelled_106 rk m (nI (pn P)) (nI i) (nI t) (nI s) σ = l_L_levelled_128 rk qFU (nI (pn P)) (nI i) (nI t) (nI (plow P x lev t k s)) (nI (plow P x lev t k s)) σ := by
  intro k
  induction k with
  | zero => intro s m h1 h2; omega
  | succ k ih =>
    intro s m h1 h2 hm
    obtain ⟨m, rfl⟩ : ∃ m', m = m' + 1 := ⟨m - 1, by omega⟩
    simp only [l_L_levelled_106, b_L_levelled_106]
    rw [l_fits I U ht (by omega), qb_I, plow]
    by_cases h : pfit P x lev t s = true
    · rw [h, if_neg (by decide), if_pos rfl]
    · have hsD : s ≠ D := fun e => h (e ▸ hf)
      rw [show pfit P x lev t s = false by simpa using h, if_pos (by rfl), if_neg (by decide), nI_1, ih (s + 1) m (by omega) (by omega) (by omega)]
/-! the most urgent -/
def pugs (P : qP) (w : Bool) (i a : Nat) : Nat := if w = true then (if a = pn P then i else if pL P i < pL P a then i else a) else a
theorem l_j58 {rk : Int32 → Int32 → qS → Option qO} {rk28 : Int32 → Int32 → Int32 → Int32 → qS → Option qO} {v3 v6 : Int32} (W : PW P) (R : Row σ 2 (pn P) (pL P)) {i a : Nat} (hi : i < pn P) (ha : a ≤ pn P) (w : Bool) : j_L_levelled_58 rk rk28 v3 v6 (qno P a) (nI i) (qb1 w) σ = rk28 v3 v6 (qno P (pugs P w i a)) (nI (i + 1)) σ := by
  have hn := W.1
  unfold j_L_levelled_58 pugs
  cases w
  · rw [qb1_f, if_pos rfl, nI_1, if_neg (by decide)]
  · rw [qb1_t, if_neg (by decide), if_pos rfl, nI_1]
    by_cases h : a = pn P
    · rw [h, qno_m, if_pos (by decide), if_pos rfl, qno_n (by omega)]
    · rw [qno_n h, if_neg (n_ge0 (by omega)), if_pos (by rw [R.len (by omega)]; exact n_in (by omega) (by omega)), if_pos (by rw [R.len (by omega)]; exact n_in (by omega) (by omega)), if_neg h, nI_clamp (show a < 2 ^ 31 by omega), nI_clamp (show i < 2 ^ 31 by omega), R.2 a (by omega), R.2 i hi]
      by_cases h2 : pL P i < pL P a
      · rw [if_pos h2, if_neg (fun h3 => by rw [i_le] at h3; rw [i_lt] at h2; omega), qno_n (by omega)]
      · rw [if_neg h2, if_pos (by rw [i_le]; rw [i_lt] at h2; omega), qno_n h]
theorem l_urg_loop {rk : Int32 → Int32 → qS → Option qO} {k : Nat} {x : Int32} (I : InvB σ P hs) (R : Row σ 2 (pn P) (pL P)) (B : Bow σ (pn P) (qbit x)) : ∀ (d i m a : Nat), i + d = pn P → d < m → a ≤ pn P → pug P x d i a < pn P →
    l_L_levelled_28 rk m (nI (pn P)) (nI k) (qno P a) (nI i) σ = qbind (f_L_soonest (nI (pug P x d i a)) 3 σ) (qvI (fun r1 s3 => l_L_levelled_106 rk qFU (nI (pn P)) (nI k) (nI (pug P x d i a)) r1 s3)) qE0 := by
  have W := I.1
  have hn := W.1
  intro d
  induction d with
  | zero =>
    intro i m a hi hm ha hp
    obtain ⟨m, rfl⟩ : ∃ m', m = m' + 1 := ⟨m - 1, by omega⟩
    have hp2 : a < pn P := hp
    simp only [l_L_levelled_28, b_L_levelled_28]
    rw [if_pos (nI_le (by omega) (by omega)), qno_n (by omega)]
    rfl
  | succ d ih =>
    intro i m a hi hm ha hp
    obtain ⟨m, rfl⟩ : ∃ m', m = m' + 1 := ⟨m - 1, by omega⟩
    have hx : pug P x (d + 1) i a = pug P x d (i + 1) (pugs P (pready P x i) i a) := rfl
    have hg := g_free (x := x) W (show i < pn P by omega)
    have ha2 : pugs P (pready P x i) i a ≤ pn P := by
      unfold pugs
      split
      · split
        · omega
        · split <;> omega
      · exact ha
    have ih2 := ih (i + 1) m (pugs P (pready P x i) i a) (by omega) (by omega) ha2 (by rw [← hx]; exact hp)
    rw [hx]
    simp only [l_L_levelled_28, b_L_levelled_28]
    rw [if_neg (nI_ge (by omega) (by omega)), if_pos (by rw [B.len (by omega)]; exact n_in (by omega) (by omega)), nI_clamp (show i < 2 ^ 31 by omega), B.2 i (by omega)]
    cases hb : qbit x i
    · rw [hb, Bool.not_false, Bool.true_and] at hg
      rw [qb1_f, if_pos rfl, l_free I B (by omega), qb_I, hg]
      have j := l_j58 (rk := rk) (rk28 := l_L_levelled_28 rk m) (v3 := nI (pn P)) (v6 := nI k) W R (show i < pn P by omega) ha (pready P x i)
      cases hr : pready P x i
      · rw [hr] at j ih2
        rw [qb1_f] at j
        rw [qb1_f, if_pos rfl, j]
        exact ih2
      · rw [hr] at j ih2
        rw [qb1_t] at j
        rw [qb1_t, if_neg (by decide), j]
        exact ih2
    · rw [hb, Bool.not_true, Bool.false_and] at hg
      have j := l_j58 (rk := rk) (rk28 := l_L_levelled_28 rk m) (v3 := nI (pn P)) (v6 := nI k) W R (show i < pn P by omega) ha false
      rw [← hg] at ih2 ⊢
      rw [qb1_f] at j
      rw [qb1_t, if_neg (by decide), j]
      exact ih2
/-! all levels -/
theorem l_lev_loop : ∀ (d i m : Nat) (σ : qS) (f : Nat → Int32), i + d = pn P → d < m → InvB σ P hs → Row σ 2 (pn P) (pL P) → Row σ 3 (pn P) f → (∀ t, t < pn P → qbit (pst P i).1 t = true → f t = nI ((pst P i).2 t)) → Bow σ (pn P) (qbit (pst P i).1) → Use σ (pU P (pst P i).1 (pst P i).2) →
    ∃ σ', l_L_levelled_16 m (nI (pn P)) (nI i) σ = some (.inl (some (qR 50 3)), σ') ∧ qsn [(50, 3), (51, 0), (50, 4), (50, 5), (50, 6)] σ σ' ∧ Row σ' 3 (pn P) (fun t => nI (pV P t)) ∧ Use σ' (pUf P) := by
  intro d
  induction d with
  | zero =>
    intro i m σ f hi hm I R2 R hf B U
    have W := I.1
    have hn := W.1
    obtain ⟨m, rfl⟩ : ∃ m', m = m' + 1 := ⟨m - 1, by omega⟩
    have hi : i = pn P := by omega
    subst hi
    refine ⟨σ, ?_, qsn.refl _ _, R.congr (fun t ht => hf t ht (pst_full W ht)), U⟩
    simp only [l_L_levelled_16, b_L_levelled_16]
    rw [if_pos (Int32.le_refl _)]
  | succ d ih =>
    intro i m σ f hi hm I R2 R hf B U
    have W := I.1
    have hn := W.1
    obtain ⟨m, rfl⟩ : ∃ m', m = m' + 1 := ⟨m - 1, by omega⟩
    obtain ⟨s1, s2, s3, s4, s5, s6⟩ := pst_step W (i := i) (by omega)
    have hps : psoon P f (pur P (pst P i).1) = nI (ps0 P (pst P i).2 (pur P (pst P i).1)) := by
      rw [← s3]
      exact psoon_congr (fun u hu e => hf u hu ((pready_iff.mp s2).2 u (by omega) e))
    have hd := (W.dn s1).2
    obtain ⟨σ1, e1, q1, U1⟩ := l_add_loop (rk := l_L_levelled_16 m) (i := i) s1 s5 (pdn P (pur P (pst P i).1)) _ qFU σ f _ _ rfl (by unfold qFU; omega) I R B U
    have q2 : qsn [(50, 3), (51, 0), (50, 4), (50, 5), (50, 6)] σ1 (qu (qu σ1 50 3 (pur P (pst P i).1) (nI (plow P (pst P i).1 (pst P i).2 (pur P (pst P i).1) 200 (ps0 P (pst P i).2 (pur P (pst P i).1))))) 51 0 (pur P (pst P i).1) 1) := ((qsn_qu _ 50 3 _ _).mono (by simp)).trans ((qsn_qu _ 51 0 _ _).mono (by simp))
    have q12 := (q1.mono (ks' := [(50, 3), (51, 0), (50, 4), (50, 5), (50, 6)]) (by simp)).trans q2
    obtain ⟨σ2, e2, q3, r2⟩ := ih (i + 1) m _ (fun y => if y = pur P (pst P i).1 then nI (plow P (pst P i).1 (pst P i).2 (pur P (pst P i).1) 200 (ps0 P (pst P i).2 (pur P (pst P i).1))) else f y) (by omega) (by omega) (I.hn q12 (by simp)) (R2.sn q12 (by simp)) (((R.sn q1 (by simp)).put (by omega)).otherp (by omega)) (fun t ht hb => by
      show (if t = pur P (pst P i).1 then nI (plow P (pst P i).1 (pst P i).2 (pur P (pst P i).1) 200 (ps0 P (pst P i).2 (pur P (pst P i).1))) else f t) = nI (if t = pur P (pst P i).1 then plow P (pst P i).1 (pst P i).2 (pur P (pst P i).1) 200 (ps0 P (pst P i).2 (pur P (pst P i).1)) else (pst P i).2 t)
      by_cases e : t = pur P (pst P i).1
      · rw [if_pos e, if_pos e]
      · rw [if_neg e, if_neg e]
        refine hf t ht ?_
        have hb2 : qbit ((pst P i).1 ||| ((1 : Int32) <<< (nI (pur P (pst P i).1) &&& 31))) t = true := hb
        rw [qbit_put (by omega)] at hb2
        simp only [Bool.or_eq_true, decide_eq_true_eq] at hb2
        exact hb2.elim (fun h => h) (fun h => absurd h.symm e)) ((((B.sn q1 (by simp)).otherp (by omega)).put (show pur P (pst P i).1 < 1000 by omega)).congr (fun u hu => (qbit_put (S := (pst P i).1) (i := pur P (pst P i).1) (u := u) (by omega)).symm)) ((((U1.sn (qsn_qu _ 50 3 _ _) (by intro r hr; simp; omega)).sn (qsn_qu _ 51 0 _ _) (by intro r hr; simp))).congr (fun r y hr hy => by
      have := pU_put (P := P) (lev := (pst P i).2) (s := plow P (pst P i).1 (pst P i).2 (pur P (pst P i).1) 200 (ps0 P (pst P i).2 (pur P (pst P i).1))) s1 (by omega) (pready_iff.mp s2).1 r y
      show _ = pU P ((pst P i).1 ||| ((1 : Int32) <<< (nI (pur P (pst P i).1) &&& 31))) (fun u => if u = pur P (pst P i).1 then plow P (pst P i).1 (pst P i).2 (pur P (pst P i).1) 200 (ps0 P (pst P i).2 (pur P (pst P i).1)) else (pst P i).2 u) r y
      rw [this]
      by_cases h : r = prn P (pur P (pst P i).1) ∧ plow P (pst P i).1 (pst P i).2 (pur P (pst P i).1) 200 (ps0 P (pst P i).2 (pur P (pst P i).1)) ≤ y ∧ y < plow P (pst P i).1 (pst P i).2 (pur P (pst P i).1) 200 (ps0 P (pst P i).2 (pur P (pst P i).1)) + pdn P (pur P (pst P i).1)
      · rw [if_pos h, if_pos ⟨h.1.symm, h.2⟩]
      · rw [if_neg h, if_neg (fun h2 => h ⟨h2.1.symm, h2.2⟩), Nat.add_zero]))
    refine ⟨σ2, ?_, q12.trans q3, r2⟩
    have hu := l_urg_loop (rk := l_L_levelled_16 m) (k := i) I R2 B (pn P) 0 qFU (pn P) (by omega) (by unfold qFU; omega) (Nat.le_refl _) s1
    have hl := l_low_loop (rk := l_L_levelled_16 m) (i := i) I U s1 s5 s6 200 (ps0 P (pst P i).2 (pur P (pst P i).1)) qFU s4 (by omega) (by unfold qFU; omega)
    rw [qno_m] at hu
    simp only [l_L_levelled_16, b_L_levelled_16]
    rw [if_neg (nI_ge (by omega) (by omega)), show (0 : Int32) = nI 0 from rfl, hu]
    show qbind (f_L_soonest (nI (pur P (pst P i).1)) 3 σ) (qvI (fun r1 s3 => l_L_levelled_106 (l_L_levelled_16 m) qFU (nI (pn P)) (nI i) (nI (pur P (pst P i).1)) r1 s3)) qE0 = _
    rw [l_soon I R s1, qb_I, hps, hl, e1]
    exact e2
theorem l_levelled (I : InvB σ P hs) (R2 : Row σ 2 (pn P) (pL P)) (U : Use σ (fun _ _ => 0)) : ∃ σ', f_L_levelled σ = some (.inl (some (qR 50 3)), σ') ∧ qsn [(50, 3), (51, 0), (50, 4), (50, 5), (50, 6)] σ σ' ∧ Row σ' 3 (pn P) (fun t => nI (pV P t)) ∧ Use σ' (pUf P) := by
  have hn := I.1.1
  have q1 : qsn [(50, 3), (51, 0), (50, 4), (50, 5), (50, 6)] σ (qrw (qrw σ 50 3 (qzr (nI (pn P)))) 51 0 (qzr (nI (pn P)))) := ((qsn_qrw σ 50 3 _).mono (by simp)).trans ((qsn_qrw _ 51 0 _).mono (by simp))
  have R := (Row.new σ 3 (show pn P < 1000 by omega)).other (k := 51) (j' := 0) (r := qzr (nI (pn P))) (by omega)
  have B := Bow.new (qrw σ 50 3 (qzr (nI (pn P)))) (show pn P < 1000 by omega)
  have U0 : Use (qrw (qrw σ 50 3 (qzr (nI (pn P)))) 51 0 (qzr (nI (pn P)))) (fun _ _ => 0) := (U.sn (qsn_qrw σ 50 3 _) (by intro r hr; simp; omega)).sn (qsn_qrw _ 51 0 _) (by intro r hr; simp)
  obtain ⟨σ2, e2, q2, r2⟩ := l_lev_loop (pn P) 0 qFU _ _ (by omega) (by unfold qFU; omega) (I.hn q1 (by simp)) (R2.sn q1 (by simp)) R (fun t ht hb => by rw [pst0] at hb; cases hb) (B.congr (fun u _ => (pst0 P u).symm)) (U0.congr (fun r d _ _ => (pU_none (B := 0) (fun u hb => by rw [pst0] at hb; cases hb) (Nat.zero_le d)).symm))
  refine ⟨σ2, ?_, q1.trans q2, r2⟩
  have hl := n_ofl (R2.len (show pn P < 1000 by omega))
  have hc : (0 : Int32) ≤ nI (pn P) ∧ nI (pn P) ≤ nI 12 := ⟨nI_pos' (by omega), nI_le (by omega) (by omega)⟩
  unfold f_L_levelled
  rw [hl, if_pos hc, qlet_eq, if_pos hc, qlet_eq]
  exact e2
end LL
