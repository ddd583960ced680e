/-! THE LAW'S STARTS: its order, its earliest, its latest starts are the class's -/
def qsn (ks : List (Nat × Nat)) (σ σ' : qS) : Prop := ∀ a b, (a, b) ∉ ks → σ' a b = σ a b
section LS
variable {P : qP} {hs : List qP} {σ σ' σ'' : qS} {ks ks' : List (Nat × Nat)}
theorem qsn.refl (ks : List (Nat × Nat)) (σ : qS) : qsn ks σ σ := fun _ _ _ => rfl
theorem qsn.trans (h : qsn ks σ σ') (h2 : qsn ks σ' σ'') : qsn ks σ σ'' := fun a b ha => (h2 a b ha).trans (h a b ha)
theorem qsn.mono (h : qsn ks σ σ') (hk : ∀ q ∈ ks, q ∈ ks') : qsn ks' σ σ' := fun a b ha => h a b (fun h2 => ha (hk _ h2))
theorem qsn_qu (σ : qS) (k j i : Nat) (v : Int32) : qsn [(k, j)] σ (qu σ k j i v) := fun a b ha => qu_other σ (fun h => ha (by rw [h.1, h.2]; exact List.mem_singleton.mpr rfl))
theorem qsn_qrw (σ : qS) (k j : Nat) (r : Nat → Int32) : qsn [(k, j)] σ (qrw σ k j r) := fun a b ha => qrw_ne σ r (fun h => ha (by rw [h.1, h.2]; exact List.mem_singleton.mpr rfl))
theorem qsn.sm (h : qsn ks σ σ') : qsm (ks.map Prod.fst) σ σ' := fun a b ha => h a b (fun h2 => ha (List.mem_map.mpr ⟨_, h2, rfl⟩))
theorem InvB.hn (I : InvB σ P hs) (q : qsn ks σ σ') (hk : ∀ k ∈ ks.map Prod.fst, 26 ≤ k) : InvB σ' P hs := I.hi q.sm hk
theorem Cl.hn (I : Cl σ P hs) (q : qsn ks σ σ') (hk : ∀ k ∈ ks.map Prod.fst, 26 ≤ k) : Cl σ' P hs := I.hi q.sm hk
theorem Row.congr {j n : Nat} {f f' : Nat → Int32} (R : Row σ j n f) (h : ∀ i, i < n → f i = f' i) : Row σ j n f' := ⟨R.1, fun i hi => (R.2 i hi).trans (h i hi)⟩
theorem Bow.congr {n : Nat} {b b' : Nat → Bool} (R : Bow σ n b) (h : ∀ i, i < n → b i = b' i) : Bow σ n b' := ⟨R.1, fun i hi => (R.2 i hi).trans (by rw [h i hi])⟩
theorem Row.sn {j n : Nat} {f : Nat → Int32} (R : Row σ j n f) (q : qsn ks σ σ') (h : (50, j) ∉ ks) : Row σ' j n f := R.tr (q 50 j h)
theorem Bow.sn {n : Nat} {b : Nat → Bool} (R : Bow σ n b) (q : qsn ks σ σ') (h : (51, 0) ∉ ks) : Bow σ' n b := R.tr (q 51 0 h)
theorem qb_M {K J : Nat} {s : qS} {k : qS → Option qO} {ke : String → qS → Option qO} : qbind (some (.inl (some (qR K J)), s)) (qvM K J k) ke = k s := by
  show (if K = K ∧ J = J then k s else none) = k s
  rw [if_pos ⟨rfl, rfl⟩]
/-! the order -/
theorem l_ord_fin {rk : Int32 → Int32 → qS → Option qO} {f : Nat → Int32} {b : Nat → Bool} (hn : pn P ≤ 12) (R : Row σ 0 (pn P) f) (B : Bow σ (pn P) b) {k t : Nat} (hk : k < pn P) (ht : t < pn P) {v1 : Int32} :
    (if qin (nI k) (qln (σ 50 0)) then qlet (qu σ 50 0 (nI k).toNatClampNeg (nI t)) (fun s4 => (if qin (nI t) (qln (s4 51 0)) then qlet (qu s4 51 0 (nI t).toNatClampNeg (1 : Int32)) (fun s5 => rk v1 (nI k + (1 : Int32)) s5) else none)) else none) = rk v1 (nI (k + 1)) (qu (qu σ 50 0 k (nI t)) 51 0 t 1) := by
  have B2 : Bow (qu σ 50 0 k (nI t)) (pn P) b := B.otherp (by omega)
  rw [if_pos (by rw [R.len (by omega)]; exact n_in (by omega) (by omega)), qlet_eq, nI_clamp (by omega), nI_clamp (by omega), if_pos (by rw [B2.len (by omega)]; exact n_in (by omega) (by omega)), qlet_eq, nI_1]
theorem l_ord_in {rk : Int32 → Int32 → qS → Option qO} {x : Int32} {f : Nat → Int32} (I : InvB σ P hs) (R : Row σ 0 (pn P) f) (B : Bow σ (pn P) (qbit x)) {k : Nat} (hk : k < pn P) : ∀ (d i m : Nat), i + d = pn P → d < m → pfs P x d i < pn P →
    l_L_ordered_28 rk m (nI (pn P)) (nI k) (-1) (nI i) σ = rk (nI (pn P)) (nI (k + 1)) (qu (qu σ 50 0 k (nI (pfs P x d i))) 51 0 (pfs P x d i) 1) := by
  have hn := I.1.1
  intro d
  induction d with
  | zero =>
    intro i m hi hm hp
    exfalso
    unfold pfs at hp
    omega
  | succ d ih =>
    intro i m hi hm hp
    obtain ⟨m, rfl⟩ : ∃ m', m = m' + 1 := ⟨m - 1, by omega⟩
    have hx : pfs P x (d + 1) i = if pready P x i = true then i else pfs P x d (i + 1) := rfl
    have hg := g_free (x := x) I.1 (show i < pn P by omega)
    simp only [l_L_ordered_28, b_L_ordered_28]
    rw [if_neg (nI_ge (by omega) (by omega)), if_neg (by decide), if_pos (by rw [B.len (by omega)]; exact n_in (by omega) (by omega)), nI_clamp (show i < 2 ^ 31 by omega), B.2 i (by omega)]
    cases hb : qbit x i
    · rw [hb, Bool.not_false, Bool.true_and] at hg
      rw [qb1_f, if_pos rfl, l_free I B (by omega), qb_I, hg]
      cases hr : pready P x i
      · rw [hr, if_neg (by decide)] at hx
        rw [qb1_f, if_pos rfl, nI_1, hx]
        exact ih (i + 1) m (by omega) (by omega) (by rw [← hx]; exact hp)
      · rw [hr, if_pos rfl] at hx
        rw [qb1_t, if_neg (by decide), hx]
        obtain ⟨m, rfl⟩ : ∃ m', m = m' + 1 := ⟨m - 1, by omega⟩
        simp only [l_L_ordered_28, b_L_ordered_28]
        rw [l_ord_fin hn R B hk (show i < pn P by omega), if_pos (nI_pos' (show i < 2 ^ 31 by omega)), ite_self]
    · rw [hb, Bool.not_true, Bool.false_and] at hg
      rw [← hg, if_neg (by decide)] at hx
      rw [qb1_t, if_neg (by decide), nI_1, hx]
      exact ih (i + 1) m (by omega) (by omega) (by rw [← hx]; exact hp)
theorem l_ord_out : ∀ (d i m : Nat) (σ : qS) (f : Nat → Int32), i + d = pn P → d < m → InvB σ P hs → Row σ 0 (pn P) f → (∀ k, k < i → f k = nI (pord P k)) → Bow σ (pn P) (qbit (pmask P i)) →
    ∃ σ', l_L_ordered_16 m (nI (pn P)) (nI i) σ = some (.inl (some (qR 50 0)), σ') ∧ qsn [(50, 0), (51, 0)] σ σ' ∧ Row σ' 0 (pn P) (fun k => nI (pord P k)) := by
  intro d
  induction d with
  | zero =>
    intro i m σ f hi hm I R h1 B
    have hn := I.1.1
    obtain ⟨m, rfl⟩ : ∃ m', m = m' + 1 := ⟨m - 1, by omega⟩
    refine ⟨σ, ?_, qsn.refl _ _, R.congr (fun k hk => h1 k (by omega))⟩
    simp only [l_L_ordered_16, b_L_ordered_16]
    rw [if_pos (nI_le (by omega) (by omega))]
  | succ d ih =>
    intro i m σ f hi hm I R h1 B
    have hn := I.1.1
    have W := I.1
    obtain ⟨m, rfl⟩ : ∃ m', m = m' + 1 := ⟨m - 1, by omega⟩
    have hlt := pord_lt W (k := i) (by omega)
    have q1 : qsn [(50, 0), (51, 0)] σ (qu (qu σ 50 0 i (nI (pord P i))) 51 0 (pord P i) 1) := ((qsn_qu σ 50 0 i _).mono (by simp)).trans ((qsn_qu _ 51 0 (pord P i) 1).mono (by simp))
    obtain ⟨σ2, e2, q2, r2⟩ := ih (i + 1) m (qu (qu σ 50 0 i (nI (pord P i))) 51 0 (pord P i) 1) (fun x => if x = i then nI (pord P i) else f x) (by omega) (by omega) (I.hn q1 (by simp)) ((R.put (by omega)).otherp (by omega)) (fun k hk => by
      show (if k = i then nI (pord P i) else f k) = nI (pord P k)
      by_cases hki : k = i
      · rw [if_pos hki, hki]
      · rw [if_neg hki]; exact h1 k (by omega)) (((B.otherp (by omega)).put (show pord P i < 1000 by omega)).congr (fun u hu => (qbit_put (S := pmask P i) (i := pord P i) (u := u) (by omega)).symm))
    refine ⟨σ2, ?_, q1.trans q2, r2⟩
    simp only [l_L_ordered_16, b_L_ordered_16]
    rw [if_neg (nI_ge (by omega) (by omega)), show (0 : Int32) = nI 0 from rfl, l_ord_in I R B (show i < pn P by omega) (pn P) 0 qFU (by omega) (by unfold qFU; omega) hlt]
    exact e2
theorem l_ordered (I : InvB σ P hs) : ∃ σ', f_L_ordered σ = some (.inl (some (qR 50 0)), σ') ∧ qsn [(50, 0), (51, 0)] σ σ' ∧ Row σ' 0 (pn P) (fun k => nI (pord P k)) := by
  have hn := I.1.1
  have q1 : qsn [(50, 0), (51, 0)] σ (qrw (qrw σ 50 0 (qzr (nI (pn P)))) 51 0 (qzr (nI (pn P)))) := ((qsn_qrw σ 50 0 _).mono (by simp)).trans ((qsn_qrw _ 51 0 _).mono (by simp))
  have R := (Row.new σ 0 (show pn P < 1000 by omega)).other (k := 51) (j' := 0) (r := qzr (nI (pn P))) (by omega)
  have B := Bow.new (qrw σ 50 0 (qzr (nI (pn P)))) (show pn P < 1000 by omega)
  obtain ⟨σ2, e2, q2, r2⟩ := l_ord_out (pn P) 0 qFU _ _ (by omega) (by unfold qFU; omega) (I.hn q1 (by simp)) R (fun k hk => absurd hk (Nat.not_lt_zero k)) (B.congr (fun u _ => (qbit_0 u).symm))
  refine ⟨σ2, ?_, q1.trans q2, r2⟩
  have hc : (0 : Int32) ≤ nI (pn P) ∧ nI (pn P) ≤ nI 12 := ⟨nI_pos' (by omega), nI_le (by omega) (by omega)⟩
  unfold f_L_ordered
  rw [m_count I, qb_I, if_pos hc, qlet_eq, if_pos hc, qlet_eq]
  exact e2
/-! the earliest starts -/
theorem l_early_loop : ∀ (d i m : Nat) (σ : qS) (f : Nat → Int32), i + d = pn P → d < m → InvB σ P hs → Row σ 0 (pn P) (fun k => nI (pord P k)) → Row σ 1 (pn P) f → (∀ k, k < i → f (pord P k) = pE P (pord P k)) →
    ∃ σ', l_L_earliest_12 m (nI i) σ = some (.inl (some (qR 50 1)), σ') ∧ qsn [(50, 1)] σ σ' ∧ Row σ' 1 (pn P) (pE P) := by
  intro d
  induction d with
  | zero =>
    intro i m σ f hi hm I R0 R h1
    have hn := I.1.1
    obtain ⟨m, rfl⟩ : ∃ m', m = m' + 1 := ⟨m - 1, by omega⟩
    refine ⟨σ, ?_, qsn.refl _ _, R.congr (fun t ht => by obtain ⟨k, hk, rfl⟩ := pord_all I.1 ht; exact h1 k (by omega))⟩
    simp only [l_L_earliest_12, b_L_earliest_12]
    rw [if_pos (by rw [n_ofl (R0.len (by omega))]; exact nI_le (by omega) (by omega))]
  | succ d ih =>
    intro i m σ f hi hm I R0 R h1
    have hn := I.1.1
    have W := I.1
    obtain ⟨m, rfl⟩ : ∃ m', m = m' + 1 := ⟨m - 1, by omega⟩
    have hlt := pord_lt W (k := i) (by omega)
    have ev : psoon P f (pord P i) = pE P (pord P i) := by
      rw [pE_is W (pord P i) hlt]
      refine psoon_congr (fun u hu e => ?_)
      obtain ⟨k', hk', rfl⟩ := pord_need W (show i < pn P by omega) e
      exact h1 k' hk'
    have q1 := qsn_qu σ 50 1 (pord P i) (pE P (pord P i))
    obtain ⟨σ2, e2, q2, r2⟩ := ih (i + 1) m (qu σ 50 1 (pord P i) (pE P (pord P i))) (fun x => if x = pord P i then pE P (pord P i) else f x) (by omega) (by omega) (I.hn q1 (by simp)) (R0.otherp (by omega)) (R.put (by omega)) (fun k hk => by
      show (if pord P k = pord P i then pE P (pord P i) else f (pord P k)) = pE P (pord P k)
      by_cases e : pord P k = pord P i
      · rw [if_pos e, e]
      · rw [if_neg e]
        refine h1 k ?_
        rcases Nat.lt_or_ge k i with h | h
        · exact h
        · rw [show k = i by omega] at e
          exact absurd rfl e)
    refine ⟨σ2, ?_, q1.trans q2, r2⟩
    have hq : qin (nI i) (qln (σ 50 0)) := by rw [R0.len (by omega)]; exact n_in (by omega) (by omega)
    have h0 : σ 50 0 i = nI (pord P i) := R0.2 i (by omega)
    simp only [l_L_earliest_12, b_L_earliest_12]
    rw [if_neg (by rw [n_ofl (R0.len (by omega))]; exact nI_ge (by omega) (by omega)), if_pos hq, if_pos hq, nI_clamp (show i < 2 ^ 31 by omega), h0, l_soon I R hlt, qb_I, if_pos (by rw [R.len (by omega)]; exact n_in (by omega) (by omega)), qlet_eq, nI_clamp (show pord P i < 2 ^ 31 by omega), nI_1, ev]
    exact e2
theorem l_earliest (I : InvB σ P hs) : ∃ σ', f_L_earliest σ = some (.inl (some (qR 50 1)), σ') ∧ qsn [(50, 0), (51, 0), (50, 1)] σ σ' ∧ Row σ' 1 (pn P) (pE P) := by
  have hn := I.1.1
  obtain ⟨σ1, e1, q1, R0⟩ := l_ordered I
  have I1 := I.hn q1 (by simp)
  have q2 := qsn_qrw σ1 50 1 (qzr (nI (pn P)))
  obtain ⟨σ2, e2, q3, r2⟩ := l_early_loop (pn P) 0 qFU (qrw σ1 50 1 (qzr (nI (pn P)))) _ (by omega) (by unfold qFU; omega) (I1.hn q2 (by simp)) (R0.other (by omega)) (Row.new σ1 1 (by omega)) (fun k hk => absurd hk (Nat.not_lt_zero k))
  refine ⟨σ2, ?_, (q1.mono (by simp)).trans ((q2.mono (by simp)).trans (q3.mono (by simp))), r2⟩
  have hl := n_ofl (R0.len (show pn P < 1000 by omega))
  unfold f_L_earliest
  rw [e1, qb_M, hl, if_pos ⟨nI_pos' (by omega), nI_le (by omega) (by omega)⟩, qlet_eq]
  exact e2
/-! the latest starts -/
theorem l_late_in {rk : Int32 → Int32 → qS → Option qO} {f : Nat → Int32} {v1 v4 : Int32} {t : Nat} (ht : t < pn P) (I : InvB σ P hs) (R0 : Row σ 0 (pn P) (fun k => nI (pord P k))) (R : Row σ 2 (pn P) f) : ∀ (d i m : Nat) (a : Int32), i + d = pn P → d < m →
    l_L_latest_33 rk m v1 v4 (nI t) a (nI i) σ = rk v1 (v4 + (-1 : Int32)) (qu σ 50 2 t (fo (fun o a => if ped P o t = true then qmin a (f o) else a) d i a - pf P 0 t)) := by
  have hn := I.1.1
  have hl := n_ofl (R0.len (show pn P < 1000 by omega))
  intro d
  induction d with
  | zero =>
    intro i m a hi hm
    obtain ⟨m, rfl⟩ : ∃ m', m = m' + 1 := ⟨m - 1, by omega⟩
    simp only [l_L_latest_33, b_L_latest_33, fo]
    rw [if_pos (by rw [hl]; exact nI_le (by omega) (by omega)), m_duration I ht, qb_I, if_pos (by rw [R.len (by omega)]; exact n_in (by omega) (by omega)), qlet_eq, nI_clamp (by omega)]
  | succ d ih =>
    intro i m a hi hm
    obtain ⟨m, rfl⟩ : ∃ m', m = m' + 1 := ⟨m - 1, by omega⟩
    simp only [l_L_latest_33, b_L_latest_33]
    rw [if_neg (by rw [hl]; exact nI_ge (by omega) (by omega)), m_direct I (by omega) ht, qb_I, fo, nI_1]
    by_cases e : ped P i t = true
    · rw [e, if_neg (by decide), if_pos (by rw [R.len (by omega)]; exact n_in (by omega) (by omega)), nI_clamp (by omega), R.2 i (by omega), ih (i + 1) m _ (by omega) (by omega), if_pos rfl]
    · rw [show ped P i t = false by simpa using e, if_pos (by rfl), ih (i + 1) m _ (by omega) (by omega), if_neg (by decide)]
theorem l_late_out : ∀ (i m : Nat) (σ : qS) (f : Nat → Int32), i ≤ pn P → i < m → InvB σ P hs → Row σ 0 (pn P) (fun k => nI (pord P k)) → Row σ 2 (pn P) f → (∀ k, i ≤ k → k < pn P → f (pord P k) = pL P (pord P k)) →
    ∃ σ', l_L_latest_16 m (plast P (pE P)) (nI i - 1) σ = some (.inl (some (qR 50 2)), σ') ∧ qsn [(50, 2)] σ σ' ∧ Row σ' 2 (pn P) (pL P) := by
  intro i
  induction i with
  | zero =>
    intro m σ f hi hm I R0 R h1
    obtain ⟨m, rfl⟩ : ∃ m', m = m' + 1 := ⟨m - 1, by omega⟩
    refine ⟨σ, ?_, qsn.refl _ _, R.congr (fun t ht => by obtain ⟨k, hk, rfl⟩ := pord_all I.1 ht; exact h1 k (Nat.zero_le _) hk)⟩
    simp only [l_L_latest_16, b_L_latest_16]
    rw [if_pos (by decide)]
  | succ i ih =>
    intro m σ f hi hm I R0 R h1
    have W := I.1
    have hn := W.1
    obtain ⟨m, rfl⟩ : ∃ m', m = m' + 1 := ⟨m - 1, by omega⟩
    have hlt := pord_lt W (k := i) (by omega)
    have h0 : σ 50 0 i = nI (pord P i) := R0.2 i (by omega)
    have e1 : fo (fun o a => if ped P o (pord P i) = true then qmin a (f o) else a) (pn P) 0 (plast P (pE P)) - pf P 0 (pord P i) = pL P (pord P i) := by
      rw [pL_is W (pord P i) hlt]
      congr 1
      refine plat_congr (f := f) (fun o ho e => ?_)
      obtain ⟨q, hq, rfl⟩ := pord_all W ho
      obtain ⟨k', hk', ek⟩ := pord_need W hq e
      have : k' = i := by
        rcases Nat.lt_trichotomy k' i with h | h | h
        · exact absurd ek (pord_inj W h (by omega))
        · exact h
        · exact absurd ek.symm (pord_inj W h (by omega))
      exact h1 q (by omega) hq
    have q1 := qsn_qu σ 50 2 (pord P i) (pL P (pord P i))
    obtain ⟨σ2, a1, a2, a3⟩ := ih m (qu σ 50 2 (pord P i) (pL P (pord P i))) (fun x => if x = pord P i then pL P (pord P i) else f x) (by omega) (by omega) (I.hn q1 (by simp)) (R0.otherp (by omega)) (R.put (by omega)) (fun k hk1 hk2 => by
      show (if pord P k = pord P i then pL P (pord P i) else f (pord P k)) = pL P (pord P k)
      by_cases e : pord P k = pord P i
      · rw [if_pos e, e]
      · rw [if_neg e]
        refine h1 k ?_ hk2
        rcases Nat.lt_or_ge i k with h | h
        · exact h
        · have : k = i := by omega
          rw [this] at e
          exact absurd rfl e)
    refine ⟨σ2, ?_, q1.trans a2, a3⟩
    simp only [l_L_latest_16, b_L_latest_16]
    rw [nI_pred, if_neg (n_ge0 (by omega)), if_pos (by rw [R0.len (by omega)]; exact n_in (by omega) (by omega)), nI_clamp (show i < 2 ^ 31 by omega), h0, show (0 : Int32) = nI 0 from rfl, l_late_in hlt I R0 R (pn P) 0 qFU _ (by omega) (by unfold qFU; omega), n_dec, e1]
    exact a1
theorem l_latest (I : InvB σ P hs) : ∃ σ', f_L_latest (plast P (pE P)) σ = some (.inl (some (qR 50 2)), σ') ∧ qsn [(50, 0), (51, 0), (50, 2)] σ σ' ∧ Row σ' 2 (pn P) (pL P) := by
  have hn := I.1.1
  obtain ⟨σ1, e1, q1, R0⟩ := l_ordered I
  have I1 := I.hn q1 (by simp)
  have q2 := qsn_qrw σ1 50 2 (qzr (nI (pn P)))
  have R0' : Row (qrw σ1 50 2 (qzr (nI (pn P)))) 0 (pn P) (fun k => nI (pord P k)) := R0.other (by omega)
  obtain ⟨σ2, e2, q3, r2⟩ := l_late_out (pn P) qFU (qrw σ1 50 2 (qzr (nI (pn P)))) _ (Nat.le_refl _) (by unfold qFU; omega) (I1.hn q2 (by simp)) R0' (Row.new σ1 2 (by omega)) (fun k hk hk2 => by omega)
  refine ⟨σ2, ?_, (q1.mono (by simp)).trans ((q2.mono (by simp)).trans (q3.mono (by simp))), r2⟩
  have hl := n_ofl (R0.len (show pn P < 1000 by omega))
  have hl2 := n_ofl (R0'.len (show pn P < 1000 by omega))
  unfold f_L_latest
  rw [e1, qb_M, hl, if_pos ⟨nI_pos' (by omega), nI_le (by omega) (by omega)⟩, qlet_eq, hl2]
  exact e2
end LS
