/-! the changes' cases -/
section WR
variable {P P' : qP} {hs hs' : List qP} {sv : qP} {σ σ1 σ2 : qS}
def Wc (σ σ' : qS) : Prop := (∀ a b, ¬ (1 ≤ a ∧ a ≤ 8 ∧ (b = 0 ∨ 3 ≤ b)) → ¬ (a = 9 ∧ b = 0) → ¬ (a = 0 ∧ b = 0) → a ∉ [11, 12, 13, 14, 15, 16, 17, 18, 38] → σ' a b = σ a b) ∧ ∀ x, ¬ x = 8 → σ' 0 0 x = σ 0 0 x
def Wr (σ σ' : qS) : Prop := (∀ a b, a ∉ [26, 27, 28, 30, 31, 32, 33, 34] → σ' a b = σ a b) ∧ ∀ x, ¬ x = 17 → ¬ x = 5 → σ' 26 0 x = σ 26 0 x
theorem Wc.refl (σ : qS) : Wc σ σ := ⟨fun _ _ _ _ _ _ => rfl, fun _ _ => rfl⟩
theorem Wc.trans {σ σ' σ'' : qS} (h : Wc σ σ') (h2 : Wc σ' σ'') : Wc σ σ'' := ⟨fun a b h3 h4 h5 h6 => (h2.1 a b h3 h4 h5 h6).trans (h.1 a b h3 h4 h5 h6), fun x hx => (h2.2 x hx).trans (h.2 x hx)⟩
theorem Wc.out (σ : qS) (r : Int32) : Wc σ (qu σ 38 0 0 r) := ⟨fun a b _ _ _ h => qu_other σ (fun hh => h (by rw [hh.1]; simp)), fun x _ => by rw [qu_at, if_neg (by simp)]⟩
theorem Q0.wc {σ σ' : qS} (h : Q0 0 σ σ') : Wc σ σ' := ⟨fun a b h1 _ _ _ => h a b (fun hh => h1 ⟨hh.1, hh.2.1, Or.inl hh.2.2⟩), fun x _ => by rw [h 0 0 (by omega)]⟩
theorem w_inv {nx : Nat} (I : InvB σ P hs sv) (c : Wc σ σ1) (r : Wr σ1 σ2) (W' : PW P') (H' : Rep σ1 0 P') (R' : RepR σ2 27 0 P') (C' : HC σ1 hs' nx) (D' : HR σ2 hs') (hp : HP hs') : InvB σ2 P' hs' sv := by
  obtain ⟨-, -, -, -, SS, ⟨n, TT⟩, EE, m, OO⟩ := I
  have z : ∀ x, ¬ x = 8 → σ2 0 0 x = σ 0 0 x := fun x hx => by rw [r.1 0 0 (by simp)]; exact c.2 x hx
  have y : ∀ x, ¬ x = 17 → ¬ x = 5 → σ2 26 0 x = σ 26 0 x := fun x h1 h2 => by rw [r.2 x h1 h2, c.1 26 0 (by omega) (by omega) (by omega) (by simp)]
  have k : ∀ a b, ¬ (1 ≤ a ∧ a ≤ 8 ∧ (b = 0 ∨ 3 ≤ b)) → ¬ (a = 9 ∧ b = 0) → ¬ (a = 0 ∧ b = 0) → a ∉ [11, 12, 13, 14, 15, 16, 17, 18, 38] → a ∉ [26, 27, 28, 30, 31, 32, 33, 34] → σ2 a b = σ a b := fun a b h1 h2 h3 h4 h5 => (r.1 a b h5).trans (c.1 a b h1 h2 h3 h4)
  have kp : ∀ j a, 1 ≤ a → a ≤ 8 → σ2 a j = σ1 a j := fun j a h1 h2 => r.1 a j (by simp only [List.mem_cons, List.not_mem_nil, or_false]; omega)
  have k9 : σ2 9 0 = σ1 9 0 := r.1 9 0 (by simp)
  refine ⟨W', H'.tr (fun a h1 h2 => kp 0 a h1 h2), R', HistOK.join (nx := nx) ⟨C'.1, by rw [k9]; exact C'.2.1, C'.2.2.1, by rw [k9]; exact C'.2.2.2.1, fun i Q hQ => (C'.2.2.2.2 i Q hQ).tr (fun a h1 h2 => kp _ a h1 h2)⟩ D' hp,
    SS.tr (z 9 (by decide)) (y 4 (by decide) (by decide)) (k 29 0 (by omega) (by omega) (by omega) (by simp) (by simp)) (fun a h1 h2 => k a 2 (by omega) (by omega) (by omega) (by simp only [List.mem_cons, List.not_mem_nil, or_false]; omega) (by simp only [List.mem_cons, List.not_mem_nil, or_false]; omega)),
    ⟨n, TT.tr (by rw [k 19 0 (by omega) (by omega) (by omega) (by simp) (by simp)]) (y 14 (by decide) (by decide)) (k 20 0 (by omega) (by omega) (by omega) (by simp) (by simp)) (k 35 0 (by omega) (by omega) (by omega) (by simp) (by simp))⟩,
    EE.tr (fun x h1 h2 => z x (by omega)) (fun x h1 h2 => y x (by omega) (by omega)), m, OO.tr (by rw [k 23 0 (by omega) (by omega) (by omega) (by simp) (by simp)]) (y 16 (by decide) (by decide)) (k 24 0 (by omega) (by omega) (by omega) (by simp) (by simp)) (k 36 0 (by omega) (by omega) (by omega) (by simp) (by simp))⟩
theorem PlanSt.wr (S : PlanSt P σ1) (r : Wr σ1 σ2) : PlanSt P σ2 := by
  unfold PlanSt
  rw [r.1 0 0 (by simp)]
  exact S.elim Or.inl (fun h => Or.inr ⟨h.1, h.2.same (ks := [26, 27, 28, 30, 31, 32, 33, 34]) (fun a b ha => r.1 a b ha) (by simp)⟩)
/-! the reference's frame of a change -/
theorem r_begins (W : PW P) (R : RepR σ 27 0 P) : ∃ σ', f_X8_begins σ = qdo σ' ∧ RepR σ' 27 0 P ∧ RepR σ' 28 0 P ∧ qsm [28] σ σ' := by
  obtain ⟨s1, e1, q1, c1, d1⟩ := r_copy (k1 := 27) (k3 := 28) (a := 0) (b := 0) (by decide) (by decide) (by decide) (by decide) (by decide) σ
  refine ⟨s1, ?_, R.same q1 (by simp), R.cp W.1 c1, q1⟩
  unfold f_X8_begins
  rw [show (0 : Int32) = nI 0 from rfl, e1, qb_V]
theorem r_back (W : PW P) (R : RepR σ 28 0 P) : ∃ σ', f_X8_copies 28 0 (0 : Int32) 27 0 (0 : Int32) σ = qdo σ' ∧ RepR σ' 27 0 P ∧ qsm [27] σ σ' := by
  obtain ⟨s1, e1, q1, c1, d1⟩ := r_copy (k1 := 28) (k3 := 27) (a := 0) (b := 0) (by decide) (by decide) (by decide) (by decide) (by decide) σ
  exact ⟨s1, e1, R.cp W.1 c1, q1⟩
theorem HR.tr {σ σ' : qS} (h : HR σ hs) (k30 : σ' 30 0 = σ 30 0) (y5 : σ' 26 0 5 = σ 26 0 5) : HR σ' hs := ⟨h.1, by rw [y5]; exact h.2.1, fun i Q hQ => (h.2.2 i Q hQ).tr k30⟩
def RFrame (op : qS → Option qO) (K : Int32 → qS → Option qO) (σ : qS) : Option qO := qbind (f_X8_begins σ) (qvV (fun s1 => qbind (op s1) (qvI (fun r1 s2 => qbind (f_X8_ends r1 s2) (qvI K) qE0)) qE0)) qE0
theorem r_write {op : qS → Option qO} {K : Int32 → qS → Option qO} {r : Int32} (W : PW P) (R : RepR σ 27 0 P) (C : HR σ hs) (hp : HP hs) (hop : ∀ s, RepR s 27 0 P → ∃ s', op s = qan r s' ∧ RepR s' 27 0 P' ∧ s' 26 0 17 = 0 ∧ Wo s s') : ∃ σ2, RFrame op K σ = K r σ2 ∧ RepR σ2 27 0 P' ∧ HR σ2 (hpush hs P) ∧ σ2 26 0 17 = 0 ∧ Wr σ σ2 := by
  obtain ⟨s1, e1, R1, B1, q1⟩ := r_begins W R
  obtain ⟨s2, e2, R2, t2, w2⟩ := hop s1 R1
  have C2 : HR s2 hs := (C.tr (q1 30 0 (by simp)) (by rw [q1 26 0 (by simp)])).tr (w2.1 30 0 (by simp)) (w2.2 5 (by decide))
  obtain ⟨s3, e3, C3, o3, y3⟩ := r_remembers W C2 hp (B1.tr (w2.1 28 0 (by simp)))
  refine ⟨s3, ?_, R2.tr (o3 27 0 (by decide) (by decide)), C3, by rw [y3 17 (by decide)]; exact t2, fun a b h => ?_, fun x h1 h2 => by rw [y3 x h2, w2.2 x h1, q1 26 0 (by simp)]⟩
  · unfold RFrame
    rw [e1, qb_V, e2, qb_I]
    unfold f_X8_ends
    rw [if_pos t2, e3, qb_V, qb_I]
  · simp only [List.mem_cons, List.not_mem_nil, or_false] at h
    rw [o3 a b (by omega) (by omega), w2.1 a b (by simp only [List.mem_cons, List.not_mem_nil, or_false]; omega), q1 a b (by simp only [List.mem_cons, List.not_mem_nil, or_false]; omega)]
theorem r_fail {op : qS → Option qO} {K : Int32 → qS → Option qO} {t : Nat} (ht : t < 9) (ht0 : t ≠ 0) (W : PW P) (R : RepR σ 27 0 P) (C : HR σ hs) (hop : ∀ s, RepR s 27 0 P → ∃ r, op s = qan r (qu s 26 0 17 (nI t))) : ∃ σ2, RFrame op K σ = K 0 σ2 ∧ RepR σ2 27 0 P ∧ HR σ2 hs ∧ σ2 26 0 17 = nI t ∧ Wr σ σ2 := by
  obtain ⟨s1, e1, R1, B1, q1⟩ := r_begins W R
  obtain ⟨r, e2⟩ := hop s1 R1
  obtain ⟨s3, e3, R3, q3⟩ := r_back W (σ := qu s1 26 0 17 (nI t)) (B1.tr (qu_other _ (by simp)))
  have t3 : s3 26 0 17 = nI t := by rw [q3 26 0 (by simp)]; exact thr_at _ _
  refine ⟨s3, ?_, R3, ((C.tr (q1 30 0 (by simp)) (by rw [q1 26 0 (by simp)])).tr (qu_other _ (by simp)) (by rw [qu_at, if_neg (by decide)])).tr (q3 30 0 (by simp)) (by rw [q3 26 0 (by simp)]), t3, fun a b h => ?_, fun x h1 h2 => by rw [q3 26 0 (by simp), qu_at, if_neg (fun h => h1 h.2.2), q1 26 0 (by simp)]⟩
  · unfold RFrame
    rw [e1, qb_V, e2, qb_I]
    unfold f_X8_ends
    rw [if_neg (by rw [thr_at]; intro h; exact ht0 ((n_eq (by omega) (by decide)).mp h)), e3, qb_V, qb_I]
  · simp only [List.mem_cons, List.not_mem_nil, or_false] at h
    rw [q3 a b (by simp only [List.mem_cons, List.not_mem_nil, or_false]; omega), qu_other _ (by omega), q1 a b (by simp only [List.mem_cons, List.not_mem_nil, or_false]; omega)]
theorem CaseB.l {w q : qS → Option qO} (h : CaseB w q σ) : CaseL w q σ := by
  obtain ⟨k, s1, b, s2, h1, h2, h3, h4, h5, h6, -⟩ := h
  exact ⟨k, s1, b, s2, h1, h2, h3, h4, h5, h6⟩
theorem w_ok {w q : qS → Option qO} {r : Int32} {nx : Nat} (I : InvB σ P hs sv) (hw : w σ = qan 0 (qu σ1 38 0 0 r)) (c : Wc σ σ1) (W' : PW P') (H' : Rep σ1 0 P') (C' : HC σ1 hs' nx) (hp : HP hs') (S1 : PlanSt P' σ1) (hq : ∃ σ2, q (qu σ1 38 0 0 r) = qan r σ2 ∧ RepR σ2 27 0 P' ∧ HR σ2 hs' ∧ σ2 26 0 17 = 0 ∧ Wr (qu σ1 38 0 0 r) σ2) : ∃ (σ1 : qS) (σ2 : qS), w σ = qan (nI 0) σ1 ∧ q σ1 = qan r σ2 ∧ σ2 26 0 17 = nI 0 ∧ σ2 38 0 0 = r ∧ Inv σ2 := by
  obtain ⟨σ2, e2, R2, D2, t2, w2⟩ := hq
  have C2 : HC (qu σ1 38 0 0 r) hs' nx := ⟨C'.1, by rw [qu_at, if_neg (by simp)]; exact C'.2.1, C'.2.2.1, by rw [qu_at, if_neg (by simp)]; exact C'.2.2.2.1, fun i Q hQ => (C'.2.2.2.2 i Q hQ).tr (fun a h1 h2 => qu_other _ (by omega))⟩
  exact ⟨_, σ2, hw, e2, t2, by rw [w2.1 38 0 (by simp), qu_at, if_pos ⟨rfl, rfl, rfl⟩], P', hs', sv, w_inv I (c.trans (Wc.out _ _)) w2 W' (H'.tr (fun a h1 h2 => qu_other _ (by omega))) R2 C2 D2 hp, (PlanSt.out S1 r).wr w2⟩
theorem w_okL {w q : qS → Option qO} {r : Int32} (h : ∃ (σ1 : qS) (σ2 : qS), w σ = qan (nI 0) σ1 ∧ q σ1 = qan r σ2 ∧ σ2 26 0 17 = nI 0 ∧ σ2 38 0 0 = r ∧ Inv σ2) : CaseL w q σ := by
  obtain ⟨s1, s2, h1, h2, h3, h4, h5⟩ := h
  exact ⟨0, s1, r, s2, by decide, h1, h2, h3, fun _ => h4, h5⟩
theorem w_okB {w q : qS → Option qO} {r : Int32} (hb : r = 0 ∨ r = 1) (h : ∃ (σ1 : qS) (σ2 : qS), w σ = qan (nI 0) σ1 ∧ q σ1 = qan r σ2 ∧ σ2 26 0 17 = nI 0 ∧ σ2 38 0 0 = r ∧ Inv σ2) : CaseB w q σ := by
  obtain ⟨s1, s2, h1, h2, h3, h4, h5⟩ := h
  exact ⟨0, s1, r, s2, by decide, h1, h2, h3, fun _ => h4, h5, hb⟩
theorem w_bad {w q : qS → Option qO} {k : Nat} (hk : k < 9) (hk0 : k ≠ 0) (I : InvB σ P hs sv) (S : PlanSt P σ) (hw : w σ = qan (nI k) σ) (hq : ∃ σ2, q σ = qan 0 σ2 ∧ RepR σ2 27 0 P ∧ HR σ2 hs ∧ σ2 26 0 17 = nI k ∧ Wr σ σ2) : CaseB w q σ := by
  obtain ⟨σ2, e2, R2, D2, t2, w2⟩ := hq
  obtain ⟨⟨nx, C⟩, -, hp⟩ := I.2.2.2.1.split
  exact ⟨k, σ, 0, σ2, hk, hw, e2, t2, fun h => absurd h hk0, ⟨P, hs, sv, w_inv I (Wc.refl σ) w2 I.1 I.2.1 R2 C D2 hp, S.wr w2⟩, Or.inl rfl⟩
/-- the class's frame: begun, then changed -/
theorem cw_begin (I : InvB σ P hs sv) : ∃ (nx : Nat) (s1 : qS), f_X7_beginChange σ = qdo s1 ∧ HC s1 (hpush hs P) nx ∧ Rep s1 0 P ∧ s1 0 0 8 = 0 ∧ Wc σ s1 ∧ HP (hpush hs P) := by
  obtain ⟨⟨nx, C⟩, -, hp⟩ := I.2.2.2.1.split
  obtain ⟨s1, e1, C1, H1, z1, o1, p1⟩ := c_begin I.1 C I.2.1
  exact ⟨_, s1, e1, C1, H1, z1, ⟨fun a b h1 h2 h3 _ => o1 a b (fun hh => h1 ⟨hh.1, hh.2.1, Or.inr hh.2.2⟩) h2 h3, p1⟩, hp.push I.1⟩
theorem HC.q0 {nx : Nat} {σ σ' : qS} (h : HC σ hs nx) (q : Q0 0 σ σ') : HC σ' hs nx := by
  have k9 : σ' 9 0 = σ 9 0 := q 9 0 (by omega)
  exact ⟨h.1, by rw [k9]; exact h.2.1, h.2.2.1, by rw [k9]; exact h.2.2.2.1, fun i Q hQ => (h.2.2.2.2 i Q hQ).tr (fun a h1 h2 => q a _ (by omega))⟩
theorem PlanSt.no {σ σ' : qS} (h : σ 0 0 8 = 0) (q : Q0 0 σ σ') : PlanSt P' σ' := Or.inl (by rw [q 0 0 (by omega)]; exact h)
theorem InvB.hr (I : InvB σ P hs sv) : HR σ hs := I.2.2.2.1.split.2.1
theorem HR.out {σ : qS} (h : HR σ hs) (r : Int32) : HR (qu σ 38 0 0 r) hs := h.tr (qu_other _ (by simp)) (by rw [qu_at, if_neg (by decide)])
/-- the reference after the class's part -/
theorem ref_after {op : qS → Option qO} {K : Int32 → qS → Option qO} {r r0 : Int32} (I : InvB σ P hs sv) (c : Wc σ σ1) (hop : ∀ s, RepR s 27 0 P → ∃ s', op s = qan r0 s' ∧ RepR s' 27 0 P' ∧ s' 26 0 17 = 0 ∧ Wo s s') : ∃ σ2, RFrame op K (qu σ1 38 0 0 r) = K r0 σ2 ∧ RepR σ2 27 0 P' ∧ HR σ2 (hpush hs P) ∧ σ2 26 0 17 = 0 ∧ Wr (qu σ1 38 0 0 r) σ2 := by
  have c2 := c.trans (Wc.out σ1 r)
  have k : ∀ a b, a = 27 ∨ a = 30 ∨ a = 26 → (qu σ1 38 0 0 r) a b = σ a b := fun a b h => c2.1 a b (by omega) (by omega) (by omega) (by simp only [List.mem_cons, List.not_mem_nil, or_false]; omega)
  exact r_write I.1 (I.2.2.1.tr (k 27 0 (by omega))) (I.hr.tr (k 30 0 (by omega)) (by rw [k 26 0 (by omega)])) I.2.2.2.1.split.2.2 hop
theorem rf_46 (s : qS) : f_X7_refuse 46 s = qdo s := rfl
theorem k_addTask (a b c d : Int32) (h : Inv σ) : CaseL (f_L_addTask a b c d) (f_X8_addTask a b c d) σ := by
  obtain ⟨P, hs, sv, I, S⟩ := h
  have W := I.1
  have H := I.2.1
  have hn := W.1
  have hcf := c_faultA W H a b c d
  have hR : ∀ s, f_X8_addTask a b c d s = RFrame (f_X8_adds a b c d) (fun r2 s3 => (some (.inl (some (qI r2)), s3))) s := fun _ => rfl
  cases hf : fineA a b c d
  · rw [hf, if_pos rfl] at hcf
    refine (w_bad (k := 1) (by decide) (by decide) I S (by unfold f_L_addTask f_X7_addTask; rw [hcf]; rfl) ?_).l
    rw [hR]
    exact r_fail (by decide) (by decide) W I.2.2.1 I.hr (fun s hs => by
      rcases r_adds W hs a b c d with ⟨h1, h2⟩ | ⟨h1, h2, h3⟩ | ⟨h1, h2, h3⟩
      · exact ⟨_, h2⟩
      · rw [hf] at h1; cases h1
      · rw [hf] at h1; cases h1)
  · rw [hf, if_neg (by decide)] at hcf
    by_cases h12 : pn P = 12
    · rw [if_pos h12] at hcf
      refine (w_bad (k := 2) (by decide) (by decide) I S (by unfold f_L_addTask f_X7_addTask; rw [hcf]; rfl) ?_).l
      rw [hR]
      exact r_fail (by decide) (by decide) W I.2.2.1 I.hr (fun s hs => by
        rcases r_adds W hs a b c d with ⟨h1, h2⟩ | ⟨h1, h2, h3⟩ | ⟨h1, h2, h3⟩
        · rw [hf] at h1; cases h1
        · exact ⟨_, h3⟩
        · omega)
    · rw [if_neg h12] at hcf
      obtain ⟨nx, s1, e1, C1, H1, z1, c1, hp⟩ := cw_begin I
      obtain ⟨s2, e2, H2, q2⟩ := c_append H1 (by omega) a b c d
      have hfa := hf
      unfold fineA isR at hfa
      simp only [Bool.and_eq_true, decide_eq_true_iff] at hfa
      obtain ⟨⟨⟨f1, f2⟩, f3⟩, f4⟩ := hfa
      simp only [i_le] at f1 f2 f3 f4
      have W' : PW (padd P a b c d) := W.add (by omega) f1 f2 f3 f4
      have cc := c1.trans q2.wc
      refine w_okL (w_ok (r := nI (pn P)) I (by unfold f_L_addTask f_X7_addTask; rw [hcf, qb_I, rf_46, qb_V, e1, qb_V, e2]; rfl) cc W' H2 (C1.q0 q2) hp (PlanSt.no z1 q2) ?_)
      rw [hR]
      exact ref_after I cc (fun s hs => by
        rcases r_adds W hs a b c d with ⟨h1, h2⟩ | ⟨h1, h2, h3⟩ | ⟨h1, h2, h3⟩
        · rw [hf] at h1; cases h1
        · exact absurd h2 h12
        · exact h3)
theorem k_removeTask (a : Int32) (h : Inv σ) : CaseL (f_L_removeTask a) (f_X8_removeTask a) σ := by
  obtain ⟨P, hs, sv, I, S⟩ := h
  have W := I.1
  have H := I.2.1
  have hn := W.1
  have hcf := c_faultT H a
  have hR : ∀ s, f_X8_removeTask a s = RFrame (f_X8_removes a) (fun r2 s3 => (some (.inl (some (qI r2)), s3))) s := fun _ => rfl
  cases hf : isT P a
  · rw [hf, if_neg (by decide)] at hcf
    refine (w_bad (k := 1) (by decide) (by decide) I S (by unfold f_L_removeTask f_X7_removeTask; rw [hcf]; rfl) ?_).l
    rw [hR]
    exact r_fail (by decide) (by decide) W I.2.2.1 I.hr (fun s hs => by
      rcases r_removes W hs a with ⟨h1, h2⟩ | ⟨x, h1, h2, h3⟩
      · exact ⟨_, h2⟩
      · rw [h2, isT_n W h1] at hf; cases hf)
  · rw [hf, if_pos rfl] at hcf
    obtain ⟨x, hx, rfl⟩ := (isT_iff W).mp hf
    obtain ⟨nx, s1, e1, C1, H1, z1, c1, hp⟩ := cw_begin I
    obtain ⟨s2, e2, H2, q2⟩ := c_drop W H1 hx
    have cc := c1.trans q2.wc
    refine w_okL (w_ok (r := nI (pn P - 1)) I (by unfold f_L_removeTask f_X7_removeTask; rw [hcf, qb_I, rf_46, qb_V, e1, qb_V, e2, qb_V, H2.1]; rfl) cc (W.drop hx) H2 (C1.q0 q2) hp (PlanSt.no z1 q2) ?_)
    rw [hR]
    exact ref_after I cc (fun s hs => by
      rcases r_removes W hs (nI x) with ⟨h1, h2⟩ | ⟨y, h1, h2, h3⟩
      · rw [hf] at h1; cases h1
      · rw [n_eq (by omega) (by omega)] at h2
        subst h2
        exact h3)
theorem qb1_or (b : Bool) : qb1 b = 0 ∨ qb1 b = 1 := by cases b <;> simp [qb1]
theorem k_addDependency (a b : Int32) (h : Inv σ) : CaseB (f_L_addDependency a b) (f_X8_addDependency a b) σ := by
  obtain ⟨P, hs, sv, I, S⟩ := h
  have W := I.1
  have H := I.2.1
  have hn := W.1
  have hR : ∀ s, f_X8_addDependency a b s = RFrame (f_X8_links a b) (fun r2 s3 => (if (s3 26 0 17) = 0 then (if r2 = 0 then (some (.inl (some (qI (1 : Int32))), s3)) else (some (.inl (some (qI (0 : Int32))), s3))) else (some (.inl (some (qI (0 : Int32))), s3)))) s := fun _ => rfl
  have fail : ∀ k, k < 9 → k ≠ 0 → f_L_addDependency a b σ = qan (nI k) σ → (∀ s, RepR s 27 0 P → f_X8_links a b s = qan 0 (qu s 26 0 17 (nI k))) → CaseB (f_L_addDependency a b) (f_X8_addDependency a b) σ := fun k hk hk0 hw hq => by
    refine w_bad hk hk0 I S hw ?_
    rw [hR]
    obtain ⟨s2, e2, r2⟩ := r_fail (K := (fun r2 s3 => (if (s3 26 0 17) = 0 then (if r2 = 0 then (some (.inl (some (qI (1 : Int32))), s3)) else (some (.inl (some (qI (0 : Int32))), s3))) else (some (.inl (some (qI (0 : Int32))), s3))))) hk hk0 W I.2.2.1 I.hr (fun s hs => ⟨_, hq s hs⟩)
    refine ⟨s2, ?_, r2⟩
    rw [e2, if_neg (by rw [r2.2.2.1]; intro h; exact hk0 ((n_eq (by omega) (by decide)).mp h))]
  rcases c_faultL W H a b with ⟨hb, hcf⟩ | ⟨t, u, ht, hu, rfl, rfl, hcf⟩
  · exact fail 1 (by decide) (by decide) (by unfold f_L_addDependency f_X7_addDependency; rw [hcf]; rfl) (fun s hs => by
      rcases r_links W hs a b with ⟨h1, h2⟩ | ⟨t, u, ht, hu, rfl, rfl, -⟩
      · exact h2
      · rw [isT_n W ht, isT_n W hu] at hb; cases hb)
  · have rl : ∀ s, RepR s 27 0 P → ((t = u ∧ f_X8_links (nI t) (nI u) s = qan 0 (qu s 26 0 17 2)) ∨ (t ≠ u ∧ prea P u t = true ∧ f_X8_links (nI t) (nI u) s = qan 0 (qu s 26 0 17 3)) ∨ (t ≠ u ∧ prea P u t = false ∧ ∃ σ', f_X8_links (nI t) (nI u) s = qan (qb1 (ped P t u)) σ' ∧ RepR σ' 27 0 (psetf P 4 t (pf P 4 t ||| ((1 : Int32) <<< (nI u &&& 31)))) ∧ σ' 26 0 17 = 0 ∧ Wo s σ')) := fun s hs => by
      rcases r_links W hs (nI t) (nI u) with ⟨h1, h2⟩ | ⟨t', u', ht', hu', e1, e2, h3⟩
      · rw [isT_n W ht, isT_n W hu] at h1; cases h1
      · rw [n_eq (by omega) (by omega)] at e1 e2
        subst e1; subst e2
        exact h3
    by_cases e : t = u
    · rw [if_pos e] at hcf
      exact fail 2 (by decide) (by decide) (by unfold f_L_addDependency f_X7_addDependency; rw [hcf]; rfl) (fun s hs => by
        rcases rl s hs with ⟨h1, h2⟩ | ⟨h1, h2, h3⟩ | ⟨h1, h2, h3⟩
        · exact h2
        · exact absurd e h1
        · exact absurd e h1)
    · rw [if_neg e] at hcf
      cases hp : prea P u t
      · rw [hp, if_neg (by decide)] at hcf
        obtain ⟨nx, s1, e1, C1, H1, z1, c1, hpp⟩ := cw_begin I
        have H2 := H1.setf (f := 4) (t := t) (by decide) (pf P 4 t ||| ((1 : Int32) <<< (nI u &&& 31)))
        have q2 : Q0 0 s1 (qu s1 (2 + 4) 0 t (pf P 4 t ||| ((1 : Int32) <<< (nI u &&& 31)))) := Q0.qu s1 (by omega) (by omega)
        have cc := c1.trans q2.wc
        refine w_okB (r := qb1 (!ped P t u)) (qb1_or _) (w_ok I ?_ cc (W.link ht hu e hp) H2 (C1.q0 q2) hpp (PlanSt.no z1 q2) ?_)
        · unfold f_L_addDependency f_X7_addDependency
          rw [hcf, qb_I, rf_46, qb_V, e1, qb_V, c_linked H1 W ht (by omega), qb_I]
          cases ped P t u
          · rw [if_pos (by rfl), c_link W H1 ht]; rfl
          · rw [if_neg (by decide), c_link W H1 ht]; rfl
        · rw [hR]
          obtain ⟨s3, e3, r3⟩ := ref_after (r := qb1 (!ped P t u)) (K := (fun r2 s3 => (if (s3 26 0 17) = 0 then (if r2 = 0 then (some (.inl (some (qI (1 : Int32))), s3)) else (some (.inl (some (qI (0 : Int32))), s3))) else (some (.inl (some (qI (0 : Int32))), s3))))) I cc (fun s hs => by
            rcases rl s hs with ⟨h1, h2⟩ | ⟨h1, h2, h3⟩ | ⟨h1, h2, h3⟩
            · exact absurd h1 e
            · rw [hp] at h2; cases h2
            · exact h3)
          refine ⟨s3, ?_, r3⟩
          rw [e3, if_pos r3.2.2.1]
          cases ped P t u <;> rfl
      · rw [hp, if_pos rfl] at hcf
        exact fail 3 (by decide) (by decide) (by unfold f_L_addDependency f_X7_addDependency; rw [hcf]; rfl) (fun s hs => by
          rcases rl s hs with ⟨h1, h2⟩ | ⟨h1, h2, h3⟩ | ⟨h1, h2, h3⟩
          · exact absurd h1 e
          · exact h3
          · rw [hp] at h2; cases h2)
theorem k_removeDependency (a b : Int32) (h : Inv σ) : CaseB (f_L_removeDependency a b) (f_X8_removeDependency a b) σ := by
  obtain ⟨P, hs, sv, I, S⟩ := h
  have W := I.1
  have H := I.2.1
  have hn := W.1
  have hcf := c_faultP H a b
  have hR : ∀ s, f_X8_removeDependency a b s = RFrame (f_X8_unlinks a b) (fun r2 s3 => (if r2 = (1 : Int32) then (some (.inl (some (qI (1 : Int32))), s3)) else (some (.inl (some (qI (0 : Int32))), s3)))) s := fun _ => rfl
  cases hb : (isT P a && isT P b)
  · rw [hb, if_neg (by decide)] at hcf
    refine w_bad (k := 1) (by decide) (by decide) I S (by unfold f_L_removeDependency f_X7_removeDependency; rw [hcf]; rfl) ?_
    rw [hR]
    obtain ⟨s2, e2, r2⟩ := r_fail (t := 1) (K := (fun r2 s3 => (if r2 = (1 : Int32) then (some (.inl (some (qI (1 : Int32))), s3)) else (some (.inl (some (qI (0 : Int32))), s3))))) (by decide) (by decide) W I.2.2.1 I.hr (fun s hs => by
      rcases r_unlinks W hs a b with ⟨h1, h2⟩ | ⟨t, u, ht, hu, rfl, rfl, -⟩
      · exact ⟨_, h2⟩
      · rw [isT_n W ht, isT_n W hu] at hb; cases hb)
    exact ⟨s2, by rw [e2, if_neg (by decide)], r2⟩
  · rw [hb, if_pos rfl] at hcf
    rw [Bool.and_eq_true] at hb
    obtain ⟨t, ht, rfl⟩ := (isT_iff W).mp hb.1
    obtain ⟨u, hu, rfl⟩ := (isT_iff W).mp hb.2
    obtain ⟨nx, s1, e1, C1, H1, z1, c1, hpp⟩ := cw_begin I
    have H2 := H1.setf (f := 4) (t := t) (by decide) (pf P 4 t &&& (((1 : Int32) <<< (nI u &&& 31)) ^^^ (-1 : Int32)))
    have q2 : Q0 0 s1 (qu s1 (2 + 4) 0 t (pf P 4 t &&& (((1 : Int32) <<< (nI u &&& 31)) ^^^ (-1 : Int32)))) := Q0.qu s1 (by omega) (by omega)
    have cc := c1.trans q2.wc
    refine w_okB (r := qb1 (ped P t u)) (qb1_or _) (w_ok I ?_ cc (W.unlink ht hu) H2 (C1.q0 q2) hpp (PlanSt.no z1 q2) ?_)
    · unfold f_L_removeDependency f_X7_removeDependency
      rw [hcf, qb_I, rf_46, qb_V, e1, qb_V, c_linked H1 W ht (by omega), qb_I, c_unlink W H1 ht, qb_V, if_pos (qb1_bo _)]
      cases ped P t u <;> rfl
    · rw [hR]
      obtain ⟨s3, e3, r3⟩ := ref_after (r := qb1 (ped P t u)) (K := (fun r2 s3 => (if r2 = (1 : Int32) then (some (.inl (some (qI (1 : Int32))), s3)) else (some (.inl (some (qI (0 : Int32))), s3))))) I cc (fun s hs => by
        rcases r_unlinks W hs (nI t) (nI u) with ⟨h1, h2⟩ | ⟨t', u', ht', hu', e1, e2, h3⟩
        · rw [isT_n W ht, isT_n W hu] at h1; cases h1
        · rw [n_eq (by omega) (by omega)] at e1 e2
          subst e1; subst e2
          exact h3)
      refine ⟨s3, ?_, r3⟩
      rw [e3]
      cases ped P t u <;> rfl
theorem k_setDuration (a v : Int32) (h : Inv σ) : CaseL (f_L_setDuration a v) (f_X8_setDuration a v) σ := by
  obtain ⟨P, hs, sv, I, S⟩ := h
  have W := I.1
  have H := I.2.1
  have hn := W.1
  have hcf := c_faultD H a v
  have hR : ∀ s, f_X8_setDuration a v s = RFrame (f_X8_sets a (nI 0) v 1 9) (fun r2 s3 => (some (.inl (some (qI r2)), s3))) s := fun _ => rfl
  cases hf : isT P a
  · rw [hf, if_pos rfl] at hcf
    refine (w_bad (k := 1) (by decide) (by decide) I S (by unfold f_L_setDuration f_X7_setDuration; rw [hcf]; rfl) ?_).l
    rw [hR]
    exact r_fail (by decide) (by decide) W I.2.2.1 I.hr (fun s hs => by
      rcases r_sets W hs a v 1 9 (f := 0) (by decide) with ⟨h1, h2⟩ | ⟨t, h1, h2, h3⟩
      · exact h2
      · rw [h2, isT_n W h1] at hf; cases hf)
  · rw [hf, if_neg (by decide)] at hcf
    obtain ⟨t, ht, rfl⟩ := (isT_iff W).mp hf
    have rs : ∀ s, RepR s 27 0 P → _ := fun s hs => r_sets (f := 0) W hs (nI t) v 1 9 (by decide)
    by_cases hv : (1 : Int32) ≤ v ∧ v ≤ 9
    · rw [if_pos hv] at hcf
      obtain ⟨nx, s1, e1, C1, H1, z1, c1, hpp⟩ := cw_begin I
      have H2 := H1.setf (f := 0) (t := t) (by decide) v
      have q2 : Q0 0 s1 (qu s1 (2 + 0) 0 t v) := Q0.qu s1 (by omega) (by omega)
      have cc := c1.trans q2.wc
      have hv2 := hv
      rw [i_le, i_le] at hv2
      refine w_okL (w_ok (r := pf P 0 t) I ?_ cc (W.set0 ht hv2) H2 (C1.q0 q2) hpp (PlanSt.no z1 q2) ?_)
      · unfold f_L_setDuration f_X7_setDuration
        rw [hcf, qb_I, rf_46, qb_V, e1, qb_V, c_dur H1 W ht, qb_I, e_put (show t < qlen 2 by show t < 12; omega) (by decide)]
        rfl
      · rw [hR]
        exact ref_after I cc (fun s hs => by
          rcases rs s hs with ⟨h1, h2⟩ | ⟨t', h1, h2, h3⟩
          · rw [hf] at h1; cases h1
          · rw [n_eq (by omega) (by omega)] at h2
            subst h2
            rcases h3 with ⟨h4, h5⟩ | ⟨h4, h5⟩
            · exact absurd hv h4
            · exact h5)
    · rw [if_neg hv] at hcf
      refine (w_bad (k := 2) (by decide) (by decide) I S (by unfold f_L_setDuration f_X7_setDuration; rw [hcf]; rfl) ?_).l
      rw [hR]
      exact r_fail (by decide) (by decide) W I.2.2.1 I.hr (fun s hs => by
        rcases rs s hs with ⟨h1, h2⟩ | ⟨t', h1, h2, h3⟩
        · rw [hf] at h1; cases h1
        · rcases h3 with ⟨h4, h5⟩ | ⟨h4, h5⟩
          · exact h5
          · exact absurd h4 hv)
theorem k_setRelease (a v : Int32) (h : Inv σ) : CaseL (f_L_setRelease a v) (f_X8_setRelease a v) σ := by
  obtain ⟨P, hs, sv, I, S⟩ := h
  have W := I.1
  have H := I.2.1
  have hn := W.1
  have hcf := c_faultR H a v
  have hR : ∀ s, f_X8_setRelease a v s = RFrame (f_X8_sets a (nI 3) v 0 30) (fun r2 s3 => (some (.inl (some (qI r2)), s3))) s := fun _ => rfl
  cases hf : isT P a
  · rw [hf, if_pos rfl] at hcf
    refine (w_bad (k := 1) (by decide) (by decide) I S (by unfold f_L_setRelease f_X7_setRelease; rw [hcf]; rfl) ?_).l
    rw [hR]
    exact r_fail (by decide) (by decide) W I.2.2.1 I.hr (fun s hs => by
      rcases r_sets W hs a v 0 30 (f := 3) (by decide) with ⟨h1, h2⟩ | ⟨t, h1, h2, h3⟩
      · exact h2
      · rw [h2, isT_n W h1] at hf; cases hf)
  · rw [hf, if_neg (by decide)] at hcf
    obtain ⟨t, ht, rfl⟩ := (isT_iff W).mp hf
    have rs : ∀ s, RepR s 27 0 P → _ := fun s hs => r_sets (f := 3) W hs (nI t) v 0 30 (by decide)
    by_cases hv : (0 : Int32) ≤ v ∧ v ≤ 30
    · rw [if_pos hv] at hcf
      obtain ⟨nx, s1, e1, C1, H1, z1, c1, hpp⟩ := cw_begin I
      have H2 := H1.setf (f := 3) (t := t) (by decide) v
      have q2 : Q0 0 s1 (qu s1 (2 + 3) 0 t v) := Q0.qu s1 (by omega) (by omega)
      have cc := c1.trans q2.wc
      have hv2 := hv
      rw [i_le, i_le] at hv2
      refine w_okL (w_ok (r := pf P 3 t) I ?_ cc (W.set3 ht hv2) H2 (C1.q0 q2) hpp (PlanSt.no z1 q2) ?_)
      · unfold f_L_setRelease f_X7_setRelease
        rw [hcf, qb_I, rf_46, qb_V, e1, qb_V, c_rel H1 W ht, qb_I, e_put (show t < qlen 5 by show t < 12; omega) (by decide)]
        rfl
      · rw [hR]
        exact ref_after I cc (fun s hs => by
          rcases rs s hs with ⟨h1, h2⟩ | ⟨t', h1, h2, h3⟩
          · rw [hf] at h1; cases h1
          · rw [n_eq (by omega) (by omega)] at h2
            subst h2
            rcases h3 with ⟨h4, h5⟩ | ⟨h4, h5⟩
            · exact absurd hv h4
            · exact h5)
    · rw [if_neg hv] at hcf
      refine (w_bad (k := 2) (by decide) (by decide) I S (by unfold f_L_setRelease f_X7_setRelease; rw [hcf]; rfl) ?_).l
      rw [hR]
      exact r_fail (by decide) (by decide) W I.2.2.1 I.hr (fun s hs => by
        rcases rs s hs with ⟨h1, h2⟩ | ⟨t', h1, h2, h3⟩
        · rw [hf] at h1; cases h1
        · rcases h3 with ⟨h4, h5⟩ | ⟨h4, h5⟩
          · exact h5
          · exact absurd h4 hv)
theorem k_setLimit (a v : Int32) (h : Inv σ) : CaseL (f_L_setLimit a v) (f_X8_setLimit a v) σ := by
  obtain ⟨P, hs, sv, I, S⟩ := h
  have W := I.1
  have H := I.2.1
  have hn := W.1
  have hcf := c_faultLim (σ := σ) (j := 0) a v
  have hR : ∀ s, f_X8_setLimit a v s = RFrame (f_X8_limits a v) (fun r2 s3 => (some (.inl (some (qI r2)), s3))) s := fun _ => rfl
  by_cases hf : isR a = true ∧ ((5 : Int32) ≤ v ∧ v ≤ 20)
  · rw [if_pos hf] at hcf
    obtain ⟨r, hr, rfl⟩ := isR_iff.mp hf.1
    obtain ⟨nx, s1, e1, C1, H1, z1, c1, hpp⟩ := cw_begin I
    have H2 := H1.lim r v
    have q2 : Q0 0 s1 (qu s1 8 0 r v) := Q0.qu s1 (by omega) (by omega)
    have cc := c1.trans q2.wc
    have hv2 := hf.2
    rw [i_le, i_le] at hv2
    refine w_okL (w_ok (r := pl P r) I ?_ cc (W.lim hv2) H2 (C1.q0 q2) hpp (PlanSt.no z1 q2) ?_)
    · unfold f_L_setLimit f_X7_setLimit
      rw [hcf, qb_I, rf_46, qb_V, e1, qb_V, c_lim H1 hr, qb_I, e_put (show r < qlen 8 from hr) (by decide)]
      rfl
    · rw [hR]
      exact ref_after I cc (fun s hs => by
        rcases r_limits W hs (nI r) v with ⟨h1, h2⟩ | ⟨h1, r', h2, h3, h4⟩
        · exact absurd hf h1
        · rw [n_eq (by omega) (by omega)] at h3
          subst h3
          exact h4)
  · rw [if_neg hf] at hcf
    refine (w_bad (k := 1) (by decide) (by decide) I S (by unfold f_L_setLimit f_X7_setLimit; rw [hcf]; rfl) ?_).l
    rw [hR]
    exact r_fail (by decide) (by decide) W I.2.2.1 I.hr (fun s hs => by
      rcases r_limits W hs a v with ⟨h1, h2⟩ | ⟨h1, h2⟩
      · exact ⟨_, h2⟩
      · exact absurd h1 hf)
theorem k_takeBaseline (h : Inv σ) : CaseD f_X7_takeBaseline f_X8_takeBaseline σ := by
  obtain ⟨P, hs, sv, I, S⟩ := h
  have W := I.1
  have hn := W.1
  obtain ⟨nx, s1, e1, C1, H1, z1, c1, hpp⟩ := cw_begin I
  obtain ⟨s2, e2, q2, p2⟩ := c_make W H1
  have H2 := H1.same q2 (by simp)
  have q3 : qsm [0] s2 (qu s2 0 0 8 1) := qsm_qu s2 0 0 8 1
  have p3 := p2.same q3 (by simp)
  have H3 := H2.same q3 (by simp)
  obtain ⟨s4, e4, H4, q4⟩ := c_takeStarts W H3 p3
  have k9 : (qu s2 0 0 8 1) 9 0 = s1 9 0 := by rw [q3 9 0 (by simp), q2 9 0 (by simp)]
  have C3 : HC (qu s2 0 0 8 1) (hpush hs P) nx := ⟨C1.1, by rw [k9]; exact C1.2.1, C1.2.2.1, by rw [k9]; exact C1.2.2.2.1, fun i Q hQ => (C1.2.2.2.2 i Q hQ).tr (fun a h1 h2 => by rw [q3 a _ (by simp; omega), q2 a _ (by simp only [List.mem_cons, List.not_mem_nil, or_false]; omega)])⟩
  have c3 : Wc s1 (qu s2 0 0 8 1) := ⟨fun a b h1 h2 h3 h4 => by
    simp only [List.mem_cons, List.not_mem_nil, or_false] at h4
    rw [qu_other s2 h3, q2 a b (by simp only [List.mem_cons, List.not_mem_nil, or_false]; omega)], fun x hx => by rw [qu_at, if_neg (fun h => hx h.2.2), q2 0 0 (by simp)]⟩
  have cc := (c1.trans c3).trans q4.wc
  have p4 : PlanOK P s4 := by
    have q4' : ∀ a, 10 < a → s4 a 0 = (qu s2 0 0 8 1) a 0 := fun a ha => q4 a 0 (by omega)
    obtain ⟨a1, a2, a3, a4, a5, ⟨a6, a7⟩, a8, a9⟩ := p3
    exact ⟨fun k hk => by rw [q4' 12 (by decide)]; exact a1 k hk, fun x hx u => by rw [q4' 13 (by decide)]; exact a2 x hx u, fun t ht => by rw [q4' 14 (by decide)]; exact a3 t ht, fun t ht => by rw [q4' 15 (by decide)]; exact a4 t ht, fun t ht => by rw [q4' 16 (by decide)]; exact a5 t ht, ⟨fun t ht hx => by rw [q4' 17 (by decide)]; exact a6 t ht hx, fun r d hr hd => by rw [q4' 18 (by decide)]; exact a7 r d hr hd⟩, by rw [q4' 11 (by decide)]; exact a8, by rw [q4' 11 (by decide)]; exact a9⟩
  have S4 : PlanSt (pmark P) s4 := Or.inr ⟨by rw [q4 0 0 (by omega), qu_at, if_pos ⟨rfl, rfl, rfl⟩], p4.mark⟩
  have k : ∀ a b, a = 27 ∨ a = 30 ∨ a = 26 → s4 a b = σ a b := fun a b h => cc.1 a b (by omega) (by omega) (by omega) (by simp only [List.mem_cons, List.not_mem_nil, or_false]; omega)
  obtain ⟨σ2, r1, r2, r3, r4, r5⟩ := r_write (K := (fun r2 s3 => (some (.inl (some (qI r2)), s3)))) W (I.2.2.1.tr (k 27 0 (by omega))) (I.hr.tr (k 30 0 (by omega)) (by rw [k 26 0 (by omega)])) I.2.2.2.1.split.2.2 (fun s hs => r_marks W hs)
  refine ⟨nI (pend P (pn P)), s4, σ2, ?_, r1, pmark P, hpush hs P, sv, w_inv I cc r5 W.mark H4 r2 (C3.q0 q4) r3 hpp, S4.wr r5⟩
  unfold f_X7_takeBaseline f_X7_currentPlan
  rw [e1, qb_V, if_pos z1, e2, qb_V, qlet_eq, qb_P, e4, qb_V, p4.2.2.2.2.2.2.2]
end WR
