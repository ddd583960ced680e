/-! a script's text: what is read of it -/
abbrev qTx : Type := Nat × (Nat → Nat)
def dg (T : qTx) (p : Nat) : Bool := decide (p < T.1 ∧ 48 ≤ T.2 p ∧ T.2 p ≤ 57)
def lt1 (T : qTx) (x p : Nat) : Bool := decide (p < T.1 ∧ T.2 p = x)
/-- the place after a sign of a form, from a state: whether all went well so far, the place -/
def tsp (T : qTx) (st : Bool × Nat) (x : Nat) : Bool × Nat :=
  if st.1 = false then st else
  if x = 35 then (if dg T st.2 = true then (true, st.2 + 1) else (false, st.2)) else
  if x = 37 then (if dg T st.2 = true then (if dg T (st.2 + 1) = true then (true, st.2 + 2) else (true, st.2 + 1)) else (false, st.2)) else
  (if lt1 T x st.2 = true then (true, st.2 + 1) else (false, st.2))
/-- the number that it reads -/
def tsv (T : qTx) (st : Bool × Nat) (x : Nat) : Nat :=
  if st.1 = false then 0 else
  if x = 35 then (if dg T st.2 = true then T.2 st.2 - 48 else 0) else
  (if dg T st.2 = true then (if dg T (st.2 + 1) = true then 10 * (T.2 st.2 - 48) + (T.2 (st.2 + 1) - 48) else T.2 st.2 - 48) else 0)
def tss (T : qTx) : Bool × Nat → List Nat → Bool × Nat
  | st, [] => st
  | st, x :: xs => tss T (tsp T st x) xs
def tvs (T : qTx) : Bool × Nat → List Nat → List Nat
  | _, [] => []
  | st, x :: xs => if x = 35 ∨ x = 37 then tsv T st x :: tvs T (tsp T st x) xs else tvs T (tsp T st x) xs
theorem tsp_no (T : qTx) (q x : Nat) : tsp T (false, q) x = (false, q) := rfl
theorem tss_no (T : qTx) (q : Nat) : ∀ xs, tss T (false, q) xs = (false, q)
  | [] => rfl
  | x :: xs => by show tss T (tsp T (false, q) x) xs = _; rw [tsp_no]; exact tss_no T q xs
theorem tsp_le (T : qTx) (st : Bool × Nat) (x : Nat) : st.2 ≤ (tsp T st x).2 := by
  unfold tsp
  split
  · omega
  · split
    · split <;> (dsimp only; omega)
    · split
      · split
        · split <;> (dsimp only; omega)
        · dsimp only; omega
      · split <;> (dsimp only; omega)
theorem tss_le (T : qTx) : ∀ (xs : List Nat) (st : Bool × Nat), st.2 ≤ (tss T st xs).2
  | [], _ => Nat.le_refl _
  | x :: xs, st => Nat.le_trans (tsp_le T st x) (tss_le T xs _)
theorem tsp_in (T : qTx) (st : Bool × Nat) (x : Nat) (h : st.2 ≤ T.1) : (tsp T st x).2 ≤ T.1 := by
  unfold tsp dg lt1
  split
  · exact h
  · split
    · split
      · rename_i h1 h2 h3; simp at h3; dsimp only; omega
      · exact h
    · split
      · split
        · rename_i h1 h2 h3 h4; simp at h4
          split
          · rename_i h5; simp at h5; dsimp only; omega
          · dsimp only; omega
        · exact h
      · split
        · rename_i h1 h2 h3 h4; simp at h4; dsimp only; omega
        · exact h
theorem tss_in (T : qTx) : ∀ (xs : List Nat) (st : Bool × Nat), st.2 ≤ T.1 → (tss T st xs).2 ≤ T.1
  | [], _, h => h
  | x :: xs, st, h => tss_in T xs _ (tsp_in T st x h)
theorem tss_app (T : qTx) : ∀ (xs ys : List Nat) (st : Bool × Nat), tss T st (xs ++ ys) = tss T (tss T st xs) ys
  | [], _, _ => rfl
  | x :: xs, ys, st => tss_app T xs ys (tsp T st x)
/-- names, rests of the forms -/
def nmk : Nat → List Nat
  | 0 => [116, 97, 115, 107, 32]
  | 1 => [100, 114, 111, 112, 32]
  | 2 => [108, 105, 110, 107, 32]
  | 3 => [117, 110, 108, 105, 110, 107, 32]
  | 4 => [108, 105, 109, 105, 116, 32]
  | 5 => [114, 101, 115, 105, 122, 101, 32]
  | 6 => [100, 101, 108, 97, 121, 32]
  | _ => [109, 97, 114, 107]
def rsk : Nat → List Nat
  | 0 => [35, 32, 35, 32, 35, 32, 37]
  | 1 => [37]
  | 2 => [37, 62, 37]
  | 3 => [37, 62, 37]
  | 4 => [35, 32, 37]
  | 5 => [37, 32, 35]
  | 6 => [37, 32, 37]
  | _ => []
def fmk (k : Nat) : List Nat := nmk k ++ rsk k
theorem nmk_lit : ∀ k : Fin 8, ∀ x ∈ nmk k, x ≠ 35 ∧ x ≠ 37 := by decide
theorem fmk_len : ∀ k : Fin 8, qsl k = (fmk k).length := by decide
theorem fmk_chr : ∀ k : Fin 8, ∀ i : Fin 12, (i : Nat) < (fmk k).length → qsc k i = nI ((fmk k).getD i 0) := by decide
theorem fmk_small : ∀ k : Fin 8, ∀ x ∈ fmk k, x < 128 := by decide
/-- a string's sign -/
theorem e_charAt {j i : Nat} (h : i < qsl j) (hl : qsl j < 1000) {c : Nat} (hc : qsc j i = nI c) (hc2 : c < 128) (s : qS) : f_J0_charAt_5068e j (nI i) s = qan (nI c) s := by
  have k1 : ∀ c : Fin 128, (nI c &&& (255 : Int32)) = nI c := by decide
  have e1 := k1 ⟨c, hc2⟩
  dsimp only at e1
  have hq : qch (nI c) := qch_n' hc2
  unfold f_J0_charAt_5068e f_J0_isLatin1_aae02
  rw [if_neg (by decide), if_pos rfl, qb_I, if_neg (by decide)]
  unfold f_J1_charAt_3b067 f_J0_checkIndex_df160 f_J3_checkIndex_8e157
  rw [if_neg (n_ge0 (by omega)), if_pos (show nI i < Int32.ofNat (qsl j) from (n_lt (by omega) (by omega)).mpr h), qb_I, qb_V, if_pos (n_in h (by omega)), nI_clamp (by omega), hc, e1, n_cast (by omega), if_pos hq, qb_I, if_pos hq]
where
  qch_n' {c : Nat} (h : c < 128) : qch (nI c) := ⟨nI_pos' (by omega), by rw [show (65535 : Int32) = nI 65535 from rfl]; exact nI_le (by omega) (by omega)⟩
theorem e_len {j : Nat} (s : qS) : f_J0_length_8abf5 j s = qan (nI (qsl j)) s := by
  unfold f_J0_length_8abf5 f_J0_coder_7d493
  rw [if_neg (by decide), qb_I, show ((0 : Int32) &&& 31) = 0 by decide]
  have : (Int32.ofNat (qsl j)) >>> (0 : Int32) = nI (qsl j) := by
    apply Int32.toBitVec_inj.mp
    rw [Int32.toBitVec_shiftRight, show ((0 : Int32).toBitVec.smod 32) = 0#32 by decide]
    simp
    rfl
  rw [this]
/-! the class reads -/
section CP
variable {T : qTx} {σ : qS}
/-- the class has the text -/
def CTx (T : qTx) (σ : qS) : Prop := T.1 ≤ 60 ∧ σ 19 0 3 = nI T.1 ∧ ∀ i, i < T.1 → σ 20 0 i = nI (T.2 i) ∧ T.2 i < 127
theorem CTx.tr {σ' : qS} (h : CTx T σ) (h3 : σ' 19 0 3 = σ 19 0 3) (h20 : σ' 20 0 = σ 20 0) : CTx T σ' := ⟨h.1, by rw [h3]; exact h.2.1, fun i hi => by rw [h20]; exact h.2.2 i hi⟩
theorem c_chr (h : CTx T σ) {p : Nat} (hp : p < T.1) : f_X7_charAt 20 0 (nI p) σ = qan (nI (T.2 p)) σ := by
  have h60 := h.1
  obtain ⟨h1, h2⟩ := h.2.2 p hp
  unfold f_X7_charAt
  rw [if_neg (n_ge0 (by omega)), if_neg (by rw [show Int32.ofNat (qlen 20) = nI 60 from rfl, n_le (by omega) (by omega)]; omega), if_pos (n_in (show p < qlen 20 by show p < 60; omega) (by decide)), nI_clamp (by omega), h1, if_pos (qch_n (by omega))]
theorem c_isDigit (h : CTx T σ) {p : Nat} (hp : p < 1000) : f_X6_isDigitAt (nI p) σ = qan (qb1 (dg T p)) σ := by
  have h60 := h.1
  unfold f_X6_isDigitAt dg
  rw [h.2.1]
  by_cases hx : p < T.1
  · have h2 := (h.2.2 p hx).2
    rw [if_neg (nI_ge hx (by omega)), c_chr h hx, qb_I, e_isWithin, qb_I, show (48 : Int32) = nI 48 from rfl, show (57 : Int32) = nI 57 from rfl]
    by_cases hd : 48 ≤ T.2 p ∧ T.2 p ≤ 57
    · rw [decide_eq_true (show nI 48 ≤ nI (T.2 p) ∧ nI (T.2 p) ≤ nI 57 from ⟨(n_le (by omega) (by omega)).mpr hd.1, (n_le (by omega) (by omega)).mpr hd.2⟩), if_neg (by decide), decide_eq_true ⟨hx, hd⟩]; rfl
    · rw [decide_eq_false (show ¬ (nI 48 ≤ nI (T.2 p) ∧ nI (T.2 p) ≤ nI 57) from fun hh => hd ⟨(n_le (by omega) (by omega)).mp hh.1, (n_le (by omega) (by omega)).mp hh.2⟩), if_pos (by rfl), decide_eq_false (fun hh => hd hh.2)]; rfl
  · rw [if_pos (nI_le (by omega) (by omega)), decide_eq_false (fun hh => hx hh.1)]; rfl
/-- what reading moves of the class -/
def Qp (σ σ' : qS) : Prop := (∀ a b, ¬ (a = 19 ∧ b = 0) → ¬ (a = 21 ∧ b = 0) → ¬ (a = 22 ∧ b = 0) → σ' a b = σ a b) ∧ ∀ x, x ≠ 4 → x ≠ 5 → σ' 19 0 x = σ 19 0 x
theorem Qp.refl (σ : qS) : Qp σ σ := ⟨fun _ _ _ _ _ => rfl, fun _ _ _ => rfl⟩
theorem Qp.trans {σ σ' σ'' : qS} (h : Qp σ σ') (h2 : Qp σ' σ'') : Qp σ σ'' := ⟨fun a b h3 h4 h5 => (h2.1 a b h3 h4 h5).trans (h.1 a b h3 h4 h5), fun x h3 h4 => (h2.2 x h3 h4).trans (h.2 x h3 h4)⟩
theorem Qp.pos (σ : qS) (v : Int32) : Qp σ (qu σ 19 0 5 v) := ⟨fun a b h _ _ => qu_other σ h, fun x _ h => by rw [qu_at, if_neg (fun hh => h hh.2.2)]⟩
theorem Qp.cnt (σ : qS) (v : Int32) : Qp σ (qu σ 19 0 4 v) := ⟨fun a b h _ _ => qu_other σ h, fun x h _ => by rw [qu_at, if_neg (fun hh => h hh.2.2)]⟩
theorem Qp.cmd (σ : qS) (i : Nat) (v : Int32) : Qp σ (qu σ 21 0 i v) := ⟨fun a b _ h _ => qu_other σ h, fun x _ _ => by rw [qu_at, if_neg (by simp)]⟩
theorem Qp.num (σ : qS) (i : Nat) (v : Int32) : Qp σ (qu σ 22 0 i v) := ⟨fun a b _ _ h => qu_other σ h, fun x _ _ => by rw [qu_at, if_neg (by simp)]⟩
theorem CTx.qp {σ' : qS} (h : CTx T σ) (q : Qp σ σ') : CTx T σ' := h.tr (q.2 3 (by decide) (by decide)) (q.1 20 0 (by simp) (by simp) (by simp))
/-- reading a number -/
theorem c_rn58 {v n cc pl : Nat} (hpl : pl < 4) (hcc : cc < 60) (h4 : σ 19 0 4 = nI cc) : ∀ (d : Nat), d < 100 → j_X6_readNumber_58 (nI pl) (nI n) (nI d) σ = qan (qb1 (decide (0 < d))) (qu σ 22 0 (4 * cc + pl) (nI n)) := by
  intro d hd
  unfold j_X6_readNumber_58
  rw [h4, show (4 : Int32) = nI 4 from rfl, n_mul, nI_add, Nat.mul_comm cc 4, e_put (show 4 * cc + pl < qlen 22 by show 4 * cc + pl < 240; omega) (by decide), qb_V]
  by_cases h : 0 < d
  · rw [if_neg (by rw [show (0 : Int32) = nI 0 from rfl, n_le (by omega) (by omega)]; omega), decide_eq_true h]; rfl
  · rw [if_pos (by rw [show d = 0 by omega]; decide), decide_eq_false h]; rfl
theorem d_num1 : ∀ k : Fin 10, ((10 : Int32) * nI 0 + nI (48 + k)) - 48 = nI k := by decide
theorem d_num2 : ∀ j : Fin 10, ∀ k : Fin 10, ((10 : Int32) * nI j + nI (48 + k)) - 48 = nI (10 * j + k) := by decide
theorem dg_v {p : Nat} (h : dg T p = true) : p < T.1 ∧ ∃ k, k < 10 ∧ T.2 p = 48 + k := by
  unfold dg at h
  rw [decide_eq_true_iff] at h
  exact ⟨h.1, T.2 p - 48, by omega, by omega⟩
theorem c_readNumber (h : CTx T σ) {p cc pl x : Nat} (hx : x = 35 ∨ x = 37) (hpl : pl < 4) (hcc : cc < 60) (hp : p ≤ T.1) (h4 : σ 19 0 4 = nI cc) (h5 : σ 19 0 5 = nI p) : ∃ σ', f_X6_readNumber (nI pl) (if x = 37 then 2 else 1) σ = qan (qb1 (tsp T (true, p) x).1) σ' ∧ Qp σ σ' ∧ σ' 19 0 4 = nI cc ∧ σ' 19 0 5 = nI (tsp T (true, p) x).2 ∧ σ' 21 0 = σ 21 0 ∧ (∀ y, σ' 22 0 y = if y = 4 * cc + pl then nI (tsv T (true, p) x) else σ 22 0 y) := by
  have h60 := h.1
  have u : ∀ m (σ : qS) v2 v3 v4, l_X6_readNumber_5 (m + 1) (nI pl) v2 v3 v4 σ = b_X6_readNumber_5 (l_X6_readNumber_5 m) (nI pl) v2 v3 v4 σ := fun _ _ _ _ _ => rfl
  have fin : ∀ (σ1 : qS) (n d : Nat), d < 100 → Qp σ σ1 → σ1 19 0 4 = nI cc → σ1 21 0 = σ 21 0 → σ1 22 0 = σ 22 0 → ∀ q, σ1 19 0 5 = nI q → ∃ σ', j_X6_readNumber_58 (nI pl) (nI n) (nI d) σ1 = qan (qb1 (decide (0 < d))) σ' ∧ Qp σ σ' ∧ σ' 19 0 4 = nI cc ∧ σ' 19 0 5 = nI q ∧ σ' 21 0 = σ 21 0 ∧ (∀ y, σ' 22 0 y = if y = 4 * cc + pl then nI n else σ 22 0 y) := fun σ1 n d hd Q e4 e21 e22 q e5 => by
    refine ⟨qu σ1 22 0 (4 * cc + pl) (nI n), c_rn58 (v := 0) hpl hcc e4 d hd, Q.trans (Qp.num _ _ _), by rw [qu_at, if_neg (by simp)]; exact e4, by rw [qu_at, if_neg (by simp)]; exact e5, by rw [qu_other _ (by simp)]; exact e21, fun y => ?_⟩
    rw [qu_at, e22]
    by_cases hy : y = 4 * cc + pl
    · rw [if_pos ⟨rfl, rfl, hy⟩, if_pos hy]
    · rw [if_neg (fun hh => hy hh.2.2), if_neg hy]
  have e0 : ∀ v2, f_X6_readNumber (nI pl) v2 σ = l_X6_readNumber_5 (99997 + 1 + 1 + 1) (nI pl) v2 (nI 0) (nI 0) σ := fun _ => rfl
  have hv2 : ¬ (if x = 37 then (2 : Int32) else 1) ≤ nI 0 := by rcases hx with rfl | rfl <;> decide
  rw [e0, u]
  unfold b_X6_readNumber_5
  rw [if_neg hv2, h5, c_isDigit h (by omega), qb_I]
  cases hd : dg T p
  · rw [if_pos (by rfl)]
    obtain ⟨σ', e, r⟩ := fin σ 0 0 (by decide) (Qp.refl σ) h4 rfl rfl p h5
    have ht : tsp T (true, p) x = (false, p) := by rcases hx with rfl | rfl <;> simp [tsp, hd]
    have hv : tsv T (true, p) x = 0 := by rcases hx with rfl | rfl <;> simp [tsv, hd]
    rw [ht, hv]
    exact ⟨σ', e, r⟩
  · obtain ⟨hp1, k, hk, ek⟩ := dg_v hd
    rw [if_neg (by decide), h5, c_chr h hp1, qb_I, h5, nI_1, nI_1, qlet_eq, ek, d_num1 ⟨k, hk⟩]
    obtain ⟨σ1, hs1⟩ : ∃ σ1, σ1 = qu σ 19 0 5 (nI (p + 1)) := ⟨_, rfl⟩
    rw [← hs1]
    have Q1 : Qp σ σ1 := by rw [hs1]; exact Qp.pos _ _
    have H1 := h.qp Q1
    have f4 : σ1 19 0 4 = nI cc := by rw [hs1, qu_at, if_neg (by simp)]; exact h4
    have f5 : σ1 19 0 5 = nI (p + 1) := by rw [hs1, qu_at, if_pos ⟨rfl, rfl, rfl⟩]
    have f21 : σ1 21 0 = σ 21 0 := by rw [hs1, qu_other _ (by simp)]
    have f22 : σ1 22 0 = σ 22 0 := by rw [hs1, qu_other _ (by simp)]
    rw [u]
    unfold b_X6_readNumber_5
    rcases hx with rfl | rfl
    · rw [if_pos (show (if (35 : Nat) = 37 then (2 : Int32) else 1) ≤ nI (0 + 1) by decide)]
      obtain ⟨σ', e, r⟩ := fin σ1 k 1 (by decide) Q1 f4 f21 f22 (p + 1) f5
      have ht : tsp T (true, p) 35 = (true, p + 1) := by simp [tsp, hd]
      have hv : tsv T (true, p) 35 = k := by simp [tsv, hd, ek]
      rw [ht, hv]
      exact ⟨σ', e, r⟩
    · rw [if_neg (show ¬ (if (37 : Nat) = 37 then (2 : Int32) else 1) ≤ nI (0 + 1) by decide), f5, c_isDigit H1 (by omega), qb_I]
      cases hd2 : dg T (p + 1)
      · rw [if_pos (by rfl)]
        obtain ⟨σ', e, r⟩ := fin σ1 k 1 (by decide) Q1 f4 f21 f22 (p + 1) f5
        have ht : tsp T (true, p) 37 = (true, p + 1) := by simp [tsp, hd, hd2]
        have hv : tsv T (true, p) 37 = k := by simp [tsv, hd, hd2, ek]
        rw [ht, hv]
        exact ⟨σ', e, r⟩
      · obtain ⟨hp2, j, hj, ej⟩ := dg_v hd2
        rw [if_neg (by decide), f5, c_chr H1 hp2, qb_I, f5, nI_1, nI_1, qlet_eq, ej, d_num2 ⟨k, hk⟩ ⟨j, hj⟩]
        obtain ⟨σ2, hs2⟩ : ∃ σ2, σ2 = qu σ1 19 0 5 (nI (p + 1 + 1)) := ⟨_, rfl⟩
        rw [← hs2, u]
        unfold b_X6_readNumber_5
        rw [if_pos (show (if (37 : Nat) = 37 then (2 : Int32) else 1) ≤ nI (0 + 1 + 1) by decide)]
        have Q2 : Qp σ σ2 := Q1.trans (by rw [hs2]; exact Qp.pos _ _)
        obtain ⟨σ', e, r⟩ := fin σ2 (10 * k + j) 2 (by decide) Q2 (by rw [hs2, qu_at, if_neg (by simp)]; exact f4) (by rw [hs2, qu_other _ (by simp)]; exact f21) (by rw [hs2, qu_other _ (by simp)]; exact f22) (p + 2) (by rw [hs2, qu_at, if_pos ⟨rfl, rfl, rfl⟩])
        have ht : tsp T (true, p) 37 = (true, p + 2) := by simp [tsp, hd, hd2]
        have hv : tsv T (true, p) 37 = 10 * k + j := by simp [tsv, hd, hd2, ek, ej]
        rw [ht, hv]
        exact ⟨σ', e, r⟩
end CP
