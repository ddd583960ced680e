/-! THE PURE SIDE. Base: answers, bits, rows -/
abbrev qan (x : Int32) (s : qS) : Option qO := some (.inl (some (qI x)), s)
abbrev qdo (s : qS) : Option qO := some (.inl none, s)
abbrev qth (E : String) (s : qS) : Option qO := some (.inr E, s)
theorem qb_I {x : Int32} {s : qS} {k : Int32 → qS → Option qO} {ke : String → qS → Option qO} : qbind (some (.inl (some (.inl (.int x))), s)) (qvI k) ke = k x s := rfl
theorem qb_V {s : qS} {k : qS → Option qO} {ke : String → qS → Option qO} : qbind (some (.inl none, s)) (qvV k) ke = k s := rfl
theorem qb_S {s : qS} {k : qS → Option qO} {ke : String → qS → Option qO} {i j : Nat} : qbind (some (.inl (some (.inr (i, j))), s)) (qvS i k) ke = if i = i ∧ j = 0 then k s else none := by
  simp [qbind, qvS]
theorem qb_E {E : String} {s : qS} {kv : Option qA → qS → Option qO} {ke : String → qS → Option qO} : qbind (some (.inr E, s)) kv ke = ke E s := rfl
theorem qlet_eq {α β : Type} (v : α) (k : α → β) : qlet v k = k v := rfl
def qb1 (b : Bool) : Int32 := if b then 1 else 0
theorem qb1_t : qb1 true = 1 := rfl
theorem qb1_f : qb1 false = 0 := rfl
theorem qb1_0 (b : Bool) : qb1 b = 0 ↔ b = false := by cases b <;> simp [qb1]
theorem qb1_1 (b : Bool) : qb1 b = 1 ↔ b = true := by cases b <;> simp [qb1]
theorem qb1_bo (b : Bool) : qbo (qb1 b) := by cases b <;> simp [qb1, qbo]
/-! numbers -/
theorem n_in {t n : Nat} (h : t < n) (hn : n < 2 ^ 31) : qin (nI t) n := by
  unfold qin
  rw [nI_toInt (by omega)]
  omega
theorem n_ge0 {t : Nat} (h : t < 2 ^ 31) : ¬ nI t < 0 := nI_pos h
theorem n_le {a b : Nat} (ha : a < 2 ^ 31) (hb : b < 2 ^ 31) : nI a ≤ nI b ↔ a ≤ b := nI_leI ha hb
theorem n_lt {a b : Nat} (ha : a < 2 ^ 31) (hb : b < 2 ^ 31) : nI a < nI b ↔ a < b := nI_ltI ha hb
theorem n_eq {a b : Nat} (ha : a < 2 ^ 31) (hb : b < 2 ^ 31) : nI a = nI b ↔ a = b := nI_eq ha hb
/-! bits -/
def qbit (x : Int32) (i : Nat) : Bool := x.toBitVec.getLsbD i
theorem qbit_or (x y : Int32) (i : Nat) : qbit (x ||| y) i = (qbit x i || qbit y i) := by simp [qbit]
theorem qbit_and (x y : Int32) (i : Nat) : qbit (x &&& y) i = (qbit x i && qbit y i) := by simp [qbit]
theorem qbit_0 (i : Nat) : qbit 0 i = false := by simp [qbit]
theorem qbit_ge {x : Int32} {i : Nat} (h : 32 ≤ i) : qbit x i = false := BitVec.getLsbD_of_ge _ _ h
theorem qbit_ext {x y : Int32} (h : ∀ i, i < 32 → qbit x i = qbit y i) : x = y := by
  exact Int32.toBitVec_inj.mp (BitVec.eq_of_getLsbD_eq (fun i hi => h i hi))
theorem qbit_not {x : Int32} {i : Nat} (h : i < 32) : qbit (x ^^^ (-1 : Int32)) i = !qbit x i := by
  have : (-1 : Int32).toBitVec = BitVec.allOnes 32 := by decide
  simp [qbit, this, h]
theorem n_and31 {i : Nat} (h : i < 32) : nI i &&& 31 = nI i := by
  revert i
  decide
theorem n_bv {i : Nat} (h : i < 32) : (nI i).toBitVec.toNat = i := by
  revert i
  decide
theorem qbit_shl {i j : Nat} (hi : i < 32) : qbit ((1 : Int32) <<< (nI i &&& 31)) j = decide (i = j) := by
  rcases Nat.lt_or_ge j 32 with hj | hj
  · have key : ∀ i : Fin 32, ∀ j : Fin 32, qbit ((1 : Int32) <<< (nI i &&& 31)) j = decide ((i : Nat) = j) := by decide +kernel
    exact key ⟨i, hi⟩ ⟨j, hj⟩
  · rw [qbit_ge hj]
    simp
    omega
theorem qbit_sr {x : Int32} {i j : Nat} (hi : i < 32) (hij : i + j < 32) : qbit (x >>> (nI i &&& 31)) j = qbit x (i + j) := by
  have key : ∀ i : Fin 32, ((nI i &&& 31).toBitVec.smod 32).toNat = i := by decide +kernel
  have k1 := key ⟨i, hi⟩
  unfold qbit
  rw [Int32.toBitVec_shiftRight, BitVec.sshiftRight_eq', k1, BitVec.getLsbD_sshiftRight]
  have h1 : j < 32 := by omega
  simp [h1, hij]
theorem qbit_has {x : Int32} {i : Nat} (hi : i < 32) : ((x >>> (nI i &&& 31)) &&& (1 : Int32)) = 1 ↔ qbit x i = true := by
  have e0 : qbit (x >>> (nI i &&& 31)) 0 = qbit x i := qbit_sr (j := 0) hi (by omega)
  have k1 : ∀ j : Fin 32, qbit 1 j = decide ((j : Nat) = 0) := by decide +kernel
  constructor
  · intro h
    have := congrArg (fun z => qbit z 0) h
    simp only [qbit_and, e0] at this
    have k2 := k1 0
    rw [show ((0 : Fin 32) : Nat) = 0 from rfl] at k2
    rw [k2] at this
    simpa using this
  · intro h
    apply qbit_ext
    intro j hj
    rw [qbit_and, k1 ⟨j, hj⟩]
    by_cases h0 : j = 0
    · subst h0
      rw [e0, h]
      rfl
    · simp [h0]
theorem qbit_shr {x : Int32} {i : Nat} (hi : i < 31) : qbit (x >>> ((1 : Int32) &&& 31)) i = qbit x (i + 1) := by
  rw [Nat.add_comm]
  exact qbit_sr (i := 1) (by omega) (by omega)
theorem qbit_low {i j : Nat} (hi : i < 31) : qbit (((1 : Int32) <<< (nI i &&& 31)) - 1) j = decide (j < i) := by
  rcases Nat.lt_or_ge j 32 with hj | hj
  · have key : ∀ i : Fin 31, ∀ j : Fin 32, qbit (((1 : Int32) <<< (nI i &&& 31)) - 1) j = decide ((j : Nat) < i) := by decide +kernel
    exact key ⟨i, hi⟩ ⟨j, hj⟩
  · rw [qbit_ge hj]
    simp
    omega
theorem qbit_zero {x : Int32} : x = 0 ↔ ∀ i, i < 32 → qbit x i = false := by
  constructor
  · rintro rfl i _
    exact qbit_0 i
  · intro h
    exact qbit_ext (fun i hi => by rw [h i hi, qbit_0])
theorem qbit_sub {x y : Int32} : x &&& (y ^^^ (-1 : Int32)) = 0 ↔ ∀ i, i < 32 → qbit x i = true → qbit y i = true := by
  rw [qbit_zero]
  constructor
  · intro h i hi hx
    have := h i hi
    rw [qbit_and, qbit_not hi, hx] at this
    simpa using this
  · intro h i hi
    rw [qbit_and, qbit_not hi]
    cases hx : qbit x i
    · rfl
    · rw [h i hi hx]; rfl
/-! leaves -/
theorem e_isWithin (a b c : Int32) (s : qS) : f_X7_isWithin a b c s = qan (qb1 (decide (b ≤ a ∧ a ≤ c))) s := by
  unfold f_X7_isWithin
  by_cases h1 : a < b
  · rw [if_pos h1]
    have : ¬ (b ≤ a ∧ a ≤ c) := fun h => absurd h.1 (Int32.not_le.mpr h1)
    simp [this, qb1]
  · rw [if_neg h1]
    by_cases h2 : c < a
    · rw [if_pos h2]
      have : ¬ (b ≤ a ∧ a ≤ c) := fun h => absurd h.2 (Int32.not_le.mpr h2)
      simp [this, qb1]
    · rw [if_neg h2]
      have : (b ≤ a ∧ a ≤ c) := ⟨Int32.not_lt.mp h1, Int32.not_lt.mp h2⟩
      simp [this, qb1]
theorem e_hasBit {a : Int32} {i : Nat} {s : qS} (h : i < 32) : f_X7_hasBit a (nI i) s = qan (qb1 (qbit a i)) s := by
  unfold f_X7_hasBit
  simp only [qbit_has h]
  cases qbit a i <;> rfl
theorem e_at {k j t : Nat} {s : qS} (h : t < qlen k) (hk : qlen k < 2 ^ 31) : f_X7_at k j (nI t) s = qan (s k j t) s := by
  unfold f_X7_at
  rw [if_neg (n_ge0 (by omega)), if_neg (by rw [show Int32.ofNat (qlen k) = nI (qlen k) from rfl, n_le hk (by omega)]; omega), if_pos (n_in h hk), nI_clamp (by omega)]
theorem e_put {k j t : Nat} {v : Int32} {s : qS} (h : t < qlen k) (hk : qlen k < 2 ^ 31) : f_X7_put k j (nI t) v s = qdo (qu s k j t v) := by
  unfold f_X7_put
  rw [if_neg (n_ge0 (by omega)), if_neg (by rw [show Int32.ofNat (qlen k) = nI (qlen k) from rfl, n_le hk (by omega)]; omega), if_pos (n_in h hk), nI_clamp (by omega)]
  rfl

