/-! TEXTS AND BUILDERS, purely -/
/-- a text (k, j) is T -/
def TX (σ : qS) (k j : Nat) (T : List Int32) : Prop := σ k j 1 = 0 ∧ σ k j 5 = 1 ∧ σ (qvk k) j qLI = nI T.length ∧ T.length ≤ 1000 ∧ okt T ∧ ∀ i v, T[i]? = some v → σ (qvk k) j i = v
/-- a builder j holds T, in a row of cap places -/
def BT (σ : qS) (j cap : Nat) (T : List Int32) : Prop := σ 62 j 1 = 0 ∧ σ 62 j 5 = 1 ∧ σ 62 j 3 = nI T.length ∧ σ 63 j qLI = nI cap ∧ T.length ≤ cap ∧ cap ≤ 2000 ∧ okt T ∧ (∀ i v, T[i]? = some v → σ 63 j i = v) ∧ qbf (σ 63 j) 0 cap = true
section TXT
variable {σ σ' : qS} {k j cap : Nat} {T U : List Int32}
theorem sh0 (x : Int32) : x >>> ((0 : Int32) &&& 31) = x := by simp
theorem sl0 (x : Int32) : x <<< ((0 : Int32) &&& 31) = x := by simp
theorem TX.len (H : TX σ k j T) : qln (σ (qvk k) j) = T.length := by
  have := H.2.2.2.1
  unfold qln
  rw [H.2.2.1, nI_clamp (by omega)]
theorem BT.len (H : BT σ j cap T) : qln (σ 63 j) = cap := by
  have := H.2.2.2.2.2.1
  unfold qln
  rw [H.2.2.2.1, nI_clamp (by omega)]
theorem TX.tr (H : TX σ k j T) (e1 : σ' k j = σ k j) (e2 : σ' (qvk k) j = σ (qvk k) j) : TX σ' k j T := by
  unfold TX
  rw [e1, e2]
  exact H
theorem BT.tr (H : BT σ j cap T) (e1 : σ' 62 j = σ 62 j) (e2 : σ' 63 j = σ 63 j) : BT σ' j cap T := by
  unfold BT
  rw [e1, e2]
  exact H
theorem x_coder (H : TX σ k j T) : f_J0_coder_7d493 k j σ = qan 0 σ := by
  unfold f_J0_coder_7d493
  rw [if_neg (by decide), H.1, if_pos (by decide)]
theorem x_length (H : TX σ k j T) : f_J0_length_8abf5 k j σ = qan (nI T.length) σ := by
  unfold f_J0_length_8abf5
  rw [if_neg (by rw [H.2.1]; decide), x_coder H, qb_I, n_ofl H.len, sh0]
theorem ch_key : ∀ n : Fin 127, ((nI n &&& (255 : Int32)).toUInt32 % 65536).toInt32 = nI n := by decide +kernel
theorem x_charAt (H : TX σ k j T) {i : Nat} {v : Int32} (hv : T[i]? = some v) : f_J0_charAt_5068e k j (nI i) σ = qan v σ := by
  have hi : i < T.length := by
    rcases Nat.lt_or_ge i T.length with h | h
    · exact h
    · rw [List.getElem?_eq_none h] at hv; cases hv
  have hl := H.2.2.2.1
  obtain ⟨n, hn, e⟩ := i_char (H.2.2.2.2.1 v (List.mem_of_getElem? hv))
  have hk : ((v &&& (255 : Int32)).toUInt32 % 65536).toInt32 = v := by
    rw [e]
    exact ch_key ⟨n, by omega⟩
  unfold f_J0_charAt_5068e f_J0_isLatin1_aae02
  rw [if_neg (by decide), H.1, if_pos rfl, qb_I, if_neg (by decide), if_neg (by rw [H.2.1]; decide)]
  unfold f_J1_charAt_3b067 f_J0_checkIndex_df160 f_J3_checkIndex_8e157
  rw [n_ofl H.len, if_neg (n_ge0 (by omega)), if_pos ((n_lt (by omega) (by omega)).mpr hi), qb_I, qb_V, if_pos (by rw [H.len]; exact n_in hi (by omega)), nI_clamp (show i < 2 ^ 31 by omega), H.2.2.2.2.2 i v hv, hk, if_pos (by rw [e]; exact qch_n hn), qb_I, if_pos (by rw [e]; exact qch_n hn)]
/-- a line is the class's output -/
theorem l_line_loop (H : TX σ k j T) (O : TxOK σ T) : ∀ (d i m : Nat), i + d = T.length → d < m → l_L_isLine_17 k j m 1 (nI i) σ = qan 1 σ := by
  have hl := H.2.2.2.1
  intro d
  induction d with
  | zero =>
    intro i m hi hm
    obtain ⟨m, rfl⟩ : ∃ m', m = m' + 1 := ⟨m - 1, by omega⟩
    simp only [l_L_isLine_17, b_L_isLine_17]
    rw [x_length H, qb_I, if_pos (nI_le (by omega) (by omega)), if_pos (show qbo 1 from qb1_bo true)]
  | succ d ih =>
    intro i m hi hm
    obtain ⟨m, rfl⟩ : ∃ m', m = m' + 1 := ⟨m - 1, by omega⟩
    obtain ⟨v, hv⟩ : ∃ v, T[i]? = some v := ⟨_, List.getElem?_eq_getElem (show i < T.length by omega)⟩
    simp only [l_L_isLine_17, b_L_isLine_17]
    rw [x_length H, qb_I, if_neg (nI_ge (by omega) (by omega)), if_neg (by decide), m_outputAt O hv, qb_I, x_charAt H hv, qb_I, if_pos rfl, nI_1]
    exact ih (i + 1) m (by omega) (by omega)
theorem l_line (H : TX σ k j T) (O : TxOK σ T) : f_L_isLine (nI T.length) k j σ = qan 1 σ := by
  have hl := H.2.2.2.1
  unfold f_L_isLine
  rw [x_length H, qb_I, if_pos rfl]
  exact l_line_loop H O T.length 0 qFU (by omega) (by unfold qFU; omega)
/-! rows of bytes -/
theorem fit_char {n : Nat} (h : n ≤ 126) : fits .byte (.int (nI n)) = true := by
  have key : ∀ n : Fin 127, fits .byte (.int (nI n)) = true := by decide +kernel
  exact key ⟨n, by omega⟩
theorem qbf_iff {r : Nat → Int32} {a n : Nat} : qbf r a n = true ↔ ∀ i, i < n → fits .byte (.int (r (a + i))) = true := ⟨fun h i hi => qbf_at h hi, fun h => List.all_eq_true.mpr (fun i hi => h i (List.mem_range.mp hi))⟩
theorem cpy_at (f g : Nat → Int32) (sp dp n i : Nat) : va_cpy f g sp dp n i = if dp ≤ i ∧ i < dp + n then f (sp + (i - dp)) else g i := by
  unfold va_cpy
  rfl
end TXT
