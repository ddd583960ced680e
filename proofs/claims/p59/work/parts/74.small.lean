/-! parts of the invariant, moved -/
section TR
variable {P : qP} {hs : List qP} {sv : qP} {σ σ' : qS}
theorem Rep.tr {j : Nat} (H : Rep σ j P) (k : ∀ a, 1 ≤ a → a ≤ 8 → σ' a j = σ a j) : Rep σ' j P :=
  ⟨by rw [k 1 (by omega) (by omega)]; exact H.1, fun f t hf ht => by rw [k (2 + f) (by omega) (by omega)]; exact H.2.1 f t hf ht, fun r hr => by rw [k 8 (by omega) (by omega)]; exact H.2.2.1 r hr, by rw [k 1 (by omega) (by omega)]; exact H.2.2.2⟩
end TR
/-! outputAt, type, the last script's failure -/
section SM
variable {P : qP} {hs : List qP} {sv : qP} {σ : qS}
theorem i_char {x : Int32} (h : 0 ≤ x.toInt ∧ x.toInt ≤ 126) : ∃ k, k ≤ 126 ∧ x = nI k := ⟨x.toInt.toNat, by omega, i_nI (by omega) (by omega)⟩
theorem qch_n {k : Nat} (h : k ≤ 126) : qch (nI k) := ⟨nI_pos' (by omega), by rw [show (65535 : Int32) = nI 65535 from rfl]; exact nI_le (by omega) (by omega)⟩
end SM

