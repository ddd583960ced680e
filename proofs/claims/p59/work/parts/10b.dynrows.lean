/-! rows of cells made on the way -/
theorem arrV_same {cA : ClassId} {n : Nat} {f f' : Nat → Value} (h : ∀ i, i < n → f i = f' i) : arrV cA n f = arrV cA n f' := by
  unfold arrV
  congr 1
  apply Array.ext (by simp)
  intro i h1 h2
  simp only [Array.getElem_ofFn]
  exact h i (by simpa using h1)
theorem qnn_lt (x : Int32) : x.toNatClampNeg < qLI := by
  have h := Int32.toInt_le x
  show x.toInt.toNat < 2147483648
  have : x.toInt ≤ 2147483647 := h
  omega
/-- a new row of n zeros -/
def qzr (n : Int32) : Nat → Int32 := fun i => if i = qLI then n else 0
theorem qzr_len (n : Int32) : qln (qzr n) = n.toNatClampNeg := by simp [qln, qzr]
/-- bytes that can be read: constant ones, or made on the way -/
def qBy (g : qG) (k j : Nat) : Prop := (k = 44 ∧ j < 8) ∨ (k = 46 ∧ j < 2) ∨ ((k = 61 ∨ k = 63 ∨ k = 66) ∧ (k, j) ∈ qX9 g)
/-- a text -/
def qSt (g : qG) (k j : Nat) : Prop := (k = 42 ∧ j < 8) ∨ (k = 60 ∧ (60, j) ∈ qX9 g ∧ (61, j) ∈ qX9 g)
/-- where a text's bytes are -/
def qvk (k : Nat) : Nat := if k = 42 then 44 else 61
/-- they fit -/
def qbf (r : Nat → Int32) (a n : Nat) : Bool := (List.range n).all (fun i => fits .byte (.int (r (a + i))))
section QD
variable {p : Program} {l : Launch} {e : Env} {R : Room} {s : State} {m : MethodId} {args : Array Value} {below : List Frame} {meth : Method} {c : Code} {g : qG} {nL : Nat} {Qf : qO → State → Prop} {o : Option qO} {cb sb pc : Nat} {L : List (Option qA)} {st : List qA} {σ : qS} {cc : ByteArray} {own : String}
theorem qAf_new (C : qC p l s m meth c cc nL own g) : ∀ q, s.heap.size ≤ q → qAf g q := fun q h => Nat.le_trans C.2.2.2.2.1.2.1 h
/-- new T[n], of numbers -/
theorem qv_newa (C : qC p l s m meth c cc nL own g) {K j N x t0 : Nat} {atype : ArrayType} {ty : FieldType} {n : Int32} (hK : 50 ≤ K) (hdep : ¬ K = 61 ∧ ¬ K = 63 ∧ ¬ (K = 50 ∧ 4 ≤ j ∧ j ≤ 6)) (hty : newarray.typeOf atype = ty) (hp : ∀ C, ty ≠ .object C) (ht : ∀ g : qG, (qtys g)[t0]? = some (g.2.1 x, ty)) (hent : ∀ (g : qG) (r : Nat → Int32), qent g K j r = .inl (g.2.1 x, qln r, .inl r)) (hdf : defaultValue ty = .int 0) (hcb : componentBytes ty ≤ 8) (hN : N ≤ 60000) (harr : Cond.arrayClass ty ∈ qWA) (hL : qfL [(K, j)] L) (hS : qfS [(K, j)] st) (d : decode cc pc = .ok (.newarray atype, 2))
    (k : ∀ g1 : qG, qC p l s m meth c cc nL own g1 → qEv [(K, j)] g g1 → (K, j) ∈ qX9 g1 → qV p l e R s m args below meth c g1 nL Qf o cb sb (pc + 2) L (qR K j :: st) (qrw σ K j (qzr n))) : qV p l e R s m args below meth c g nL Qf (if 0 ≤ n ∧ n ≤ nI N then o else none) (cb + 1) (sb + N) pc L (qI n :: st) σ := by
  by_cases hn : 0 ≤ n ∧ n ≤ nI N
  · rw [if_pos hn]
    intro r hr ls H locs cells slots h1 h2 h3 h4 h5
    obtain ⟨t, ht1, rfl⟩ : ∃ t, t ≤ N ∧ n = nI t := by
      obtain ⟨a1, a2⟩ := hn
      rw [Int32.le_iff_toInt_le] at a1 a2
      rw [nI_toInt (by omega)] at a2
      rw [Int32.toInt_zero] at a1
      refine ⟨n.toInt.toNat, by omega, Int32.toInt_inj.mp ?_⟩
      rw [nI_toInt (by omega)]
      omega
    have ecl : (nI t).toNatClampNeg = t := nI_clamp (by omega)
    have hneg : ¬ nI t < 0 := nI_pos (by omega)
    have hby : t * componentBytes ty ≤ 536870912 := by
      have := Nat.mul_le_mul (show t ≤ 60000 by omega) hcb
      omega
    refine va_newa (N' := t) (a0 := (t, .inl (qzr (nI t)))) C.1 C.2.1 (by rw [hty]; exact qword (a := args) C.2.2.2.2.1.1 harr) hty C.2.2.2.2.1.1.1 h2.1 h2.2.1 h3 (qAf_new C) (fun cA => ?_) hneg ecl hby (by omega) (by omega) d (fun q cA H1 hK1 hP1 hD1 hS1 => ?_)
    · show arrV cA t (fun j => .int (qzr (nI t) j)) = _
      refine arrV_same (fun i hi => ?_)
      rw [hdf]
      show Value.int (if i = qLI then nI t else 0) = .int 0
      rw [if_neg (by have : t < 2147483648 := by omega
                     show ¬ i = 2147483648
                     omega)]
    · have e1 := (hK1.2 (qtys g).length (cA, ty) (by simp)).2
      have e2 := (C.2.2.2.2.1.1.1.2 t0 _ (ht g)).2
      have ec : cA = g.2.1 x := by
        cases ty with
        | object C => exact absurd rfl (hp C)
        | _ => exact Option.some.inj (e1.symm.trans e2)
      subst ec
      have hlen : (qws g σ).length < ((qws g σ) ++ [(q, (.inl (g.2.1 x, t, .inl (qzr (nI t))) : va_E))]).length := by simp
      have hat := hP1 (qws g σ).length (q, .inl (g.2.1 x, t, .inl (qzr (nI t)))) (by simp)
      have hold : ∀ (i : Nat) (y : Nat × va_E), (qws g σ)[i]? = some y → va_at g.1 qcls y H1 ∧ y.1 ≠ q := by
        intro i y hy
        have hil : i < (qws g σ).length := (List.getElem?_eq_some_iff.mp hy).1
        refine ⟨hP1 i y (by rw [List.getElem?_append_left hil]; exact hy), fun he => ?_⟩
        have := hD1.1 i (qws g σ).length y (q, .inl (g.2.1 x, t, .inl (qzr (nI t)))) (by rw [List.getElem?_append_left hil]; exact hy) (by simp) he
        omega
      have hq : qAf g q := hD1.2 (qws g σ).length (q, .inl (g.2.1 x, t, .inl (qzr (nI t)))) (by simp)
      have hH : qH (qbd g K j q) (qrw σ K j (qzr (nI t))) H1 := by
        refine qH_bindW h2 hK hdep (fun i y hy => (hold i y hy).1) (fun i y hy => (hold i y hy).2) hq ?_
        rw [hent]
        show va_at g.1 qcls (q, .inl (g.2.1 x, qln (qzr (nI t)), .inl (qzr (nI t)))) H1
        rw [qzr_len, ecl]
        exact hat
      have E := qbd_ev (g := g) (j := j) (a := q) hK
      have K1 := k (qbd g K j q) (E.C C) E qbd_in r hr ls H1 locs (cells + 1) (slots + t) (E.Ls hL h1) hH (by rw [E.Af]; exact hS1) (by omega) (by omega)
      rw [List.map_cons, E.map hS] at K1
      have eq1 : qcv (qbd g K j q) (qR K j) = Value.ref q := congrArg Value.ref (if_pos ⟨rfl, rfl⟩)
      rw [eq1] at K1
      exact K1
  · rw [if_neg hn]; exact qV.no
end QD
