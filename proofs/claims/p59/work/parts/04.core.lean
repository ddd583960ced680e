/-! THE ABSTRACT LAYER: all cells of the run by kind, instance and place; a row an instruction over it (names of this part: q..) -/
/-- the words of the tables that every method may use -/
def qok : Cond → Bool
  | .methodLinkNest .. => true
  | .fieldLinkNest .. => true
  | .castable .. => true
  | .declares _ => true
  | w => goodWord w
def qWA : List Cond := lw_tbl.filter qok
theorem qWA_in {w : Cond} (h : w ∈ lw_tbl) (h2 : qok w = true) : w ∈ qWA := List.mem_filter.mpr ⟨h, h2⟩
theorem qok_warm {w : Cond} (hk : qok w = true) {a a' : Array Value} {s U : State} (hW : s.WarmedH U.vm) (h : w.before a s = true) : w.before a' U = true := by
  cases w
  case methodLinkNest => exact va_Nw.use rfl (va_Nw.warmM hW (va_Nw.of rfl h))
  case fieldLinkNest => exact va_Nw.use rfl (va_Nw.warmF hW (va_Nw.of rfl h))
  case castable => exact va_Nw.use rfl (va_Nw.warmC hW (va_Nw.of rfl h))
  case declares => exact va_Nw.use rfl (va_Nw.warmD hW (va_Nw.of rfl h))
  all_goals exact word_at hW (good_of_word hk) h
/-- the fixed things of a run: class ids, array class ids, addresses by kind and instance, the first address that the run may write -/
abbrev qG : Type := va_G × (Nat → ClassId) × (Nat → Nat → Nat) × Nat × List (Nat × Nat) × Nat × (Nat → Int32)
abbrev qA : Type := Value ⊕ (Nat × Nat)
def qcv (g : qG) (v : qA) : Value := match v with
  | .inl v => v
  | .inr q => .ref (g.2.2.1 q.1 q.2)
abbrev qI (x : Int32) : qA := .inl (.int x)
abbrev qR (k j : Nat) : qA := .inr (k, j)
abbrev qS : Type := Nat → Nat → Nat → Int32
abbrev qO : Type := (Option qA ⊕ String) × qS
def qu (σ : qS) (k j i : Nat) (v : Int32) : qS := fun a b => if a = k ∧ b = j then upd (σ a b) i v else σ a b
abbrev qAf (g : qG) : Nat → Prop := fun q => g.2.2.2.1 ≤ q
/-- the cells that were made on the way and are held: by kind and instance -/
abbrev qX9 (g : qG) : List (Nat × Nat) := g.2.2.2.2.1
/-- the script: its length, its numbers -/
abbrev qLL (g : qG) : Nat := g.2.2.2.2.2.1
abbrev qxs (g : qG) : Nat → Int32 := g.2.2.2.2.2.2
/-- the classes of the objects -/
abbrev qcls : List vw_C := [(RX2, TX2, 3), (RX3, TX3, 2), (RX4, TX4, 9), (RX5, TX5, 9), (RX6, TX6, 6), (RX7, TX7, 13), (RJ0, TJ0, 4), (RJ4, TJ4, 4)]
/-- what a kind is: 0 an object, 1 ints, 2 chars, 3 the states, 4 the commands; made on the way: 7 ints, 8 booleans, 9 a row of rows, 10 a text, 11 bytes, 12 a builder -/
def qsh (k : Nat) : Nat := match k with
  | 0 => 0 | 1 => 0 | 9 => 0 | 11 => 0 | 19 => 0 | 23 => 0
  | 10 => 3 | 21 => 4 | 20 => 2 | 24 => 2
  | 50 => 7 | 51 => 8 | 52 => 9 | 60 => 10 | 61 => 11 | 62 => 12 | 63 => 11 | 66 => 11
  | _ => 1
def qlen (k : Nat) : Nat := match k with
  | 8 => 3 | 10 => 8 | 18 => 414 | 20 => 60 | 21 => 60 | 22 => 240 | 24 => 414
  | _ => 12
/-- how many of a kind there are -/
def qn (k : Nat) : Nat := match k with
  | 1 => 11 | 2 => 11 | 3 => 11 | 4 => 11 | 5 => 11 | 6 => 11 | 7 => 11 | 8 => 11
  | _ => 1
def qci (k : Nat) : Nat := match k with
  | 0 => 5 | 1 => 3 | 9 => 0 | 11 => 2 | 19 => 4 | 23 => 1 | _ => 6
/-- an object's fields: a number, or the kind (and how far on in its instances) of the cell that it names -/
def qfs (k : Nat) : List (Option (Nat × Nat)) := match k with
  | 0 => [some (1, 0), some (1, 1), some (1, 2), some (9, 0), some (11, 0), some (19, 0), some (23, 0), some (25, 0), none, none, none, none, none]
  | 1 => [some (2, 0), some (3, 0), some (4, 0), some (5, 0), some (6, 0), some (7, 0), some (8, 0), none, none]
  | 9 => [some (10, 0), none, none]
  | 11 => [some (12, 0), some (13, 0), some (14, 0), some (15, 0), some (16, 0), some (17, 0), some (18, 0), none, none]
  | 19 => [some (20, 0), some (21, 0), some (22, 0), none, none, none]
  | 23 => [some (24, 0), none]
  | _ => []
def qfv (g : qG) (j : Nat) (r : Nat → Int32) (f : Option (Nat × Nat)) (i : Nat) : Value := match f with
  | some q => .ref (g.2.2.1 q.1 (j + q.2))
  | none => .int (r i)
def qfl (g : qG) (j : Nat) (r : Nat → Int32) : Nat → List (Option (Nat × Nat)) → List Value
  | _, [] => []
  | i, f :: t => qfv g j r f i :: qfl g j r (i + 1) t
/-- a place beyond all indices -/
def qLI : Nat := 2147483648
/-- a row's length stands at the place qLI; place 5 of a text or a builder: 0 while it names no bytes -/
def qln (r : Nat → Int32) : Nat := (r qLI).toNatClampNeg
def qnr (f : Int32) (a : Nat) : Value := if f = 0 then .null else .ref a
def qent (g : qG) (k j : Nat) (r : Nat → Int32) : va_E :=
  if qsh k = 0 then .inr (qci k, qfl g j r 0 (qfs k))
  else if qsh k = 1 then .inl (g.2.1 0, qlen k, .inl r)
  else if qsh k = 2 then .inl (g.2.1 1, qlen k, .inl r)
  else if qsh k = 3 then .inl (g.2.1 2, qlen k, .inr (.inr (.inr (.inr (fun i => some (g.2.2.1 1 (3 + i)))))))
  else if qsh k = 4 then .inl (g.2.1 3, qlen k, .inr (.inr (.inr (.inr (fun i => if r i = 0 then none else some (g.2.2.1 40 (r i - 1).toNatClampNeg))))))
  else if qsh k = 7 then .inl (g.2.1 0, qln r, .inl r)
  else if qsh k = 8 then .inl (g.2.1 4, qln r, .inl r)
  else if qsh k = 9 then .inl (g.2.1 5, 3, .inr (.inr (.inr (.inr (fun i => if i < 3 then some (g.2.2.1 50 (4 + i)) else none)))))
  else if qsh k = 10 then .inr (6, [qnr (r 5) (g.2.2.1 61 j), .int (r 1), .int (r 2), .int (r 3)])
  else if qsh k = 11 then .inl (g.2.1 6, qln r, .inl r)
  else .inr (7, [qnr (r 5) (g.2.2.1 63 j), .int (r 1), .int (r 2), .int (r 3)])
def qcl : List (Nat × Nat) := (List.range 26).flatMap (fun k => (List.range (qn k)).map (fun j => (k, j)))
theorem qcl_in {k j : Nat} (hk : k < 26) (hj : j < qn k) : (k, j) ∈ qcl := List.mem_flatMap.mpr ⟨k, List.mem_range.mpr hk, List.mem_map.mpr ⟨j, List.mem_range.mpr hj, rfl⟩⟩
def qws (g : qG) (σ : qS) : va_W := (qcl ++ qX9 g).map (fun q => (g.2.2.1 q.1 q.2, qent g q.1 q.2 (σ q.1 q.2)))
def qtys (g : qG) : List (ClassId × FieldType) := [(g.2.1 0, .int), (g.2.1 1, .char), (g.2.1 2, .object RX5), (g.2.1 3, .object RX1), (g.2.1 4, .boolean), (g.2.1 5, .array .int), (g.2.1 6, .byte)]
/-- the law's own texts, the digits: rows that are there from the start -/
def qstx : List (List Int32) := [[], [44], [58], [120], [114], [64], [33], [60]]
/-- a text's length, its signs -/
def qsl (i : Nat) : Nat := (qstx.getD i []).length
def qsc (i j : Nat) : Int32 := (qstx.getD i []).getD j 0
def qdig (j i : Nat) : Int32 := nI (48 + (if j = 0 then i % 10 else i / 10))
/-- what the constant rows hold: kinds 42 texts, 44 their bytes, 46 the digits -/
def qCo (σ : qS) : Prop := (∀ j, j < 8 → σ 42 j 1 = 0 ∧ σ 42 j 5 = 1 ∧ σ 44 j qLI = nI (qsl j) ∧ ∀ i, i < qsl j → σ 44 j i = qsc j i) ∧ ∀ j, j < 2 → σ 46 j qLI = nI 100 ∧ ∀ i, i < 100 → σ 46 j i = qdig j i
theorem qCo.put {σ σ' : qS} (h : qCo σ) (ho : ∀ a b, a = 42 ∨ a = 44 ∨ a = 46 → σ' a b = σ a b) : qCo σ' := by
  refine ⟨fun j hj => ?_, fun j hj => ?_⟩
  · rw [ho 42 j (Or.inl rfl), ho 44 j (Or.inr (Or.inl rfl))]
    exact h.1 j hj
  · rw [ho 46 j (Or.inr (Or.inr rfl))]
    exact h.2 j hj
def qH (g : qG) (σ : qS) (H : Heap) : Prop := va_P g.1 qcls (qws g σ) H ∧ va_D (qAf g) (qws g σ) ∧ qCo σ
theorem qws_in (g : qG) (σ : qS) {k j : Nat} (h : (k, j) ∈ qcl ++ qX9 g) : ∃ q0 : Nat, (qcl ++ qX9 g)[q0]? = some (k, j) ∧ (qws g σ)[q0]? = some (g.2.2.1 k j, qent g k j (σ k j)) := by
  obtain ⟨q0, h⟩ := List.getElem?_of_mem h
  refine ⟨q0, h, ?_⟩
  unfold qws
  rw [List.getElem?_map, h]
  rfl
theorem qws_at (g : qG) (σ : qS) {k j : Nat} (hk : k < 26) (hj : j < qn k) : ∃ q0 : Nat, (qcl ++ qX9 g)[q0]? = some (k, j) ∧ (qws g σ)[q0]? = some (g.2.2.1 k j, qent g k j (σ k j)) := qws_in g σ (List.mem_append_left _ (qcl_in hk hj))
theorem qu_row (σ : qS) (k j i : Nat) (v : Int32) : qu σ k j i v k j = upd (σ k j) i v := by simp [qu]
theorem qu_other (σ : qS) {k j i a b : Nat} {v : Int32} (h : ¬ (a = k ∧ b = j)) : qu σ k j i v a b = σ a b := by simp [qu, h]
/-- one cell's row is written -/
theorem qws_setL {c : List (Nat × Nat)} {g : qG} {σ σ' : qS} {q0 k j : Nat} {e0 : va_E} {A : Nat → Prop} {w : va_W} (hw : w = c.map (fun q => (g.2.2.1 q.1 q.2, qent g q.1 q.2 (σ q.1 q.2)))) (hD : va_D A w) (hq : c[q0]? = some (k, j)) (h0 : w[q0]? = some (g.2.2.1 k j, e0)) (ho : ∀ a b, ¬ (a = k ∧ b = j) → σ' a b = σ a b) :
    w.set q0 (g.2.2.1 k j, qent g k j (σ' k j)) = c.map (fun q => (g.2.2.1 q.1 q.2, qent g q.1 q.2 (σ' q.1 q.2))) := by
  have hl : q0 < w.length := (List.getElem?_eq_some_iff.mp h0).1
  apply List.ext_getElem?
  intro i
  by_cases hi : i = q0
  · subst hi
    rw [List.getElem?_set_self hl]
    simp [hq]
  · rw [List.getElem?_set_ne (Ne.symm hi), hw, List.getElem?_map, List.getElem?_map]
    cases hc : c[i]? with
    | none => rw [Option.map_none, Option.map_none]
    | some q =>
      obtain ⟨a, b⟩ := q
      have hne : ¬ (a = k ∧ b = j) := by
        rintro ⟨rfl, rfl⟩
        refine hi (hD.1 i q0 (g.2.2.1 a b, qent g a b (σ a b)) _ ?_ h0 rfl)
        rw [hw, List.getElem?_map, hc]
        rfl
      rw [Option.map_some, Option.map_some]
      dsimp only
      rw [ho a b hne]
theorem qws_set {g : qG} {σ σ' : qS} {q0 k j : Nat} {e0 : va_E} (hD : va_D (qAf g) (qws g σ)) (hq : (qcl ++ qX9 g)[q0]? = some (k, j)) (h0 : (qws g σ)[q0]? = some (g.2.2.1 k j, e0)) (ho : ∀ a b, ¬ (a = k ∧ b = j) → σ' a b = σ a b) :
    (qws g σ).set q0 (g.2.2.1 k j, qent g k j (σ' k j)) = qws g σ' := qws_setL (c := qcl ++ qX9 g) rfl hD hq h0 ho
theorem qws_set' {g : qG} {σ : qS} {q0 k j i : Nat} {e0 e1 : va_E} {v : Int32} (hD : va_D (qAf g) (qws g σ)) (hq : (qcl ++ qX9 g)[q0]? = some (k, j)) (h0 : (qws g σ)[q0]? = some (g.2.2.1 k j, e0)) (he : e1 = qent g k j (upd (σ k j) i v)) :
    (qws g σ).set q0 (g.2.2.1 k j, e1) = qws g (qu σ k j i v) := by
  subst he
  rw [← qu_row σ k j i v]
  exact qws_set hD hq h0 (fun a b h => qu_other σ h)
theorem qfl_get (g : qG) (j : Nat) (r : Nat → Int32) : ∀ (l : List (Option (Nat × Nat))) (n i : Nat) (f : Option (Nat × Nat)), l[i]? = some f → (qfl g j r n l)[i]? = some (qfv g j r f (n + i))
  | [], _, _, _, h => by simp at h
  | a :: t, n, 0, f, h => by simp at h; subst h; simp [qfl]
  | a :: t, n, i + 1, f, h => by
    simp only [List.getElem?_cons_succ] at h
    simp only [qfl, List.getElem?_cons_succ]
    rw [qfl_get g j r t (n + 1) i f h]
    congr 2; omega
theorem qfl_len (g : qG) (j : Nat) (r : Nat → Int32) : ∀ (l : List (Option (Nat × Nat))) (n : Nat), (qfl g j r n l).length = l.length
  | [], _ => rfl
  | a :: t, n => by simp [qfl, qfl_len g j r t (n + 1)]
theorem qfl_same (g : qG) (j : Nat) (r : Nat → Int32) (v : Int32) : ∀ (l : List (Option (Nat × Nat))) (n i : Nat), i < n → qfl g j (upd r i v) n l = qfl g j r n l
  | [], _, _, _ => rfl
  | a :: t, n, i, h => by
    simp only [qfl]
    rw [qfl_same g j r v t (n + 1) i (by omega)]
    congr 1
    cases a with
    | none => simp [qfv, upd, show ¬ n = i by omega]
    | some q => rfl
theorem qfl_set (g : qG) (j : Nat) (r : Nat → Int32) (v : Int32) : ∀ (l : List (Option (Nat × Nat))) (n i : Nat), l[i]? = some none → (qfl g j r n l).set i (.int v) = qfl g j (upd r (n + i) v) n l
  | [], _, _, h => by simp at h
  | a :: t, n, 0, h => by
    simp at h; subst h
    simp only [qfl, List.set_cons_zero]
    rw [qfl_same g j r v t (n + 1) (n + 0) (by omega)]
    simp [qfv, upd]
  | a :: t, n, i + 1, h => by
    simp only [List.getElem?_cons_succ] at h
    simp only [qfl, List.set_cons_succ]
    rw [qfl_set g j r v t (n + 1) i h]
    rw [show n + 1 + i = n + (i + 1) by omega]
    congr 1
    cases a with
    | none => simp [qfv, upd]
    | some q => rfl
theorem qent0 {g : qG} {k j : Nat} {r : Nat → Int32} (h : qsh k = 0) : qent g k j r = .inr (qci k, qfl g j r 0 (qfs k)) := by simp [qent, h]
theorem qent1 {g : qG} {k j : Nat} {r : Nat → Int32} (h : qsh k = 1) : qent g k j r = .inl (g.2.1 0, qlen k, .inl r) := by simp [qent, h]
theorem qent2 {g : qG} {k j : Nat} {r : Nat → Int32} (h : qsh k = 2) : qent g k j r = .inl (g.2.1 1, qlen k, .inl r) := by simp [qent, h]
theorem qent3 {g : qG} {k j : Nat} {r : Nat → Int32} (h : qsh k = 3) : qent g k j r = .inl (g.2.1 2, qlen k, .inr (.inr (.inr (.inr (fun i => some (g.2.2.1 1 (3 + i))))))) := by simp [qent, h]
theorem qent4 {g : qG} {k j : Nat} {r : Nat → Int32} (h : qsh k = 4) : qent g k j r = .inl (g.2.1 3, qlen k, .inr (.inr (.inr (.inr (fun i => if r i = 0 then none else some (g.2.2.1 40 (r i - 1).toNatClampNeg)))))) := by simp [qent, h]
theorem qent7 {g : qG} {k j : Nat} {r : Nat → Int32} (h : qsh k = 7) : qent g k j r = .inl (g.2.1 0, qln r, .inl r) := by simp [qent, h]
theorem qent8 {g : qG} {k j : Nat} {r : Nat → Int32} (h : qsh k = 8) : qent g k j r = .inl (g.2.1 4, qln r, .inl r) := by simp [qent, h]
theorem qent9 {g : qG} {k j : Nat} {r : Nat → Int32} (h : qsh k = 9) : qent g k j r = .inl (g.2.1 5, 3, .inr (.inr (.inr (.inr (fun i => if i < 3 then some (g.2.2.1 50 (4 + i)) else none))))) := by simp [qent, h]
theorem qent10 {g : qG} {k j : Nat} {r : Nat → Int32} (h : qsh k = 10) : qent g k j r = .inr (6, [qnr (r 5) (g.2.2.1 61 j), .int (r 1), .int (r 2), .int (r 3)]) := by simp [qent, h]
theorem qent11 {g : qG} {k j : Nat} {r : Nat → Int32} (h : qsh k = 11) : qent g k j r = .inl (g.2.1 6, qln r, .inl r) := by simp [qent, h]
theorem qent12 {g : qG} {k j : Nat} {r : Nat → Int32} (h : qsh k = 12) : qent g k j r = .inr (7, [qnr (r 5) (g.2.2.1 63 j), .int (r 1), .int (r 2), .int (r 3)]) := by simp [qent, h]
theorem qCo.qu {σ : qS} {k j i : Nat} {v : Int32} (h : qCo σ) (hk : ¬ (k = 42 ∨ k = 44 ∨ k = 46)) : qCo (qu σ k j i v) := h.put (fun a b ha => qu_other σ (fun e => hk (by rw [← e.1]; exact ha)))
