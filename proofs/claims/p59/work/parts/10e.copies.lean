/-! System.arraycopy and clone() over bytes. The row over a constant source follows the kit's row over the script, written anew for bytes -/
/-- a copy of n bytes may be made -/
abbrev qcpok (σ : qS) (K j K2 j2 : Nat) (sp dp n : Int32) : Prop := (0 ≤ sp ∧ 0 ≤ dp ∧ 0 ≤ n) ∧ sp.toNatClampNeg + n.toNatClampNeg ≤ qln (σ K j) ∧ dp.toNatClampNeg + n.toNatClampNeg ≤ qln (σ K2 j2) ∧ qbf (σ K j) sp.toNatClampNeg n.toNatClampNeg = true
theorem qbf_at {r : Nat → Int32} {a n : Nat} (h : qbf r a n = true) {i : Nat} (hi : i < n) : fits .byte (.int (r (a + i))) = true := List.all_eq_true.mp h i (List.mem_range.mpr hi)
theorem qbd_at (g : qG) (k j a : Nat) : qcv (qbd g k j a) (qR k j) = Value.ref a := congrArg Value.ref (if_pos ⟨rfl, rfl⟩)
section QCPY
variable {p : Program} {l : Launch} {e : Env} {R : Room} {s : State} {m : MethodId} {args : Array Value} {below : List Frame} {meth : Method} {c : Code} {g : qG} {nL : Nat} {Qf : qO → State → Prop} {o : Option qO} {cb sb pc : Nat} {L : List (Option qA)} {st : List qA} {σ : qS} {cc : ByteArray} {own : String}
theorem va_copyTb {H : Heap} {locs : List Loc} {cells slots : Nat} {Q : State → Prop} {ls : Array Slot} {rest : List Value} {D : va_G} {cl : List vw_C} {A : Nat → Prop} {a : Nat} {tys : List (ClassId × FieldType)} {ws : va_W} (hexec : p.tables.exec = Jvm.exec) (hb : c.code = cc) (hml : c.maxLocals = ls.size) {index : Nat} (hown : s.vm.findClass own = some m.cls) (hlink : (Cond.methodLink own index arraycopyName).before args s = true) (hnat : (Cond.native arraycopyName).before args s = true) (hstat : (Cond.static arraycopyName).before args s = true) (hini : (Cond.initialized "java/lang/System").before args s = true)
    (hK : va_K D cl tys s) (hP : va_P D cl ws H) (hD : va_D A ws) (hS : va_S A s.heap H locs) {b0 n0 : Nat} {f : Nat → Int32} {fv : Nat → Value} (hX : va_T .byte b0 n0 fv A s s.heap) (hfv : ∀ i, i < n0 → fv i = .int (f i)) (q1 t1 : Nat) {c1 : ClassId} {n1 : Nat} {g : Nat → Int32} (ha1 : ws[q1]? = some (a, .inl (c1, n1, .inl g))) (ht1 : tys[t1]? = some (c1, .byte))
    {sp dp n : Int32} (h1 : ¬ sp < 0) (h2 : ¬ dp < 0) (h3 : ¬ n < 0) (h4 : sp.toNatClampNeg + n.toNatClampNeg ≤ n0) (h5 : dp.toNatClampNeg + n.toNatClampNeg ≤ n1) (hfit : ∀ i, i < n.toNatClampNeg → fits .byte (.int (f (sp.toNatClampNeg + i))) = true)
    (hframes : 1 ≤ R.frames) (hlocals : (rest.map fun v => v.category).sum + (nativeFrameWords "java/lang/System" "arraycopy" 5 + 11) ≤ R.locals) (hdg : decode cc pc = .ok (.invokestatic index, 3))
    (kk : ∀ (H1 : Heap) (locs1 : List Loc), va_P D cl (ws.set q1 (a, .inl (c1, n1, .inl (va_cpy f g sp.toNatClampNeg dp.toNatClampNeg n.toNatClampNeg)))) H1 → va_D A (ws.set q1 (a, .inl (c1, n1, .inl (va_cpy f g sp.toNatClampNeg dp.toNatClampNeg n.toNatClampNeg)))) → va_S A s.heap H1 locs1 → W p l e R s m args below meth c H1 locs1 cells slots Q (F0 m (pc + 3) ls rest)) : W p l e R s m args below meth c H locs cells slots Q (F0 m pc ls (.int n :: .int dp :: .ref a :: .int sp :: .ref b0 :: rest)) := by
  have nn : ∀ z : Int32, ¬ z < 0 → z.toInt = (z.toNatClampNeg : Int) := by
    intro z hz
    have hz0 : (0 : Int) ≤ z.toInt := by
      have := Int32.not_lt.mp hz
      simpa using Int32.le_iff_toInt_le.mp this
    show z.toInt = ((z.toInt.toNat : Nat) : Int)
    omega
  intro T hT X
  obtain ⟨scr, hs1, hs2, hs3, hs4, hs4', hs5, hbA⟩ := hX
  have hbl : b0 < s.heap.size := (Array.getElem?_eq_some_iff.mp hs1).1
  have hs5' : ∀ j : Nat, j < n0 → scr.slots[j]? = some (.int (f j)) := fun j hj => by rw [hs5 j hj, hfv j hj]
  have hc0 : H[b0]? = some scr := by rw [hS.2.1 b0 hbl hbA]; exact hs1
  have hc1 : H[a]? = some (vp_cell c1 (n1, .inl g)) := hP q1 _ ha1
  obtain ⟨hs6, k0, hk0, cm0, hkk0⟩ := hs2
  obtain ⟨-, k1, hk1, cm1, hkk1⟩ := (hK.2 t1 _ ht1).1 n1 (fun j => .int (g j))
  obtain ⟨vm', X', step⟩ := X.arraycopy hexec hown hlink hnat hstat hini (src := b0) (dst := a) (cs := scr) (cd := vp_cell c1 (n1, .inl g)) (srcPos := sp) (destPos := dp) (n := n) (by rw [hT]; exact hc0) (by rw [hT]; exact hc1)
    hs6 (fun _ h => by cases h) hs3 (fun h => by cases h) hk0 hk1 hkk0 hkk1 (by simp [refKind]) h1 h2 h3
    (by rw [nn sp h1, nn n h3]; omega)
    (by rw [nn dp h2, nn n h3]; show ¬ _ > ((arrV c1 n1 (fun j => .int (g j))).slots.size : Int); rw [arrV_size]; omega)
    (fun vm₁ _ i hi => by
      have e : scr.slots.getD (sp.toNatClampNeg + i) .null = .int (f (sp.toNatClampNeg + i)) := by
        rw [Array.getD_eq_getD_getElem?, hs5' _ (by omega)]
        rfl
      refine ⟨?_, ?_⟩
      · rw [e]
        exact hfit i hi
      · rw [e]
        exact trivial)
    (g := F0 m pc ls (.int n :: .int dp :: .ref a :: .int sp :: .ref b0 :: rest)) rfl (by rw [hml]) (rest := rest) rfl (by rw [hb]; exact hdg) hframes (by show 2 * 0 + _ + _ ≤ _; omega)
  have e1 : copied scr (vp_cell c1 (n1, .inl g)) sp dp n = vp_cell c1 (n1, .inl (va_cpy f g sp.toNatClampNeg dp.toNatClampNeg n.toNatClampNeg)) := va_copiedX (fun z => .int z) scr c1 f g hs5' h4
  rw [e1] at X' step
  have hl : a < H.size := (Array.getElem?_eq_some_iff.mp hc1).1
  have hheap : ((T.setVm vm').setCell a (vp_cell c1 (n1, .inl (va_cpy f g sp.toNatClampNeg dp.toNatClampNeg n.toNatClampNeg)))).heap = H.setIfInBounds a (vp_cell c1 (n1, .inl (va_cpy f g sp.toNatClampNeg dp.toNatClampNeg n.toNatClampNeg))) := by rw [← hT]; rfl
  have oq : ∀ q : Nat, q ≠ a → (H.setIfInBounds a (vp_cell c1 (n1, .inl (va_cpy f g sp.toNatClampNeg dp.toNatClampNeg n.toNatClampNeg))))[q]? = H[q]? := fun q hq => by simp [Array.getElem?_setIfInBounds, Ne.symm hq]
  obtain ⟨t, a1, b1⟩ := kk _ _ (hP.set hD ha1 (show (H.setIfInBounds a _)[a]? = some _ by simp [Array.getElem?_setIfInBounds, hl]) oq) (hD.set ha1) ⟨by simp; exact hS.1, fun q g1 g2 => by
      rw [oq q (fun e => g2 (by rw [e]; exact hD.2 q1 _ ha1))]
      exact hS.2.1 q g1 g2, fun q hq => by
      rcases List.mem_append.mp hq with h | h
      · exact hS.2.2 q h
      · obtain ⟨z, -, hz⟩ := List.mem_map.mp h
        rw [← hz]
        exact hD.2 q1 _ ha1⟩ _ hheap X'
  exact ⟨t, step t a1, b1⟩
theorem qcpy_len {f g : Nat → Int32} {a b n N : Nat} (h : b + n ≤ N) (hN : N ≤ qLI) : va_cpy f g a b n qLI = g qLI := by
  unfold va_cpy
  rw [if_neg (by omega)]
theorem qln_lt (r : Nat → Int32) : qln r < qLI := qnn_lt _
/-- what arraycopy asks of the tables -/
def qcpw (own : String) (idx : Nat) : Prop := Cond.methodLink own idx arraycopyName ∈ qWA ∧ Cond.native arraycopyName ∈ qWA ∧ Cond.static arraycopyName ∈ qWA ∧ Cond.initialized "java/lang/System" ∈ qWA
theorem qv_ycpy (C : qC p l s m meth c cc nL own g) {K j K2 j2 idx : Nat} {sp dp n : Int32} (hB : qBy g K j) (hK2 : K2 = 61 ∨ K2 = 63 ∨ K2 = 66) (hm2 : (K2, j2) ∈ qX9 g) (hw : qcpw own idx) (hrest : (st.map qcat).sum ≤ 8) (hR : 1 ≤ R.frames ∧ 60 ≤ R.locals) (d : decode cc pc = .ok (.invokestatic idx, 3))
    (k : qcpok σ K j K2 j2 sp dp n → qV p l e R s m args below meth c g nL Qf o cb sb (pc + 3) L st (qrw σ K2 j2 (va_cpy (σ K j) (σ K2 j2) sp.toNatClampNeg dp.toNatClampNeg n.toNatClampNeg))) : qV p l e R s m args below meth c g nL Qf (if qcpok σ K j K2 j2 sp dp n then o else none) cb sb pc L (qI n :: qI dp :: qR K2 j2 :: qI sp :: qR K j :: st) σ := by
  by_cases h : qcpok σ K j K2 j2 sp dp n
  · rw [if_pos h]
    intro r hr ls H locs cells slots h1 h2 h3 h4 h5
    have C' := C
    obtain ⟨hx0, hb, hml, hown, hE, -, -⟩ := C
    obtain ⟨q1, hc1, hq1⟩ := qBy.dyn (σ := σ) (Or.inr (Or.inr ⟨hK2, hm2⟩)) (by omega)
    have hsh : qsh K2 = 11 := by rcases hK2 with rfl | rfl | rfl <;> rfl
    have hK' := h
    obtain ⟨⟨p1, p2, p3⟩, p4, p5, p6⟩ := h
    have i1 : ¬ sp < 0 := Int32.not_lt.mpr p1
    have i2 : ¬ dp < 0 := Int32.not_lt.mpr p2
    have i3 : ¬ n < 0 := Int32.not_lt.mpr p3
    have hlen : va_cpy (σ K j) (σ K2 j2) sp.toNatClampNeg dp.toNatClampNeg n.toNatClampNeg qLI = σ K2 j2 qLI := qcpy_len p5 (Nat.le_of_lt (qln_lt _))
    have hset : (qws g σ).set q1 (g.2.2.1 K2 j2, .inl (g.2.1 6, qln (σ K2 j2), .inl (va_cpy (σ K j) (σ K2 j2) sp.toNatClampNeg dp.toNatClampNeg n.toNatClampNeg))) = qws g (qrw σ K2 j2 (va_cpy (σ K j) (σ K2 j2) sp.toNatClampNeg dp.toNatClampNeg n.toNatClampNeg)) := by
      have e := qws_set (σ' := qrw σ K2 j2 (va_cpy (σ K j) (σ K2 j2) sp.toNatClampNeg dp.toNatClampNeg n.toNatClampNeg)) h2.2.1 hc1 hq1 (fun a b hab => qrw_ne σ _ hab)
      rw [qrw_at, qent11 hsh] at e
      rw [← e]
      congr 4
      unfold qln
      rw [hlen]
    have hlw : ((st.map (qcv g)).map fun v => v.category).sum + (nativeFrameWords "java/lang/System" "arraycopy" 5 + 11) ≤ R.locals := by
      rw [qcat_sum]
      have : nativeFrameWords "java/lang/System" "arraycopy" 5 ≤ 40 := by decide
      omega
    have K1 := fun (H1 : Heap) (locs1 : List Loc) hP1 hD1 hS1 => k hK' r hr ls H1 locs1 cells slots h1 ⟨hset ▸ hP1, hset ▸ hD1, h2.2.2.rw (by omega)⟩ hS1 h4 h5
    by_cases hc : K = 44 ∨ K = 46
    · obtain ⟨f, hT, hf⟩ := hB.env hc hE h2
      exact va_copyTb hx0 hb (hml.trans h1.1.symm) hown (qword hE.1 hw.1) (qword hE.1 hw.2.1) (qword hE.1 hw.2.2.1) (qword hE.1 hw.2.2.2) hE.1.1 h2.1 h2.2.1 h3 hT hf q1 6 hq1 (qty6 g) i1 i2 i3 p4 p5 (fun i hi => qbf_at p6 hi) hR.1 hlw d K1
    · obtain ⟨q0, -, hq⟩ := hB.dyn (σ := σ) hc
      exact va_copyi hx0 hb (hml.trans h1.1.symm) hown (qword hE.1 hw.1) (qword hE.1 hw.2.1) (qword hE.1 hw.2.2.1) (qword hE.1 hw.2.2.2) hE.1.1 h2.1 h2.2.1 h3 q0 q1 6 6 hq hq1 (qty6 g) (qty6 g) rfl i1 i2 i3 p4 p5 (fun i hi => qbf_at p6 hi) hR.1 hlw d K1
  · rw [if_neg h]; exact qV.no
/-- what clone() of bytes asks of the tables -/
def qclw (own : String) (idx : Nat) : Prop := Cond.methodLink own idx ⟨"[B", "clone", "()Ljava/lang/Object;"⟩ ∈ qWA ∧ Cond.sameMethod "[B" "java/lang/Object" "clone" "()Ljava/lang/Object;" ∈ qWA ∧ Cond.native ⟨"java/lang/Object", "clone", "()Ljava/lang/Object;"⟩ ∈ qWA ∧ Cond.instanceMethod ⟨"java/lang/Object", "clone", "()Ljava/lang/Object;"⟩ ∈ qWA ∧ Cond.selects "[B" ⟨"[B", "clone", "()Ljava/lang/Object;"⟩ ⟨"java/lang/Object", "clone", "()Ljava/lang/Object;"⟩ ∈ qWA ∧ Cond.castable "[B" "java/lang/Cloneable" ∈ qWA
theorem qfindB {g : qG} (h : qKt g s) : s.vm.findClass "[B" = some (g.2.1 6) := (h.1.2 6 _ (qty6 g)).2
theorem qv_yclo (C : qC p l s m meth c cc nL own g) {K j N idx : Nat} (hK : K = 61 ∨ K = 63) (hm : (K, j) ∈ qX9 g) (hw : qclw own idx) (hrest : (st.map qcat).sum ≤ 8) (hR : 1 ≤ R.frames ∧ 60 ≤ R.locals) (hL : qfL [(66, 0)] L) (hS : qfS [(66, 0)] st) (d : decode cc pc = .ok (.invokevirtual idx, 3))
    (k : ∀ g1 : qG, qC p l s m meth c cc nL own g1 → qEv [(66, 0)] g g1 → (66, 0) ∈ qX9 g1 → qV p l e R s m args below meth c g1 nL Qf o cb sb (pc + 3) L (qR 66 0 :: st) (qrw σ 66 0 (σ K j))) : qV p l e R s m args below meth c g nL Qf (if qln (σ K j) ≤ N ∧ qbf (σ K j) 0 (qln (σ K j)) = true then o else none) (cb + 1) (sb + N) pc L (qR K j :: st) σ := by
  by_cases h : qln (σ K j) ≤ N ∧ qbf (σ K j) 0 (qln (σ K j)) = true
  · rw [if_pos h]
    intro r hr ls H locs cells slots h1 h2 h3 h4 h5
    have C' := C
    obtain ⟨hx0, hb, hml, hown, hE, -, -⟩ := C
    obtain ⟨q0, hc0, hq⟩ := qBy.dyn (σ := σ) (Or.inr (Or.inr ⟨(by omega : K = 61 ∨ K = 63 ∨ K = 66), hm⟩)) (by omega)
    have hlw : ((st.map (qcv g)).map fun v => v.category).sum + 14 ≤ R.locals := by rw [qcat_sum]; omega
    refine va_clone (x := (qln (σ K j), .inl (σ K j))) hx0 hb (hml.trans h1.1.symm) hown (qword hE.1 hw.1) (qword hE.1 hw.2.1) (qword hE.1 hw.2.2.1) (qword hE.1 hw.2.2.2.1) (qword hE.1 hw.2.2.2.2.1) (va_Nw.of (A := args) rfl (qword hE.1 hw.2.2.2.2.2)) hE.1.1 h2.1 h2.2.1 h3 (qAf_new C') q0 6 hq (qty6 g) (qfindB hE.1) (fun i v hv => ?_) hR.1 hlw (by omega) (by show slots + qln (σ K j) ≤ _; omega) d (fun q H1 hK1 hP1 hD1 hS1 => ?_)
    · have hi : i < qln (σ K j) := by
        have := (Array.getElem?_eq_some_iff.mp hv).1
        rw [show (vp_cell (g.2.1 6) (qln (σ K j), .inl (σ K j))).slots.size = qln (σ K j) from arrV_size _ _ _] at this
        exact this
      have e : (vp_cell (g.2.1 6) (qln (σ K j), .inl (σ K j))).slots[i]? = some (.int (σ K j i)) := arrV_read _ _ hi
      rw [e] at hv
      cases hv
      have := qbf_at h.2 hi
      rwa [Nat.zero_add] at this
    · have hat := hP1 (qws g σ).length (q, .inl (g.2.1 6, qln (σ K j), .inl (σ K j))) (by simp)
      have hold : ∀ (i : Nat) (y : Nat × va_E), (qws g σ)[i]? = some y → va_at g.1 qcls y H1 ∧ y.1 ≠ q := by
        intro i y hy
        have hil : i < (qws g σ).length := (List.getElem?_eq_some_iff.mp hy).1
        refine ⟨hP1 i y (by rw [List.getElem?_append_left hil]; exact hy), fun he => ?_⟩
        have := hD1.1 i (qws g σ).length y (q, .inl (g.2.1 6, qln (σ K j), .inl (σ K j))) (by rw [List.getElem?_append_left hil]; exact hy) (by simp) he
        omega
      have hqA : qAf g q := hD1.2 (qws g σ).length (q, .inl (g.2.1 6, qln (σ K j), .inl (σ K j))) (by simp)
      have hH : qH (qbd g 66 0 q) (qrw σ 66 0 (σ K j)) H1 := by
        refine qH_bindW h2 (by decide) (by decide) (fun i y hy => (hold i y hy).1) (fun i y hy => (hold i y hy).2) hqA ?_
        rw [qent11 rfl]
        exact hat
      have E := qbd_ev (g := g) (j := 0) (a := q) (show 50 ≤ 66 by decide)
      have K1 := k (qbd g 66 0 q) (E.C C') E qbd_in r hr ls H1 locs (cells + 1) (slots + qln (σ K j)) (E.Ls hL h1) hH (by rw [E.Af]; exact hS1) (by omega) (by omega)
      rw [List.map_cons, E.map hS] at K1
      have eq1 : qcv (qbd g 66 0 q) (qR 66 0) = Value.ref q := qbd_at g 66 0 q
      rw [eq1] at K1
      exact K1
  · rw [if_neg h]; exact qV.no
theorem qv_ycast (C : qC p l s m meth c cc nL own g) {K j idx : Nat} (hK : K = 61 ∨ K = 63 ∨ K = 66) (hm : (K, j) ∈ qX9 g) (hw : Cond.classLink own idx "[B" ∈ qWA) (d : decode cc pc = .ok (.checkcast idx, 3)) (k : qV p l e R s m args below meth c g nL Qf o cb sb (pc + 3) L (qR K j :: st) σ) : qV p l e R s m args below meth c g nL Qf o cb sb pc L (qR K j :: st) σ := by
  intro r hr ls H locs cells slots h1 h2 h3 h4 h5
  obtain ⟨hx0, hb, hml, hown, hE, -, -⟩ := C
  obtain ⟨q0, hc0, hq⟩ := qBy.dyn (σ := σ) (Or.inr (Or.inr ⟨hK, hm⟩)) (by omega)
  exact va_castA hx0 hb hown (qword (a := args) hE.1 hw) h2.1 q0 hq (qfindB hE.1) d (k r hr ls H locs cells slots h1 h2 h3 h4 h5)
end QCPY
