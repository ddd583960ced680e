/-! the methods as plain functions: definitions alone (for the pure side; the machine side has them with their proofs) -/
def f_J6_bitCount_0f7a4 (a1 : Int32) (s0 : qS) : Option qO :=
  (some (.inl (some (qI ((((((((a1 - (((a1).toUInt32 >>> (((1 : Int32)).toUInt32 &&& Int32.toUInt32 31)).toInt32 &&& (1431655765 : Int32))) &&& (858993459 : Int32)) + ((((a1 - (((a1).toUInt32 >>> (((1 : Int32)).toUInt32 &&& Int32.toUInt32 31)).toInt32 &&& (1431655765 : Int32)))).toUInt32 >>> (((2 : Int32)).toUInt32 &&& Int32.toUInt32 31)).toInt32 &&& (858993459 : Int32))) + (((((a1 - (((a1).toUInt32 >>> (((1 : Int32)).toUInt32 &&& Int32.toUInt32 31)).toInt32 &&& (1431655765 : Int32))) &&& (858993459 : Int32)) + ((((a1 - (((a1).toUInt32 >>> (((1 : Int32)).toUInt32 &&& Int32.toUInt32 31)).toInt32 &&& (1431655765 : Int32)))).toUInt32 >>> (((2 : Int32)).toUInt32 &&& Int32.toUInt32 31)).toInt32 &&& (858993459 : Int32)))).toUInt32 >>> (((4 : Int32)).toUInt32 &&& Int32.toUInt32 31)).toInt32) &&& (252645135 : Int32)) + (((((((a1 - (((a1).toUInt32 >>> (((1 : Int32)).toUInt32 &&& Int32.toUInt32 31)).toInt32 &&& (1431655765 : Int32))) &&& (858993459 : Int32)) + ((((a1 - (((a1).toUInt32 >>> (((1 : Int32)).toUInt32 &&& Int32.toUInt32 31)).toInt32 &&& (1431655765 : Int32)))).toUInt32 >>> (((2 : Int32)).toUInt32 &&& Int32.toUInt32 31)).toInt32 &&& (858993459 : Int32))) + (((((a1 - (((a1).toUInt32 >>> (((1 : Int32)).toUInt32 &&& Int32.toUInt32 31)).toInt32 &&& (1431655765 : Int32))) &&& (858993459 : Int32)) + ((((a1 - (((a1).toUInt32 >>> (((1 : Int32)).toUInt32 &&& Int32.toUInt32 31)).toInt32 &&& (1431655765 : Int32)))).toUInt32 >>> (((2 : Int32)).toUInt32 &&& Int32.toUInt32 31)).toInt32 &&& (858993459 : Int32)))).toUInt32 >>> (((4 : Int32)).toUInt32 &&& Int32.toUInt32 31)).toInt32) &&& (252645135 : Int32))).toUInt32 >>> (((8 : Int32)).toUInt32 &&& Int32.toUInt32 31)).toInt32) + ((((((((a1 - (((a1).toUInt32 >>> (((1 : Int32)).toUInt32 &&& Int32.toUInt32 31)).toInt32 &&& (1431655765 : Int32))) &&& (858993459 : Int32)) + ((((a1 - (((a1).toUInt32 >>> (((1 : Int32)).toUInt32 &&& Int32.toUInt32 31)).toInt32 &&& (1431655765 : Int32)))).toUInt32 >>> (((2 : Int32)).toUInt32 &&& Int32.toUInt32 31)).toInt32 &&& (858993459 : Int32))) + (((((a1 - (((a1).toUInt32 >>> (((1 : Int32)).toUInt32 &&& Int32.toUInt32 31)).toInt32 &&& (1431655765 : Int32))) &&& (858993459 : Int32)) + ((((a1 - (((a1).toUInt32 >>> (((1 : Int32)).toUInt32 &&& Int32.toUInt32 31)).toInt32 &&& (1431655765 : Int32)))).toUInt32 >>> (((2 : Int32)).toUInt32 &&& Int32.toUInt32 31)).toInt32 &&& (858993459 : Int32)))).toUInt32 >>> (((4 : Int32)).toUInt32 &&& Int32.toUInt32 31)).toInt32) &&& (252645135 : Int32)) + (((((((a1 - (((a1).toUInt32 >>> (((1 : Int32)).toUInt32 &&& Int32.toUInt32 31)).toInt32 &&& (1431655765 : Int32))) &&& (858993459 : Int32)) + ((((a1 - (((a1).toUInt32 >>> (((1 : Int32)).toUInt32 &&& Int32.toUInt32 31)).toInt32 &&& (1431655765 : Int32)))).toUInt32 >>> (((2 : Int32)).toUInt32 &&& Int32.toUInt32 31)).toInt32 &&& (858993459 : Int32))) + (((((a1 - (((a1).toUInt32 >>> (((1 : Int32)).toUInt32 &&& Int32.toUInt32 31)).toInt32 &&& (1431655765 : Int32))) &&& (858993459 : Int32)) + ((((a1 - (((a1).toUInt32 >>> (((1 : Int32)).toUInt32 &&& Int32.toUInt32 31)).toInt32 &&& (1431655765 : Int32)))).toUInt32 >>> (((2 : Int32)).toUInt32 &&& Int32.toUInt32 31)).toInt32 &&& (858993459 : Int32)))).toUInt32 >>> (((4 : Int32)).toUInt32 &&& Int32.toUInt32 31)).toInt32) &&& (252645135 : Int32))).toUInt32 >>> (((8 : Int32)).toUInt32 &&& Int32.toUInt32 31)).toInt32)).toUInt32 >>> (((16 : Int32)).toUInt32 &&& Int32.toUInt32 31)).toInt32) &&& (63 : Int32)))), s0))
def f_J0_coder_7d493 (j0 : Nat) (s0 : qS) : Option qO :=
  (if (1 : Int32) = 0 then none else
  (some (.inl (some (qI (0 : Int32))), s0)))
def f_J0_isLatin1_aae02 (j0 : Nat) (s0 : qS) : Option qO :=
  (if (1 : Int32) = 0 then none else
  (if (0 : Int32) = 0 then (some (.inl (some (qI (1 : Int32))), s0)) else
  none))
def f_J3_checkIndex_8e157 (a1 : Int32) (a2 : Int32) (s0 : qS) : Option qO :=
  (if a1 < 0 then none else
  (if a1 < a2 then (some (.inl (some (qI a1)), s0)) else
  none))
def f_J0_length_8abf5 (j0 : Nat) (s0 : qS) : Option qO :=
  qbind (f_J0_coder_7d493 j0 s0) (qvI (fun r1 s1 =>
  (some (.inl (some (qI ((Int32.ofNat (qsl j0)) >>> (r1 &&& 31)))), s1)))) qE0
def f_J0_checkIndex_df160 (a1 : Int32) (a2 : Int32) (s0 : qS) : Option qO :=
  qbind (f_J3_checkIndex_8e157 a1 a2 s0) (qvI (fun r1 s1 =>
  (some (.inl none, s1)))) qE0
def f_J1_charAt_3b067 (j1 : Nat) (a2 : Int32) (s0 : qS) : Option qO :=
  qbind (f_J0_checkIndex_df160 a2 (Int32.ofNat (qsl j1)) s0) (qvV (fun s1 =>
  (if qin a2 (qsl j1) then (if qch ((((qsc j1 (a2).toNatClampNeg) &&& (255 : Int32)).toUInt32 % 65536).toInt32) then some (.inl (some (qI ((((qsc j1 (a2).toNatClampNeg) &&& (255 : Int32)).toUInt32 % 65536).toInt32))), s1) else none) else none))) qE0
def f_J0_charAt_5068e (j0 : Nat) (a1 : Int32) (s0 : qS) : Option qO :=
  qbind (f_J0_isLatin1_aae02 j0 s0) (qvI (fun r1 s1 =>
  (if r1 = 0 then none else
  qbind (f_J1_charAt_3b067 j0 a1 s1) (qvI (fun r2 s2 =>
  (if qch r2 then some (.inl (some (qI r2)), s2) else none))) qE0))) qE0
def f_X7_isWithin (a1 : Int32) (a2 : Int32) (a3 : Int32) (s0 : qS) : Option qO :=
  (if a1 < a2 then (some (.inl (some (qI (0 : Int32))), s0)) else
  (if a3 < a1 then (some (.inl (some (qI (0 : Int32))), s0)) else
  (some (.inl (some (qI (1 : Int32))), s0))))
def f_X7_hasBit (a1 : Int32) (a2 : Int32) (s0 : qS) : Option qO :=
  (if ((a1 >>> (a2 &&& 31)) &&& (1 : Int32)) = (1 : Int32) then (some (.inl (some (qI (1 : Int32))), s0)) else
  (some (.inl (some (qI (0 : Int32))), s0)))
def f_X7_at (k1 j1 : Nat) (a2 : Int32) (s0 : qS) : Option qO :=
  (if a2 < 0 then (some (.inl (some (qI (0 : Int32))), s0)) else
  (if (Int32.ofNat (qlen k1)) ≤ a2 then (some (.inl (some (qI (0 : Int32))), s0)) else
  (if qin a2 (qlen k1) then (some (.inl (some (qI (s0 k1 j1 (a2).toNatClampNeg))), s0)) else none)))
def f_X7_put (k1 j1 : Nat) (a2 : Int32) (a3 : Int32) (s0 : qS) : Option qO :=
  (if a2 < 0 then (some (.inl none, s0)) else
  (if (Int32.ofNat (qlen k1)) ≤ a2 then (some (.inl none, s0)) else
  (if qin a2 (qlen k1) then qlet (qu s0 k1 j1 (a2).toNatClampNeg a3) (fun s1 =>
  (some (.inl none, s1))) else none)))
def f_X7_charAt (k1 j1 : Nat) (a2 : Int32) (s0 : qS) : Option qO :=
  (if a2 < 0 then (some (.inl (some (qI (32 : Int32))), s0)) else
  (if (Int32.ofNat (qlen k1)) ≤ a2 then (some (.inl (some (qI (32 : Int32))), s0)) else
  (if qin a2 (qlen k1) then (if qch (s0 k1 j1 (a2).toNatClampNeg) then some (.inl (some (qI (s0 k1 j1 (a2).toNatClampNeg))), s0) else none) else none)))
def b_X7_copyRow_2 (k1 : Nat) (j1 : Nat) (k2 : Nat) (j2 : Nat) (rk2 : Int32 → qS → Option qO) (v2 : Int32) (s0 : qS) : Option qO :=
  (if (Int32.ofNat (qlen k1)) ≤ v2 then (some (.inl none, s0)) else
  (if (Int32.ofNat (qlen k2)) ≤ v2 then (some (.inl none, s0)) else
  (if qin v2 (qlen k1) then (if qin v2 (qlen k2) then qlet (qu s0 k2 j2 (v2).toNatClampNeg (s0 k1 j1 (v2).toNatClampNeg)) (fun s1 =>
  rk2 (v2 + (1 : Int32)) s1) else none) else none)))
def l_X7_copyRow_2 (k1 : Nat) (j1 : Nat) (k2 : Nat) (j2 : Nat) : Nat → Int32 → qS → Option qO
  | 0, _, _ => none
  | n + 1, v2, s0 => b_X7_copyRow_2 k1 j1 k2 j2 (l_X7_copyRow_2 k1 j1 k2 j2 n) v2 s0
def f_X7_copyRow (k1 j1 : Nat) (k2 j2 : Nat) (s0 : qS) : Option qO :=
  l_X7_copyRow_2 k1 j1 k2 j2 qFU (0 : Int32) s0
def b_X7_fillRow_2 (k1 : Nat) (j1 : Nat) (rk2 : Int32 → Int32 → qS → Option qO) (v1 : Int32) (v2 : Int32) (s0 : qS) : Option qO :=
  (if (Int32.ofNat (qlen k1)) ≤ v2 then (some (.inl none, s0)) else
  (if qin v2 (qlen k1) then qlet (qu s0 k1 j1 (v2).toNatClampNeg v1) (fun s1 =>
  rk2 v1 (v2 + (1 : Int32)) s1) else none))
def l_X7_fillRow_2 (k1 : Nat) (j1 : Nat) : Nat → Int32 → Int32 → qS → Option qO
  | 0, _, _, _ => none
  | n + 1, v1, v2, s0 => b_X7_fillRow_2 k1 j1 (l_X7_fillRow_2 k1 j1 n) v1 v2 s0
def f_X7_fillRow (k1 j1 : Nat) (a2 : Int32) (s0 : qS) : Option qO :=
  l_X7_fillRow_2 k1 j1 qFU a2 (0 : Int32) s0
def b_X7_closeGap_6 (k1 : Nat) (j1 : Nat) (rk6 : Int32 → qS → Option qO) (v2 : Int32) (s0 : qS) : Option qO :=
  (if (Int32.ofNat (qlen k1)) ≤ (v2 + (1 : Int32)) then (some (.inl none, s0)) else
  (if qin (v2 + (1 : Int32)) (qlen k1) then (if qin v2 (qlen k1) then qlet (qu s0 k1 j1 (v2).toNatClampNeg (s0 k1 j1 ((v2 + (1 : Int32))).toNatClampNeg)) (fun s1 =>
  rk6 (v2 + (1 : Int32)) s1) else none) else none))
def l_X7_closeGap_6 (k1 : Nat) (j1 : Nat) : Nat → Int32 → qS → Option qO
  | 0, _, _ => none
  | n + 1, v2, s0 => b_X7_closeGap_6 k1 j1 (l_X7_closeGap_6 k1 j1 n) v2 s0
def f_X7_closeGap (k1 j1 : Nat) (a2 : Int32) (s0 : qS) : Option qO :=
  l_X7_closeGap_6 k1 j1 qFU (qmax a2 (0 : Int32)) s0
def f_X7_sortingKey (a1 : Int32) (a2 : Int32) (s0 : qS) : Option qO :=
  (some (.inl (some (qI (((10 : Int32) * a1) - a2))), s0))
def f_X5_faultOfTask (j0 : Nat) (a1 : Int32) (s0 : qS) : Option qO :=
  qbind (f_X7_isWithin a1 (0 : Int32) ((s0 1 j0 7) - (1 : Int32)) s0) (qvI (fun r1 s1 =>
  (if r1 = 0 then (some (.inl (some (qI (105 : Int32))), s1)) else
  (some (.inl (some (qI (46 : Int32))), s1))))) qE0
def f_X5_faultOfPair (j0 : Nat) (a1 : Int32) (a2 : Int32) (s0 : qS) : Option qO :=
  qbind (f_X5_faultOfTask j0 a1 s0) (qvI (fun r1 s1 =>
  (if r1 = (46 : Int32) then qbind (f_X5_faultOfTask j0 a2 s1) (qvI (fun r2 s2 =>
  (if qch r2 then some (.inl (some (qI r2)), s2) else none))) qE0 else
  (some (.inl (some (qI (105 : Int32))), s1))))) qE0
def j_X5_faultOfAdding_43 (j0 : Nat) (s0 : qS) : Option qO :=
  (if (0 : Int32) = 0 then (some (.inl (some (qI (97 : Int32))), s0)) else
  (if (12 : Int32) ≤ (s0 1 j0 7) then (some (.inl (some (qI (115 : Int32))), s0)) else
  (some (.inl (some (qI (46 : Int32))), s0))))
def f_X5_faultOfAdding (j0 : Nat) (a1 : Int32) (a2 : Int32) (a3 : Int32) (a4 : Int32) (s0 : qS) : Option qO :=
  qbind (f_X7_isWithin a1 (1 : Int32) (9 : Int32) s0) (qvI (fun r1 s1 =>
  (if r1 = 0 then j_X5_faultOfAdding_43 j0  s1 else
  qbind (f_X7_isWithin a2 (0 : Int32) (2 : Int32) s1) (qvI (fun r2 s2 =>
  (if r2 = 0 then j_X5_faultOfAdding_43 j0  s2 else
  qbind (f_X7_isWithin a3 (1 : Int32) (5 : Int32) s2) (qvI (fun r3 s3 =>
  (if r3 = 0 then j_X5_faultOfAdding_43 j0  s3 else
  qbind (f_X7_isWithin a4 (0 : Int32) (30 : Int32) s3) (qvI (fun r4 s4 =>
  (if r4 = 0 then j_X5_faultOfAdding_43 j0  s4 else
  (if (1 : Int32) = 0 then (some (.inl (some (qI (97 : Int32))), s4)) else
  (if (12 : Int32) ≤ (s4 1 j0 7) then (some (.inl (some (qI (115 : Int32))), s4)) else
  (some (.inl (some (qI (46 : Int32))), s4))))))) qE0))) qE0))) qE0))) qE0
def f_X5_isLinked (j0 : Nat) (a1 : Int32) (a2 : Int32) (s0 : qS) : Option qO :=
  qbind (f_X7_at 6 j0 a1 s0) (qvI (fun r1 s1 =>
  qbind (f_X7_hasBit r1 a2 s1) (qvI (fun r2 s2 =>
  (if qbo r2 then some (.inl (some (qI r2)), s2) else none))) qE0)) qE0
def f_X5_link (j0 : Nat) (a1 : Int32) (a2 : Int32) (s0 : qS) : Option qO :=
  qbind (f_X7_at 6 j0 a1 s0) (qvI (fun r1 s1 =>
  qbind (f_X7_put 6 j0 a1 (r1 ||| ((1 : Int32) <<< (a2 &&& 31))) s1) (qvV (fun s2 =>
  (some (.inl none, s2)))) qE0)) qE0
def f_X5_unlink (j0 : Nat) (a1 : Int32) (a2 : Int32) (s0 : qS) : Option qO :=
  qbind (f_X7_at 6 j0 a1 s0) (qvI (fun r1 s1 =>
  qbind (f_X7_put 6 j0 a1 (r1 &&& (((1 : Int32) <<< (a2 &&& 31)) ^^^ (-1 : Int32))) s1) (qvV (fun s2 =>
  (some (.inl none, s2)))) qE0)) qE0
def f_X5_isReady (j0 : Nat) (a1 : Int32) (a2 : Int32) (s0 : qS) : Option qO :=
  qbind (f_X7_hasBit a2 a1 s0) (qvI (fun r1 s1 =>
  (if r1 = 0 then qbind (f_X7_at 6 j0 a1 s1) (qvI (fun r2 s2 =>
  (if (r2 &&& (a2 ^^^ (-1 : Int32))) = 0 then (some (.inl (some (qI (1 : Int32))), s2)) else
  (some (.inl (some (qI (0 : Int32))), s2))))) qE0 else
  (some (.inl (some (qI (0 : Int32))), s1))))) qE0
def f_X5_takeStarts (j0 : Nat) (k1 j1 : Nat) (s0 : qS) : Option qO :=
  qbind (f_X7_copyRow k1 j1 7 j0 s0) (qvV (fun s1 =>
  qlet (qu s1 1 j0 8 (1 : Int32)) (fun s2 =>
  (some (.inl none, s2))))) qE0
def f_X5_hasStart (j0 : Nat) (a1 : Int32) (s0 : qS) : Option qO :=
  (if (s0 1 j0 8) = 0 then (some (.inl (some (qI (0 : Int32))), s0)) else
  qbind (f_X7_at 7 j0 a1 s0) (qvI (fun r1 s1 =>
  (if r1 = (-1 : Int32) then (some (.inl (some (qI (0 : Int32))), s1)) else
  (some (.inl (some (qI (1 : Int32))), s1))))) qE0)
def b_X5_workOf_4 (j0 : Nat) (rk4 : Int32 → Int32 → Int32 → qS → Option qO) (v1 : Int32) (v2 : Int32) (v3 : Int32) (s0 : qS) : Option qO :=
  (if (s0 1 j0 7) ≤ v3 then (some (.inl (some (qI v2)), s0)) else
  qbind (f_X7_at 3 j0 v3 s0) (qvI (fun r1 s1 =>
  (if r1 = v1 then qbind (f_X7_at 2 j0 v3 s1) (qvI (fun r2 s2 =>
  qbind (f_X7_at 4 j0 v3 s2) (qvI (fun r3 s3 =>
  rk4 v1 (v2 + (r2 * r3)) (v3 + (1 : Int32)) s3)) qE0)) qE0 else
  rk4 v1 v2 (v3 + (1 : Int32)) s1))) qE0)
def l_X5_workOf_4 (j0 : Nat) : Nat → Int32 → Int32 → Int32 → qS → Option qO
  | 0, _, _, _, _ => none
  | n + 1, v1, v2, v3, s0 => b_X5_workOf_4 j0 (l_X5_workOf_4 j0 n) v1 v2 v3 s0
def f_X5_workOf (j0 : Nat) (a1 : Int32) (s0 : qS) : Option qO :=
  l_X5_workOf_4 j0 qFU a1 (0 : Int32) (0 : Int32) s0
def f_X5_append (j0 : Nat) (a1 : Int32) (a2 : Int32) (a3 : Int32) (a4 : Int32) (s0 : qS) : Option qO :=
  qbind (f_X7_put 2 j0 (s0 1 j0 7) a1 s0) (qvV (fun s1 =>
  qbind (f_X7_put 3 j0 (s0 1 j0 7) a2 s1) (qvV (fun s2 =>
  qbind (f_X7_put 4 j0 (s0 1 j0 7) a3 s2) (qvV (fun s3 =>
  qbind (f_X7_put 5 j0 (s0 1 j0 7) a4 s3) (qvV (fun s4 =>
  qbind (f_X7_put 6 j0 (s0 1 j0 7) (0 : Int32) s4) (qvV (fun s5 =>
  qbind (f_X7_put 7 j0 (s0 1 j0 7) (-1 : Int32) s5) (qvV (fun s6 =>
  qlet (qu s6 1 j0 7 ((s0 1 j0 7) + (1 : Int32))) (fun s7 =>
  (some (.inl (some (qI (s0 1 j0 7))), s7))))) qE0)) qE0)) qE0)) qE0)) qE0)) qE0
def b_X5_drop_66 (j0 : Nat) (rk66 : Int32 → Int32 → qS → Option qO) (v2 : Int32) (v3 : Int32) (s0 : qS) : Option qO :=
  (if (s0 1 j0 7) ≤ v3 then (some (.inl none, s0)) else
  qbind (f_X7_at 6 j0 v3 s0) (qvI (fun r1 s8 =>
  qbind (f_X7_put 6 j0 v3 ((r1 &&& v2) ||| ((r1 >>> ((1 : Int32) &&& 31)) &&& (v2 ^^^ (-1 : Int32)))) s8) (qvV (fun s9 =>
  rk66 v2 (v3 + (1 : Int32)) s9)) qE0)) qE0)
def l_X5_drop_66 (j0 : Nat) : Nat → Int32 → Int32 → qS → Option qO
  | 0, _, _, _ => none
  | n + 1, v2, v3, s0 => b_X5_drop_66 j0 (l_X5_drop_66 j0 n) v2 v3 s0
def f_X5_drop (j0 : Nat) (a1 : Int32) (s0 : qS) : Option qO :=
  qbind (f_X7_closeGap 2 j0 a1 s0) (qvV (fun s1 =>
  qbind (f_X7_closeGap 3 j0 a1 s1) (qvV (fun s2 =>
  qbind (f_X7_closeGap 4 j0 a1 s2) (qvV (fun s3 =>
  qbind (f_X7_closeGap 5 j0 a1 s3) (qvV (fun s4 =>
  qbind (f_X7_closeGap 6 j0 a1 s4) (qvV (fun s5 =>
  qbind (f_X7_closeGap 7 j0 a1 s5) (qvV (fun s6 =>
  qlet (qu s6 1 j0 7 ((s6 1 j0 7) - (1 : Int32))) (fun s7 =>
  l_X5_drop_66 j0 qFU (((1 : Int32) <<< (a1 &&& 31)) - (1 : Int32)) (0 : Int32) s7))) qE0)) qE0)) qE0)) qE0)) qE0)) qE0
def f_X5_copyFrom (j0 : Nat) (j1 : Nat) (s0 : qS) : Option qO :=
  qbind (f_X7_copyRow 2 j1 2 j0 s0) (qvV (fun s1 =>
  qbind (f_X7_copyRow 3 j1 3 j0 s1) (qvV (fun s2 =>
  qbind (f_X7_copyRow 4 j1 4 j0 s2) (qvV (fun s3 =>
  qbind (f_X7_copyRow 5 j1 5 j0 s3) (qvV (fun s4 =>
  qbind (f_X7_copyRow 6 j1 6 j0 s4) (qvV (fun s5 =>
  qbind (f_X7_copyRow 7 j1 7 j0 s5) (qvV (fun s6 =>
  qbind (f_X7_copyRow 8 j1 8 j0 s6) (qvV (fun s7 =>
  qlet (qu s7 1 j0 7 (s7 1 j1 7)) (fun s8 =>
  (if qbo (s8 1 j1 8) then qlet (qu s8 1 j0 8 (s8 1 j1 8)) (fun s9 =>
  (some (.inl none, s9))) else none)))) qE0)) qE0)) qE0)) qE0)) qE0)) qE0)) qE0
def f_X5_faultOfDuration (j0 : Nat) (a1 : Int32) (a2 : Int32) (s0 : qS) : Option qO :=
  qbind (f_X5_faultOfTask j0 a1 s0) (qvI (fun r1 s1 =>
  (if r1 = (46 : Int32) then qbind (f_X7_isWithin a2 (1 : Int32) (9 : Int32) s1) (qvI (fun r2 s2 =>
  (if r2 = 0 then (some (.inl (some (qI (97 : Int32))), s2)) else
  (some (.inl (some (qI (46 : Int32))), s2))))) qE0 else
  (some (.inl (some (qI (105 : Int32))), s1))))) qE0
def f_X5_faultOfRelease (j0 : Nat) (a1 : Int32) (a2 : Int32) (s0 : qS) : Option qO :=
  qbind (f_X5_faultOfTask j0 a1 s0) (qvI (fun r1 s1 =>
  (if r1 = (46 : Int32) then qbind (f_X7_isWithin a2 (0 : Int32) (30 : Int32) s1) (qvI (fun r2 s2 =>
  (if r2 = 0 then (some (.inl (some (qI (97 : Int32))), s2)) else
  (some (.inl (some (qI (46 : Int32))), s2))))) qE0 else
  (some (.inl (some (qI (105 : Int32))), s1))))) qE0
def f_X5_faultOfLimit (j0 : Nat) (a1 : Int32) (a2 : Int32) (s0 : qS) : Option qO :=
  qbind (f_X7_isWithin a1 (0 : Int32) (2 : Int32) s0) (qvI (fun r1 s1 =>
  (if r1 = 0 then (if (0 : Int32) = 0 then (some (.inl (some (qI (97 : Int32))), s1)) else
  (some (.inl (some (qI (46 : Int32))), s1))) else
  qbind (f_X7_isWithin a2 (5 : Int32) (20 : Int32) s1) (qvI (fun r2 s2 =>
  (if r2 = 0 then (if (0 : Int32) = 0 then (some (.inl (some (qI (97 : Int32))), s2)) else
  (some (.inl (some (qI (46 : Int32))), s2))) else
  (if (1 : Int32) = 0 then (some (.inl (some (qI (97 : Int32))), s2)) else
  (some (.inl (some (qI (46 : Int32))), s2)))))) qE0))) qE0
def b_X5_search_22 (rf : Nat → Nat → Int32 → Int32 → Int32 → qS → Option qO) (k1 : Nat) (j1 : Nat) (rk22 : Int32 → Int32 → Int32 → Int32 → qS → Option qO) (v3 : Int32) (v4 : Int32) (v5 : Int32) (v6 : Int32) (s0 : qS) : Option qO :=
  (if (12 : Int32) ≤ v6 then (some (.inl (some (qI v4)), s0)) else
  qbind (f_X7_hasBit v5 v6 s0) (qvI (fun r2 s2 =>
  (if r2 = 0 then rk22 v3 v4 v5 (v6 + (1 : Int32)) s2 else
  qbind (f_X7_hasBit v4 v6 s2) (qvI (fun r3 s3 =>
  (if r3 = 0 then qbind (rf k1 j1 v6 (v4 ||| ((1 : Int32) <<< (v6 &&& 31))) (v3 + (1 : Int32)) s3) (qvI (fun r4 s4 =>
  rk22 v3 r4 v5 (v6 + (1 : Int32)) s4)) qE0 else
  rk22 v3 v4 v5 (v6 + (1 : Int32)) s3))) qE0))) qE0)
def l_X5_search_22 (rf : Nat → Nat → Int32 → Int32 → Int32 → qS → Option qO) (k1 : Nat) (j1 : Nat) : Nat → Int32 → Int32 → Int32 → Int32 → qS → Option qO
  | 0, _, _, _, _, _ => none
  | n + 1, v3, v4, v5, v6, s0 => b_X5_search_22 rf k1 j1 (l_X5_search_22 rf k1 j1 n) v3 v4 v5 v6 s0
def fb_X5_search (rf : Nat → Nat → Int32 → Int32 → Int32 → qS → Option qO) (k1 j1 : Nat) (a2 : Int32) (a3 : Int32) (a4 : Int32) (s0 : qS) : Option qO :=
  (if a4 ≤ (12 : Int32) then qbind (f_X7_at k1 j1 a2 s0) (qvI (fun r1 s1 =>
  l_X5_search_22 rf k1 j1 qFU a4 a3 r1 (0 : Int32) s1)) qE0 else
  (some (.inl (some (qI a3)), s0)))
def fn_X5_search : Nat → Nat → Nat → Int32 → Int32 → Int32 → qS → Option qO
  | 0, _, _, _, _, _, _ => none
  | n + 1, k1, j1, a2, a3, a4, s0 => fb_X5_search (fn_X5_search n) k1 j1 a2 a3 a4 s0
def f_X5_search (k1 j1 : Nat) (a2 : Int32) (a3 : Int32) (a4 : Int32) (s0 : qS) : Option qO := fn_X5_search 16 k1 j1 a2 a3 a4 s0
def f_X5_reaches (j0 : Nat) (a1 : Int32) (a2 : Int32) (s0 : qS) : Option qO :=
  qbind (f_X5_search 6 j0 a1 (0 : Int32) (0 : Int32) s0) (qvI (fun r1 s1 =>
  qbind (f_X7_hasBit r1 a2 s1) (qvI (fun r2 s2 =>
  (if qbo r2 then some (.inl (some (qI r2)), s2) else none))) qE0)) qE0
def f_X5_faultOfLinking (j0 : Nat) (a1 : Int32) (a2 : Int32) (s0 : qS) : Option qO :=
  qbind (f_X5_faultOfPair j0 a1 a2 s0) (qvI (fun r1 s1 =>
  (if r1 = (46 : Int32) then (if a1 = a2 then (some (.inl (some (qI (97 : Int32))), s1)) else
  qbind (f_X5_reaches j0 a2 a1 s1) (qvI (fun r2 s2 =>
  (if r2 = 0 then (some (.inl (some (qI (46 : Int32))), s2)) else
  (some (.inl (some (qI (117 : Int32))), s2))))) qE0) else
  (some (.inl (some (qI (105 : Int32))), s1))))) qE0
def f_X3_clear  (s0 : qS) : Option qO :=
  qlet (qu s0 23 0 1 (0 : Int32)) (fun s1 =>
  (some (.inl none, s1)))
def f_X3_write (a1 : Int32) (s0 : qS) : Option qO :=
  (if (s0 23 0 1) < 0 then (some (.inl none, s0)) else
  (if (Int32.ofNat 414) ≤ (s0 23 0 1) then (some (.inl none, s0)) else
  (if qin (s0 23 0 1) 414 ∧ qch a1 then qlet (qu s0 24 0 ((s0 23 0 1)).toNatClampNeg a1) (fun s1 =>
  qlet (qu s1 23 0 1 ((s1 23 0 1) + (1 : Int32))) (fun s2 =>
  (some (.inl none, s2)))) else none)))
def j_X3_writeNumber_21 (v1 : Int32) (s0 : qS) : Option qO :=
  (if v1 < (10 : Int32) then qbind (f_X3_write ((((48 : Int32) + (v1 - v1 / (10 : Int32) * (10 : Int32))).toUInt32 % 65536).toInt32) s0) (qvV (fun s1 =>
  (some (.inl none, s1)))) qE0 else
  qbind (f_X3_write ((((48 : Int32) + ((v1 / (10 : Int32)) - (v1 / (10 : Int32)) / (10 : Int32) * (10 : Int32))).toUInt32 % 65536).toInt32) s0) (qvV (fun s2 =>
  qbind (f_X3_write ((((48 : Int32) + (v1 - v1 / (10 : Int32) * (10 : Int32))).toUInt32 % 65536).toInt32) s2) (qvV (fun s3 =>
  (some (.inl none, s3)))) qE0)) qE0)
def f_X3_writeNumber (a1 : Int32) (s0 : qS) : Option qO :=
  (if a1 < (100 : Int32) then j_X3_writeNumber_21  a1 s0 else
  qbind (f_X3_write ((((48 : Int32) + ((a1 / (100 : Int32)) - (a1 / (100 : Int32)) / (10 : Int32) * (10 : Int32))).toUInt32 % 65536).toInt32) s0) (qvV (fun s4 =>
  j_X3_writeNumber_21  a1 s4)) qE0)
def f_X2_stateAt (a1 : Int32) (s0 : qS) : Option qO :=
  (if a1 < 0 then (some (.inl (some (.inl .null)), s0)) else
  (if (Int32.ofNat 8) ≤ a1 then (some (.inl (some (.inl .null)), s0)) else
  (if qin a1 8 then (some (.inl (some (qR 1 (3 + (a1).toNatClampNeg))), s0)) else none)))
def j_X2_keep_18 (j1 : Nat) (s0 : qS) : Option qO :=
  (if (8 : Int32) ≤ ((s0 9 0 2) + (1 : Int32)) then qlet (qu s0 9 0 2 (0 : Int32)) (fun s2 =>
  qlet (qu s2 9 0 1 (qmin ((s2 9 0 1) + (1 : Int32)) (8 : Int32))) (fun s3 =>
  (some (.inl none, s3)))) else
  qlet (qu s0 9 0 2 ((s0 9 0 2) + (1 : Int32))) (fun s4 =>
  qlet (qu s4 9 0 1 (qmin ((s4 9 0 1) + (1 : Int32)) (8 : Int32))) (fun s5 =>
  (some (.inl none, s5)))))
def f_X2_keep (j1 : Nat) (s0 : qS) : Option qO :=
  qbind (f_X2_stateAt (s0 9 0 2) s0) (qvN 1 11 (fun s1 =>
  j_X2_keep_18 j1  s1) (fun jr1 s1 =>
  qbind (f_X5_copyFrom jr1 j1 s1) (qvV (fun s6 =>
  j_X2_keep_18 j1  s6)) qE0)) qE0
def j_X2_takeInto_19 (j1 : Nat) (w1 : Int32) (s0 : qS) : Option qO :=
  qlet (qu s0 9 0 2 w1) (fun s1 =>
  qlet (qu s1 9 0 1 (qmax ((s1 9 0 1) - (1 : Int32)) (0 : Int32))) (fun s2 =>
  qbind (f_X2_stateAt (s2 9 0 2) s2) (qvN 1 11 (fun s3 =>
  (some (.inl none, s3))) (fun jr1 s3 =>
  qbind (f_X5_copyFrom j1 jr1 s3) (qvV (fun s4 =>
  (some (.inl none, s4)))) qE0)) qE0))
def f_X2_takeInto (j1 : Nat) (s0 : qS) : Option qO :=
  (if (s0 9 0 2) ≤ 0 then j_X2_takeInto_19 j1 (7 : Int32) s0 else
  j_X2_takeInto_19 j1 ((s0 9 0 2) - (1 : Int32)) s0)
def f_X2_clear  (s0 : qS) : Option qO :=
  qlet (qu s0 9 0 1 (0 : Int32)) (fun s1 =>
  (some (.inl none, s1)))
def f_X4_slackOf (a1 : Int32) (s0 : qS) : Option qO :=
  qbind (f_X7_at 16 0 a1 s0) (qvI (fun r1 s1 =>
  qbind (f_X7_at 14 0 a1 s1) (qvI (fun r2 s2 =>
  (some (.inl (some (qI (r1 - r2))), s2)))) qE0)) qE0
def f_X4_usedOn (a1 : Int32) (a2 : Int32) (s0 : qS) : Option qO :=
  (if (138 : Int32) ≤ a2 then (some (.inl (some (qI (0 : Int32))), s0)) else
  qbind (f_X7_at 18 0 ((a1 * (138 : Int32)) + a2) s0) (qvI (fun r1 s1 =>
  (some (.inl (some (qI r1)), s1)))) qE0)
def b_X4_workOnAllDays_4 (rk4 : Int32 → Int32 → Int32 → qS → Option qO) (v1 : Int32) (v2 : Int32) (v3 : Int32) (s0 : qS) : Option qO :=
  (if (138 : Int32) ≤ v3 then (some (.inl (some (qI v2)), s0)) else
  qbind (f_X4_usedOn v1 v3 s0) (qvI (fun r1 s1 =>
  rk4 v1 (v2 + r1) (v3 + (1 : Int32)) s1)) qE0)
def l_X4_workOnAllDays_4 : Nat → Int32 → Int32 → Int32 → qS → Option qO
  | 0, _, _, _, _ => none
  | n + 1, v1, v2, v3, s0 => b_X4_workOnAllDays_4  (l_X4_workOnAllDays_4  n) v1 v2 v3 s0
def f_X4_workOnAllDays (a1 : Int32) (s0 : qS) : Option qO :=
  l_X4_workOnAllDays_4  qFU a1 (0 : Int32) (0 : Int32) s0
def b_X4_findOrder_15 (j1 : Nat) (rk4 : Int32 → Int32 → qS → Option qO) (rk15 : Int32 → Int32 → Int32 → qS → Option qO) (v2 : Int32) (v3 : Int32) (v4 : Int32) (s0 : qS) : Option qO :=
  (if (s0 1 j1 7) ≤ v4 then qbind (f_X7_put 12 0 v3 v4 s0) (qvV (fun s1 =>
  rk4 (v2 ||| ((1 : Int32) <<< (v4 &&& 31))) (v3 + (1 : Int32)) s1)) qE0 else
  qbind (f_X5_isReady j1 v4 v2 s0) (qvI (fun r1 s2 =>
  (if r1 = 0 then rk15 v2 v3 (v4 + (1 : Int32)) s2 else
  qbind (f_X7_put 12 0 v3 v4 s2) (qvV (fun s3 =>
  rk4 (v2 ||| ((1 : Int32) <<< (v4 &&& 31))) (v3 + (1 : Int32)) s3)) qE0))) qE0)
def l_X4_findOrder_15 (j1 : Nat) (rk4 : Int32 → Int32 → qS → Option qO) : Nat → Int32 → Int32 → Int32 → qS → Option qO
  | 0, _, _, _, _ => none
  | n + 1, v2, v3, v4, s0 => b_X4_findOrder_15 j1 rk4 (l_X4_findOrder_15 j1 rk4 n) v2 v3 v4 s0
def b_X4_findOrder_4 (j1 : Nat) (rk4 : Int32 → Int32 → qS → Option qO) (v2 : Int32) (v3 : Int32) (s0 : qS) : Option qO :=
  (if (s0 1 j1 7) ≤ v3 then (some (.inl none, s0)) else
  l_X4_findOrder_15 j1 rk4 qFU v2 v3 (0 : Int32) s0)
def l_X4_findOrder_4 (j1 : Nat) : Nat → Int32 → Int32 → qS → Option qO
  | 0, _, _, _ => none
  | n + 1, v2, v3, s0 => b_X4_findOrder_4 j1 (l_X4_findOrder_4 j1 n) v2 v3 s0
def f_X4_findOrder (j1 : Nat) (s0 : qS) : Option qO :=
  l_X4_findOrder_4 j1 qFU (0 : Int32) (0 : Int32) s0
def b_X4_findClosure_23 (j1 : Nat) (rk13 : Int32 → qS → Option qO) (rk23 : Int32 → Int32 → qS → Option qO) (v2 : Int32) (v3 : Int32) (s0 : qS) : Option qO :=
  (if (s0 1 j1 7) ≤ v3 then rk13 (v2 + (1 : Int32)) s0 else
  qbind (f_X7_at 13 0 v3 s0) (qvI (fun r1 s2 =>
  qbind (f_X7_hasBit r1 v2 s2) (qvI (fun r2 s3 =>
  (if r2 = 0 then rk23 v2 (v3 + (1 : Int32)) s3 else
  qbind (f_X7_at 13 0 v3 s3) (qvI (fun r3 s4 =>
  qbind (f_X7_at 13 0 v2 s4) (qvI (fun r4 s5 =>
  qbind (f_X7_put 13 0 v3 (r3 ||| r4) s5) (qvV (fun s6 =>
  rk23 v2 (v3 + (1 : Int32)) s6)) qE0)) qE0)) qE0))) qE0)) qE0)
def l_X4_findClosure_23 (j1 : Nat) (rk13 : Int32 → qS → Option qO) : Nat → Int32 → Int32 → qS → Option qO
  | 0, _, _, _ => none
  | n + 1, v2, v3, s0 => b_X4_findClosure_23 j1 rk13 (l_X4_findClosure_23 j1 rk13 n) v2 v3 s0
def b_X4_findClosure_13 (j1 : Nat) (rk13 : Int32 → qS → Option qO) (v2 : Int32) (s0 : qS) : Option qO :=
  (if (s0 1 j1 7) ≤ v2 then (some (.inl none, s0)) else
  l_X4_findClosure_23 j1 rk13 qFU v2 (0 : Int32) s0)
def l_X4_findClosure_13 (j1 : Nat) : Nat → Int32 → qS → Option qO
  | 0, _, _ => none
  | n + 1, v2, s0 => b_X4_findClosure_13 j1 (l_X4_findClosure_13 j1 n) v2 s0
def f_X4_findClosure (j1 : Nat) (s0 : qS) : Option qO :=
  qbind (f_X7_copyRow 6 j1 13 0 s0) (qvV (fun s1 =>
  l_X4_findClosure_13 j1 qFU (0 : Int32) s1)) qE0
def b_X4_earliestOf_45 (rf : Nat → Nat → Nat → Int32 → Int32 → qS → Option qO) (j1 : Nat) (k2 : Nat) (j2 : Nat) (rk45 : Int32 → Int32 → Int32 → Int32 → Int32 → qS → Option qO) (v2 : Int32) (v3 : Int32) (v4 : Int32) (v5 : Int32) (v6 : Int32) (s0 : qS) : Option qO :=
  (if (s0 1 j1 7) ≤ v6 then qbind (f_X7_put k2 j2 v2 v4 s0) (qvV (fun s4 =>
  (some (.inl (some (qI v4)), s4)))) qE0 else
  qbind (f_X7_hasBit v5 v6 s0) (qvI (fun r4 s5 =>
  (if r4 = 0 then rk45 v2 v3 v4 v5 (v6 + (1 : Int32)) s5 else
  qbind (rf j1 k2 j2 v6 (v3 + (1 : Int32)) s5) (qvI (fun r5 s6 =>
  qbind (f_X7_at 2 j1 v6 s6) (qvI (fun r6 s7 =>
  rk45 v2 v3 (qmax v4 (r5 + r6)) v5 (v6 + (1 : Int32)) s7)) qE0)) qE0))) qE0)
def l_X4_earliestOf_45 (rf : Nat → Nat → Nat → Int32 → Int32 → qS → Option qO) (j1 : Nat) (k2 : Nat) (j2 : Nat) : Nat → Int32 → Int32 → Int32 → Int32 → Int32 → qS → Option qO
  | 0, _, _, _, _, _, _ => none
  | n + 1, v2, v3, v4, v5, v6, s0 => b_X4_earliestOf_45 rf j1 k2 j2 (l_X4_earliestOf_45 rf j1 k2 j2 n) v2 v3 v4 v5 v6 s0
def fb_X4_earliestOf (rf : Nat → Nat → Nat → Int32 → Int32 → qS → Option qO) (j1 : Nat) (k2 j2 : Nat) (a3 : Int32) (a4 : Int32) (s0 : qS) : Option qO :=
  qbind (f_X7_at k2 j2 a3 s0) (qvI (fun r1 s1 =>
  (if r1 = (-1 : Int32) then (if a4 ≤ (12 : Int32) then qbind (f_X7_at 5 j1 a3 s1) (qvI (fun r2 s2 =>
  qbind (f_X7_at 6 j1 a3 s2) (qvI (fun r3 s3 =>
  l_X4_earliestOf_45 rf j1 k2 j2 qFU a3 a4 r2 r3 (0 : Int32) s3)) qE0)) qE0 else
  (some (.inl (some (qI r1)), s1))) else
  (some (.inl (some (qI r1)), s1))))) qE0
def fn_X4_earliestOf : Nat → Nat → Nat → Nat → Int32 → Int32 → qS → Option qO
  | 0, _, _, _, _, _, _ => none
  | n + 1, j1, k2, j2, a3, a4, s0 => fb_X4_earliestOf (fn_X4_earliestOf n) j1 k2 j2 a3 a4 s0
def f_X4_earliestOf (j1 : Nat) (k2 j2 : Nat) (a3 : Int32) (a4 : Int32) (s0 : qS) : Option qO := fn_X4_earliestOf 16 j1 k2 j2 a3 a4 s0
def b_X4_findEarliest_15 (j1 : Nat) (rk15 : Int32 → qS → Option qO) (v2 : Int32) (s0 : qS) : Option qO :=
  (if (s0 1 j1 7) ≤ v2 then (some (.inl none, s0)) else
  qbind (f_X4_earliestOf j1 14 0 v2 (0 : Int32) s0) (qvI (fun r1 s3 =>
  qbind (f_X7_at 2 j1 v2 s3) (qvI (fun r2 s4 =>
  qlet (qu s4 11 0 7 (qmax (s3 11 0 7) (r1 + r2))) (fun s5 =>
  rk15 (v2 + (1 : Int32)) s5))) qE0)) qE0)
def l_X4_findEarliest_15 (j1 : Nat) : Nat → Int32 → qS → Option qO
  | 0, _, _ => none
  | n + 1, v2, s0 => b_X4_findEarliest_15 j1 (l_X4_findEarliest_15 j1 n) v2 s0
def f_X4_findEarliest (j1 : Nat) (s0 : qS) : Option qO :=
  qbind (f_X7_fillRow 14 0 (-1 : Int32) s0) (qvV (fun s1 =>
  qlet (qu s1 11 0 7 (0 : Int32)) (fun s2 =>
  l_X4_findEarliest_15 j1 qFU (0 : Int32) s2))) qE0
def b_X4_soonestStart_22 (j1 : Nat) (k3 : Nat) (j3 : Nat) (rk22 : Int32 → Int32 → Int32 → qS → Option qO) (v3 : Int32) (v4 : Int32) (v5 : Int32) (s0 : qS) : Option qO :=
  (if (s0 1 j1 7) ≤ v5 then (some (.inl (some (qI v3)), s0)) else
  qbind (f_X7_hasBit v4 v5 s0) (qvI (fun r3 s3 =>
  (if r3 = 0 then rk22 v3 v4 (v5 + (1 : Int32)) s3 else
  qbind (f_X7_at k3 j3 v5 s3) (qvI (fun r4 s4 =>
  qbind (f_X7_at 2 j1 v5 s4) (qvI (fun r5 s5 =>
  rk22 (qmax v3 (r4 + r5)) v4 (v5 + (1 : Int32)) s5)) qE0)) qE0))) qE0)
def l_X4_soonestStart_22 (j1 : Nat) (k3 : Nat) (j3 : Nat) : Nat → Int32 → Int32 → Int32 → qS → Option qO
  | 0, _, _, _, _ => none
  | n + 1, v3, v4, v5, s0 => b_X4_soonestStart_22 j1 k3 j3 (l_X4_soonestStart_22 j1 k3 j3 n) v3 v4 v5 s0
def f_X4_soonestStart (j1 : Nat) (a2 : Int32) (k3 j3 : Nat) (s0 : qS) : Option qO :=
  qbind (f_X7_at 5 j1 a2 s0) (qvI (fun r1 s1 =>
  qbind (f_X7_at 6 j1 a2 s1) (qvI (fun r2 s2 =>
  l_X4_soonestStart_22 j1 k3 j3 qFU r1 r2 (0 : Int32) s2)) qE0)) qE0
def b_X4_improve_4 (j1 : Nat) (rk4 : Int32 → Int32 → qS → Option qO) (v2 : Int32) (v3 : Int32) (s0 : qS) : Option qO :=
  (if (s0 1 j1 7) ≤ v3 then (if qbo v2 then some (.inl (some (qI v2)), s0) else none) else
  qbind (f_X4_soonestStart j1 v3 15 0 s0) (qvI (fun r1 s1 =>
  qbind (f_X7_at 15 0 v3 s1) (qvI (fun r2 s2 =>
  (if r1 ≤ r2 then rk4 v2 (v3 + (1 : Int32)) s2 else
  qbind (f_X7_put 15 0 v3 r1 s2) (qvV (fun s3 =>
  rk4 (1 : Int32) (v3 + (1 : Int32)) s3)) qE0))) qE0)) qE0)
def l_X4_improve_4 (j1 : Nat) : Nat → Int32 → Int32 → qS → Option qO
  | 0, _, _, _ => none
  | n + 1, v2, v3, s0 => b_X4_improve_4 j1 (l_X4_improve_4 j1 n) v2 v3 s0
def f_X4_improve (j1 : Nat) (s0 : qS) : Option qO :=
  l_X4_improve_4 j1 qFU (0 : Int32) (0 : Int32) s0
def b_X4_findImproved_15 (j1 : Nat) (rk15 : Int32 → Int32 → qS → Option qO) (v2 : Int32) (v3 : Int32) (s0 : qS) : Option qO :=
  (if v2 = 0 then (some (.inl none, s0)) else
  (if (12 : Int32) ≤ v3 then (some (.inl none, s0)) else
  qbind (f_X4_improve j1 s0) (qvI (fun r1 s2 =>
  rk15 r1 (v3 + (1 : Int32)) s2)) qE0))
def l_X4_findImproved_15 (j1 : Nat) : Nat → Int32 → Int32 → qS → Option qO
  | 0, _, _, _ => none
  | n + 1, v2, v3, s0 => b_X4_findImproved_15 j1 (l_X4_findImproved_15 j1 n) v2 v3 s0
def f_X4_findImproved (j1 : Nat) (s0 : qS) : Option qO :=
  qbind (f_X7_copyRow 5 j1 15 0 s0) (qvV (fun s1 =>
  l_X4_findImproved_15 j1 qFU (1 : Int32) (0 : Int32) s1)) qE0
def b_X4_findLatest_29 (j1 : Nat) (rk7 : Int32 → qS → Option qO) (rk29 : Int32 → Int32 → Int32 → Int32 → qS → Option qO) (v2 : Int32) (v3 : Int32) (v4 : Int32) (v5 : Int32) (s0 : qS) : Option qO :=
  (if (s0 1 j1 7) ≤ v5 then qbind (f_X7_at 2 j1 v3 s0) (qvI (fun r2 s2 =>
  qbind (f_X7_put 16 0 v3 (v4 - r2) s2) (qvV (fun s3 =>
  rk7 (v2 + (-1 : Int32)) s3)) qE0)) qE0 else
  qbind (f_X5_isLinked j1 v5 v3 s0) (qvI (fun r3 s4 =>
  (if r3 = 0 then rk29 v2 v3 v4 (v5 + (1 : Int32)) s4 else
  qbind (f_X7_at 16 0 v5 s4) (qvI (fun r4 s5 =>
  rk29 v2 v3 (qmin v4 r4) (v5 + (1 : Int32)) s5)) qE0))) qE0)
def l_X4_findLatest_29 (j1 : Nat) (rk7 : Int32 → qS → Option qO) : Nat → Int32 → Int32 → Int32 → Int32 → qS → Option qO
  | 0, _, _, _, _, _ => none
  | n + 1, v2, v3, v4, v5, s0 => b_X4_findLatest_29 j1 rk7 (l_X4_findLatest_29 j1 rk7 n) v2 v3 v4 v5 s0
def b_X4_findLatest_7 (j1 : Nat) (rk7 : Int32 → qS → Option qO) (v2 : Int32) (s0 : qS) : Option qO :=
  (if v2 < 0 then (some (.inl none, s0)) else
  qbind (f_X7_at 12 0 v2 s0) (qvI (fun r1 s1 =>
  l_X4_findLatest_29 j1 rk7 qFU v2 r1 (s1 11 0 7) (0 : Int32) s1)) qE0)
def l_X4_findLatest_7 (j1 : Nat) : Nat → Int32 → qS → Option qO
  | 0, _, _ => none
  | n + 1, v2, s0 => b_X4_findLatest_7 j1 (l_X4_findLatest_7 j1 n) v2 s0
def f_X4_findLatest (j1 : Nat) (s0 : qS) : Option qO :=
  l_X4_findLatest_7 j1 qFU ((s0 1 j1 7) - (1 : Int32)) s0
def b_X4_mostUrgent_5 (j1 : Nat) (rk5 : Int32 → Int32 → Int32 → qS → Option qO) (v2 : Int32) (v3 : Int32) (v4 : Int32) (s0 : qS) : Option qO :=
  (if (s0 1 j1 7) ≤ v4 then (some (.inl (some (qI v3)), s0)) else
  qbind (f_X5_isReady j1 v4 v2 s0) (qvI (fun r1 s1 =>
  (if r1 = 0 then rk5 v2 v3 (v4 + (1 : Int32)) s1 else
  (if v3 = (-1 : Int32) then rk5 v2 v4 (v4 + (1 : Int32)) s1 else
  qbind (f_X7_at 16 0 v4 s1) (qvI (fun r2 s2 =>
  qbind (f_X7_at 16 0 v3 s2) (qvI (fun r3 s3 =>
  (if r3 ≤ r2 then rk5 v2 v3 (v4 + (1 : Int32)) s3 else
  rk5 v2 v4 (v4 + (1 : Int32)) s3))) qE0)) qE0)))) qE0)
def l_X4_mostUrgent_5 (j1 : Nat) : Nat → Int32 → Int32 → Int32 → qS → Option qO
  | 0, _, _, _, _ => none
  | n + 1, v2, v3, v4, s0 => b_X4_mostUrgent_5 j1 (l_X4_mostUrgent_5 j1 n) v2 v3 v4 s0
def f_X4_mostUrgent (j1 : Nat) (a2 : Int32) (s0 : qS) : Option qO :=
  l_X4_mostUrgent_5 j1 qFU a2 (-1 : Int32) (0 : Int32) s0
def b_X4_fits_53 (j1 : Nat) (rk53 : Int32 → Int32 → Int32 → Int32 → qS → Option qO) (v5 : Int32) (v6 : Int32) (v7 : Int32) (v8 : Int32) (s0 : qS) : Option qO :=
  (if v7 ≤ v8 then (some (.inl (some (qI (1 : Int32))), s0)) else
  qbind (f_X7_at 18 0 (v5 + v8) s0) (qvI (fun r5 s5 =>
  (if r5 ≤ v6 then rk53 v5 v6 v7 (v8 + (1 : Int32)) s5 else
  (some (.inl (some (qI (0 : Int32))), s5))))) qE0)
def l_X4_fits_53 (j1 : Nat) : Nat → Int32 → Int32 → Int32 → Int32 → qS → Option qO
  | 0, _, _, _, _, _ => none
  | n + 1, v5, v6, v7, v8, s0 => b_X4_fits_53 j1 (l_X4_fits_53 j1 n) v5 v6 v7 v8 s0
def f_X4_fits (j1 : Nat) (a2 : Int32) (a3 : Int32) (s0 : qS) : Option qO :=
  qbind (f_X7_at 3 j1 a2 s0) (qvI (fun r1 s1 =>
  qbind (f_X7_at 8 j1 r1 s1) (qvI (fun r2 s2 =>
  qbind (f_X7_at 4 j1 a2 s2) (qvI (fun r3 s3 =>
  qbind (f_X7_at 2 j1 a2 s3) (qvI (fun r4 s4 =>
  l_X4_fits_53 j1 qFU (r1 * (138 : Int32)) (r2 - r3) (a3 + r4) a3 s4)) qE0)) qE0)) qE0)) qE0
def b_X4_lowestFit_10 (j1 : Nat) (rk10 : Int32 → Int32 → qS → Option qO) (v2 : Int32) (v3 : Int32) (s0 : qS) : Option qO :=
  (if (138 : Int32) ≤ v3 then (some (.inl (some (qI v3)), s0)) else
  qbind (f_X4_fits j1 v2 v3 s0) (qvI (fun r2 s2 =>
  (if r2 = 0 then rk10 v2 (v3 + (1 : Int32)) s2 else
  (some (.inl (some (qI v3)), s2))))) qE0)
def l_X4_lowestFit_10 (j1 : Nat) : Nat → Int32 → Int32 → qS → Option qO
  | 0, _, _, _ => none
  | n + 1, v2, v3, s0 => b_X4_lowestFit_10 j1 (l_X4_lowestFit_10 j1 n) v2 v3 s0
def f_X4_lowestFit (j1 : Nat) (a2 : Int32) (s0 : qS) : Option qO :=
  qbind (f_X4_soonestStart j1 a2 17 0 s0) (qvI (fun r1 s1 =>
  l_X4_lowestFit_10 j1 qFU a2 r1 s1)) qE0
def b_X4_place_38 (j1 : Nat) (rk38 : Int32 → Int32 → Int32 → Int32 → qS → Option qO) (v2 : Int32) (v4 : Int32) (v5 : Int32) (v6 : Int32) (s0 : qS) : Option qO :=
  (if v5 ≤ v6 then qlet (qu s0 11 0 8 (qmax (s0 11 0 8) v5)) (fun s4 =>
  (some (.inl none, s4))) else
  qbind (f_X7_at 18 0 (v4 + v6) s0) (qvI (fun r3 s5 =>
  qbind (f_X7_at 4 j1 v2 s5) (qvI (fun r4 s6 =>
  qbind (f_X7_put 18 0 (v4 + v6) (r3 + r4) s6) (qvV (fun s7 =>
  rk38 v2 v4 v5 (v6 + (1 : Int32)) s7)) qE0)) qE0)) qE0)
def l_X4_place_38 (j1 : Nat) : Nat → Int32 → Int32 → Int32 → Int32 → qS → Option qO
  | 0, _, _, _, _, _ => none
  | n + 1, v2, v4, v5, v6, s0 => b_X4_place_38 j1 (l_X4_place_38 j1 n) v2 v4 v5 v6 s0
def f_X4_place (j1 : Nat) (a2 : Int32) (a3 : Int32) (s0 : qS) : Option qO :=
  qbind (f_X7_put 17 0 a2 a3 s0) (qvV (fun s1 =>
  qbind (f_X7_at 3 j1 a2 s1) (qvI (fun r1 s2 =>
  qbind (f_X7_at 2 j1 a2 s2) (qvI (fun r2 s3 =>
  l_X4_place_38 j1 qFU a2 (r1 * (138 : Int32)) (a3 + r2) a3 s3)) qE0)) qE0)) qE0
def b_X4_findLevelled_17 (j1 : Nat) (rk17 : Int32 → Int32 → qS → Option qO) (v2 : Int32) (v3 : Int32) (s0 : qS) : Option qO :=
  (if (s0 1 j1 7) ≤ v3 then (some (.inl none, s0)) else
  qbind (f_X4_mostUrgent j1 v2 s0) (qvI (fun r1 s3 =>
  qbind (f_X4_lowestFit j1 r1 s3) (qvI (fun r2 s4 =>
  qbind (f_X4_place j1 r1 r2 s4) (qvV (fun s5 =>
  rk17 (v2 ||| ((1 : Int32) <<< (r1 &&& 31))) (v3 + (1 : Int32)) s5)) qE0)) qE0)) qE0)
def l_X4_findLevelled_17 (j1 : Nat) : Nat → Int32 → Int32 → qS → Option qO
  | 0, _, _, _ => none
  | n + 1, v2, v3, s0 => b_X4_findLevelled_17 j1 (l_X4_findLevelled_17 j1 n) v2 v3 s0
def f_X4_findLevelled (j1 : Nat) (s0 : qS) : Option qO :=
  qbind (f_X7_fillRow 18 0 (0 : Int32) s0) (qvV (fun s1 =>
  qlet (qu s1 11 0 8 (0 : Int32)) (fun s2 =>
  l_X4_findLevelled_17 j1 qFU (0 : Int32) (0 : Int32) s2))) qE0
def f_X4_make (j1 : Nat) (s0 : qS) : Option qO :=
  qbind (f_X4_findOrder j1 s0) (qvV (fun s1 =>
  qbind (f_X4_findClosure j1 s1) (qvV (fun s2 =>
  qbind (f_X4_findEarliest j1 s2) (qvV (fun s3 =>
  qbind (f_X4_findImproved j1 s3) (qvV (fun s4 =>
  qbind (f_X4_findLatest j1 s4) (qvV (fun s5 =>
  qbind (f_X4_findLevelled j1 s5) (qvV (fun s6 =>
  (some (.inl none, s6)))) qE0)) qE0)) qE0)) qE0)) qE0)) qE0
def f_X6_append (a1 : Int32) (s0 : qS) : Option qO :=
  (if (s0 19 0 3) < 0 then (some (.inl none, s0)) else
  (if (Int32.ofNat 60) ≤ (s0 19 0 3) then (some (.inl none, s0)) else
  (if qin (s0 19 0 3) 60 ∧ qch a1 then qlet (qu s0 20 0 ((s0 19 0 3)).toNatClampNeg a1) (fun s1 =>
  qlet (qu s1 19 0 3 ((s1 19 0 3) + (1 : Int32))) (fun s2 =>
  (some (.inl none, s2)))) else none)))
def f_X6_clear  (s0 : qS) : Option qO :=
  qlet (qu s0 19 0 3 (0 : Int32)) (fun s1 =>
  (some (.inl none, s1)))
def f_X6_commandAt (a1 : Int32) (s0 : qS) : Option qO :=
  (if a1 < 0 then (some (.inl (some (.inl .null)), s0)) else
  (if (Int32.ofNat 60) ≤ a1 then (some (.inl (some (.inl .null)), s0)) else
  (if qin a1 60 then (some (.inl (some (qcm (s0 21 0 (a1).toNatClampNeg))), s0)) else none)))
def f_X6_numberAt (a1 : Int32) (a2 : Int32) (s0 : qS) : Option qO :=
  qbind (f_X7_at 22 0 ((a1 * (4 : Int32)) + a2) s0) (qvI (fun r1 s1 =>
  (some (.inl (some (qI r1)), s1)))) qE0
def f_X6_isDigitAt (a1 : Int32) (s0 : qS) : Option qO :=
  (if (s0 19 0 3) ≤ a1 then (some (.inl (some (qI (0 : Int32))), s0)) else
  qbind (f_X7_charAt 20 0 a1 s0) (qvI (fun r1 s1 =>
  qbind (f_X7_isWithin r1 (48 : Int32) (57 : Int32) s1) (qvI (fun r2 s2 =>
  (if r2 = 0 then (some (.inl (some (qI (0 : Int32))), s2)) else
  (some (.inl (some (qI (1 : Int32))), s2))))) qE0)) qE0)
def j_X6_readNumber_58 (v1 : Int32) (v3 : Int32) (v4 : Int32) (s0 : qS) : Option qO :=
  qbind (f_X7_put 22 0 (((s0 19 0 4) * (4 : Int32)) + v1) v3 s0) (qvV (fun s1 =>
  (if v4 ≤ 0 then (some (.inl (some (qI (0 : Int32))), s1)) else
  (some (.inl (some (qI (1 : Int32))), s1))))) qE0
def b_X6_readNumber_5 (rk5 : Int32 → Int32 → Int32 → Int32 → qS → Option qO) (v1 : Int32) (v2 : Int32) (v3 : Int32) (v4 : Int32) (s0 : qS) : Option qO :=
  (if v2 ≤ v4 then j_X6_readNumber_58  v1 v3 v4 s0 else
  qbind (f_X6_isDigitAt (s0 19 0 5) s0) (qvI (fun r1 s2 =>
  (if r1 = 0 then j_X6_readNumber_58  v1 v3 v4 s2 else
  qbind (f_X7_charAt 20 0 (s2 19 0 5) s2) (qvI (fun r2 s3 =>
  qlet (qu s3 19 0 5 ((s3 19 0 5) + (1 : Int32))) (fun s4 =>
  rk5 v1 v2 ((((10 : Int32) * v3) + r2) - (48 : Int32)) (v4 + (1 : Int32)) s4))) qE0))) qE0)
def l_X6_readNumber_5 : Nat → Int32 → Int32 → Int32 → Int32 → qS → Option qO
  | 0, _, _, _, _, _ => none
  | n + 1, v1, v2, v3, v4, s0 => b_X6_readNumber_5  (l_X6_readNumber_5  n) v1 v2 v3 v4 s0
def f_X6_readNumber (a1 : Int32) (a2 : Int32) (s0 : qS) : Option qO :=
  l_X6_readNumber_5  qFU a1 a2 (0 : Int32) (0 : Int32) s0
def j_X6_follows_33 (j1 : Nat) (rk4 : Int32 → Int32 → qS → Option qO) (v2 : Int32) (v3 : Int32) (v4 : Int32) (s0 : qS) : Option qO :=
  (if v4 = (37 : Int32) then qbind (f_X6_readNumber v2 (2 : Int32) s0) (qvI (fun r3 s3 =>
  (if r3 = 0 then (some (.inl (some (qI (0 : Int32))), s3)) else
  rk4 (v2 + (1 : Int32)) (v3 + (1 : Int32)) s3))) qE0 else
  qbind (f_X6_readNumber v2 (1 : Int32) s0) (qvI (fun r4 s4 =>
  (if r4 = 0 then (some (.inl (some (qI (0 : Int32))), s4)) else
  rk4 (v2 + (1 : Int32)) (v3 + (1 : Int32)) s4))) qE0)
def b_X6_follows_4 (j1 : Nat) (rk4 : Int32 → Int32 → qS → Option qO) (v2 : Int32) (v3 : Int32) (s0 : qS) : Option qO :=
  qbind (f_J0_length_8abf5 j1 s0) (qvI (fun r1 s1 =>
  (if r1 ≤ v3 then (some (.inl (some (qI (1 : Int32))), s1)) else
  qbind (f_J0_charAt_5068e j1 v3 s1) (qvI (fun r2 s2 =>
  (if r2 = (35 : Int32) then j_X6_follows_33 j1 rk4 v2 v3 r2 s2 else
  (if r2 = (37 : Int32) then j_X6_follows_33 j1 rk4 v2 v3 r2 s2 else
  (if (s2 19 0 3) ≤ (s2 19 0 5) then (some (.inl (some (qI (0 : Int32))), s2)) else
  qbind (f_X7_charAt 20 0 (s2 19 0 5) s2) (qvI (fun r5 s5 =>
  (if r5 = r2 then qlet (qu s5 19 0 5 ((s5 19 0 5) + (1 : Int32))) (fun s6 =>
  rk4 v2 (v3 + (1 : Int32)) s6) else
  (some (.inl (some (qI (0 : Int32))), s5))))) qE0))))) qE0))) qE0
def l_X6_follows_4 (j1 : Nat) : Nat → Int32 → Int32 → qS → Option qO
  | 0, _, _, _ => none
  | n + 1, v2, v3, s0 => b_X6_follows_4 j1 (l_X6_follows_4 j1 n) v2 v3 s0
def f_X6_follows (j1 : Nat) (s0 : qS) : Option qO :=
  l_X6_follows_4 j1 qFU (0 : Int32) (0 : Int32) s0
def b_X6_readCommand_18 (rk18 : Int32 → Int32 → Int32 → Int32 → qS → Option qO) (v1 : Int32) (v2 : Int32) (v4 : Int32) (v5 : Int32) (s0 : qS) : Option qO :=
  (if v4 ≤ v5 then qlet (qu s0 19 0 5 v2) (fun s1 =>
  (some (.inl (some (qI (0 : Int32))), s1))) else
  (if qin v5 8 then qlet (qu s0 19 0 5 v1) (fun s2 =>
  qbind (f_X6_follows ((v5).toNatClampNeg) s2) (qvI (fun r1 s3 =>
  (if r1 = 0 then rk18 v1 (qmax v2 (s3 19 0 5)) v4 (v5 + (1 : Int32)) s3 else
  (if (s3 19 0 4) < 0 then (some (.inl (some (qI (1 : Int32))), s3)) else
  (if (Int32.ofNat 60) ≤ (s3 19 0 4) then (some (.inl (some (qI (1 : Int32))), s3)) else
  (if qin (s3 19 0 4) 60 then qlet (qu s3 21 0 ((s3 19 0 4)).toNatClampNeg (nI ((v5).toNatClampNeg + 1))) (fun s4 =>
  qlet (qu s4 19 0 4 ((s4 19 0 4) + (1 : Int32))) (fun s5 =>
  (some (.inl (some (qI (1 : Int32))), s5)))) else none)))))) qE0) else none))
def l_X6_readCommand_18 : Nat → Int32 → Int32 → Int32 → Int32 → qS → Option qO
  | 0, _, _, _, _, _ => none
  | n + 1, v1, v2, v4, v5, s0 => b_X6_readCommand_18  (l_X6_readCommand_18  n) v1 v2 v4 v5 s0
def f_X6_readCommand  (s0 : qS) : Option qO :=
  l_X6_readCommand_18  qFU (s0 19 0 5) (s0 19 0 5) (8 : Int32) (0 : Int32) s0
def j_X6_read_68 (rk14 : Int32 → Int32 → qS → Option qO) (v2 : Int32) (w0 : Int32) (s0 : qS) : Option qO :=
  (if w0 = 0 then rk14 w0 (v2 + (1 : Int32)) s0 else
  qlet (qu s0 19 0 5 ((s0 19 0 5) + (1 : Int32))) (fun s4 =>
  rk14 w0 (v2 + (1 : Int32)) s4))
def b_X6_read_14 (rk14 : Int32 → Int32 → qS → Option qO) (v1 : Int32) (v2 : Int32) (s0 : qS) : Option qO :=
  (if v1 = 0 then (if v1 = 0 then (if (s0 19 0 5) = (s0 19 0 3) then (some (.inl (some (qI (1 : Int32))), s0)) else
  (some (.inl (some (qI (0 : Int32))), s0))) else
  (some (.inl (some (qI (0 : Int32))), s0))) else
  (if (Int32.ofNat 60) ≤ v2 then (if v1 = 0 then (if (s0 19 0 5) = (s0 19 0 3) then (some (.inl (some (qI (1 : Int32))), s0)) else
  (some (.inl (some (qI (0 : Int32))), s0))) else
  (some (.inl (some (qI (0 : Int32))), s0))) else
  qbind (f_X6_readCommand  s0) (qvI (fun r1 s3 =>
  (if r1 = 0 then (some (.inl (some (qI (0 : Int32))), s3)) else
  (if (s3 19 0 3) ≤ (s3 19 0 5) then j_X6_read_68  rk14 v2 (0 : Int32) s3 else
  qbind (f_X7_charAt 20 0 (s3 19 0 5) s3) (qvI (fun r2 s5 =>
  (if r2 = (59 : Int32) then j_X6_read_68  rk14 v2 (1 : Int32) s5 else
  j_X6_read_68  rk14 v2 (0 : Int32) s5))) qE0)))) qE0))
def l_X6_read_14 : Nat → Int32 → Int32 → qS → Option qO
  | 0, _, _, _ => none
  | n + 1, v1, v2, s0 => b_X6_read_14  (l_X6_read_14  n) v1 v2 s0
def f_X6_read  (s0 : qS) : Option qO :=
  qlet (qu s0 19 0 5 (0 : Int32)) (fun s1 =>
  qlet (qu s1 19 0 4 (0 : Int32)) (fun s2 =>
  l_X6_read_14  qFU (1 : Int32) (0 : Int32) s2))
def f_X7_taskCount  (s0 : qS) : Option qO :=
  (some (.inl (some (qI (s0 1 0 7))), s0))
def f_X7_hasBaseline  (s0 : qS) : Option qO :=
  (if qbo (s0 1 0 8) then some (.inl (some (qI (s0 1 0 8))), s0) else none)
def f_X7_outputAt (a1 : Int32) (s0 : qS) : Option qO :=
  qbind (f_X7_isWithin a1 (0 : Int32) ((s0 23 0 1) - (1 : Int32)) s0) (qvI (fun r1 s1 =>
  (if r1 = 0 then (some (.inr qIOE, s1)) else
  qbind (f_X7_charAt 24 0 a1 s1) (qvI (fun r2 s2 =>
  (if qch r2 then some (.inl (some (qI r2)), s2) else none))) qE0))) qE0
def f_X7_type (a1 : Int32) (s0 : qS) : Option qO :=
  qbind (f_X7_isWithin a1 (32 : Int32) (126 : Int32) s0) (qvI (fun r1 s1 =>
  (if r1 = 0 then (some (.inr qIAE, s1)) else
  (if (s1 19 0 3) < (60 : Int32) then qbind (f_X6_append a1 s1) (qvV (fun s2 =>
  (some (.inl (some (qI (s2 19 0 3))), s2)))) qE0 else
  (some (.inr qISE, s1)))))) qE0
def f_X7_errorPosition  (s0 : qS) : Option qO :=
  (if (s0 0 0 10) = (-1 : Int32) then (some (.inr qNSE, s0)) else
  (some (.inl (some (qI (s0 0 0 10))), s0)))
def f_X7_undo  (s0 : qS) : Option qO :=
  (if (s0 9 0 1) = 0 then (some (.inr qISE, s0)) else
  qbind (f_X2_takeInto 0 s0) (qvV (fun s1 =>
  qlet (qu s1 0 0 8 (0 : Int32)) (fun s2 =>
  (some (.inl (some (qI (s2 9 0 1))), s2))))) qE0)
def f_X7_save  (s0 : qS) : Option qO :=
  qbind (f_X5_copyFrom 2 0 s0) (qvV (fun s1 =>
  qlet (qu s1 0 0 9 (1 : Int32)) (fun s2 =>
  (some (.inl (some (qI (s2 1 0 7))), s2))))) qE0
def f_X7_restore  (s0 : qS) : Option qO :=
  (if (s0 0 0 9) = 0 then (some (.inr qISE, s0)) else
  qbind (f_X5_copyFrom 0 2 s0) (qvV (fun s1 =>
  qlet (qu s1 0 0 8 (0 : Int32)) (fun s2 =>
  qbind (f_X2_clear  s2) (qvV (fun s3 =>
  (some (.inl (some (qI (s3 1 0 7))), s3)))) qE0))) qE0)
def f_X7_beginChange  (s0 : qS) : Option qO :=
  qbind (f_X2_keep 0 s0) (qvV (fun s1 =>
  qlet (qu s1 0 0 8 (0 : Int32)) (fun s2 =>
  (some (.inl none, s2))))) qE0
def f_X7_currentPlan  (s0 : qS) : Option qO :=
  (if (s0 0 0 8) = 0 then qbind (f_X4_make 0 s0) (qvV (fun s1 =>
  qlet (qu s1 0 0 8 (1 : Int32)) (fun s2 =>
  (some (.inl (some (qR 11 0)), s2))))) qE0 else
  (some (.inl (some (qR 11 0)), s0)))
def f_X7_runAdding (a1 : Int32) (a2 : Int32) (a3 : Int32) (a4 : Int32) (s0 : qS) : Option qO :=
  qbind (f_X5_faultOfAdding 1 a1 a2 a3 a4 s0) (qvI (fun r1 s1 =>
  (if r1 = (46 : Int32) then qbind (f_X5_append 1 a1 a2 a3 a4 s1) (qvI (fun r2 s2 =>
  (if qch r1 then some (.inl (some (qI r1)), s2) else none))) qE0 else
  (if qch r1 then some (.inl (some (qI r1)), s1) else none)))) qE0
def f_X7_runSetting (a1 : Int32) (k2 j2 : Nat) (a3 : Int32) (a4 : Int32) (s0 : qS) : Option qO :=
  (if a1 = (46 : Int32) then qbind (f_X7_put k2 j2 a3 a4 s0) (qvV (fun s1 =>
  (if qch a1 then some (.inl (some (qI a1)), s1) else none))) qE0 else
  (if qch a1 then some (.inl (some (qI a1)), s0) else none))
def f_X7_markTrial  (s0 : qS) : Option qO :=
  qbind (f_X4_make 1 s0) (qvV (fun s1 =>
  qlet (qu s1 0 0 8 (0 : Int32)) (fun s2 =>
  qbind (f_X5_takeStarts 1 17 0 s2) (qvV (fun s3 =>
  (some (.inl none, s3)))) qE0))) qE0
def f_X7_isWorkedOn (a1 : Int32) (a2 : Int32) (s0 : qS) : Option qO :=
  qbind (f_X7_currentPlan  s0) (qvS 11 (fun s1 =>
  qbind (f_X7_at 17 0 a1 s1) (qvI (fun r1 s2 =>
  (if a2 < r1 then (some (.inl (some (qI (0 : Int32))), s2)) else
  qbind (f_X7_at 2 0 a1 s2) (qvI (fun r2 s3 =>
  (if (r1 + r2) ≤ a2 then (some (.inl (some (qI (0 : Int32))), s3)) else
  (some (.inl (some (qI (1 : Int32))), s3))))) qE0))) qE0)) qE0
def f_X7_driftOf (a1 : Int32) (s0 : qS) : Option qO :=
  qbind (f_X7_currentPlan  s0) (qvS 11 (fun s1 =>
  qbind (f_X7_at 17 0 a1 s1) (qvI (fun r1 s2 =>
  qbind (f_X7_at 7 0 a1 s2) (qvI (fun r2 s3 =>
  (some (.inl (some (qI (r1 - r2))), s3)))) qE0)) qE0)) qE0
def b_X7_countBefore_14 (rk14 : Int32 → Int32 → Int32 → Int32 → qS → Option qO) (v1 : Int32) (v2 : Int32) (v3 : Int32) (v4 : Int32) (s0 : qS) : Option qO :=
  (if (s0 1 0 7) ≤ v4 then (some (.inl (some (qI v3)), s0)) else
  qbind (f_X7_at 25 0 v4 s0) (qvI (fun r2 s2 =>
  (if r2 < v2 then rk14 v1 v2 (v3 + (1 : Int32)) (v4 + (1 : Int32)) s2 else
  (if r2 = v2 then (if v1 ≤ v4 then rk14 v1 v2 v3 (v4 + (1 : Int32)) s2 else
  rk14 v1 v2 (v3 + (1 : Int32)) (v4 + (1 : Int32)) s2) else
  rk14 v1 v2 v3 (v4 + (1 : Int32)) s2)))) qE0)
def l_X7_countBefore_14 : Nat → Int32 → Int32 → Int32 → Int32 → qS → Option qO
  | 0, _, _, _, _, _ => none
  | n + 1, v1, v2, v3, v4, s0 => b_X7_countBefore_14  (l_X7_countBefore_14  n) v1 v2 v3 v4 s0
def f_X7_countBefore (a1 : Int32) (s0 : qS) : Option qO :=
  qbind (f_X7_at 25 0 a1 s0) (qvI (fun r1 s1 =>
  l_X7_countBefore_14  qFU a1 r1 (0 : Int32) (0 : Int32) s1)) qE0
def b_X7_startsAgree_7 (rk7 : Int32 → qS → Option qO) (v2 : Int32) (s0 : qS) : Option qO :=
  (if (s0 1 0 7) ≤ v2 then (some (.inl (some (qI (1 : Int32))), s0)) else
  qbind (f_X7_at 14 0 v2 s0) (qvI (fun r1 s2 =>
  qbind (f_X7_at 15 0 v2 s2) (qvI (fun r2 s3 =>
  (if r1 = r2 then qbind (f_X7_at 17 0 v2 s3) (qvI (fun r3 s4 =>
  (if r1 ≤ r3 then rk7 (v2 + (1 : Int32)) s4 else
  (some (.inl (some (qI (0 : Int32))), s4))))) qE0 else
  (some (.inl (some (qI (0 : Int32))), s3))))) qE0)) qE0)
def l_X7_startsAgree_7 : Nat → Int32 → qS → Option qO
  | 0, _, _ => none
  | n + 1, v2, s0 => b_X7_startsAgree_7  (l_X7_startsAgree_7  n) v2 s0
def f_X7_startsAgree  (s0 : qS) : Option qO :=
  qbind (f_X7_currentPlan  s0) (qvS 11 (fun s1 =>
  l_X7_startsAgree_7  qFU (0 : Int32) s1)) qE0
def b_X7_dependenciesAgree_30 (rk7 : Int32 → qS → Option qO) (rk30 : Int32 → Int32 → Int32 → qS → Option qO) (v2 : Int32) (v3 : Int32) (v4 : Int32) (s0 : qS) : Option qO :=
  (if (s0 1 0 7) ≤ v4 then rk7 (v2 + (1 : Int32)) s0 else
  qbind (f_X7_hasBit v3 v4 s0) (qvI (fun r2 s3 =>
  qbind (f_X5_reaches 0 v2 v4 s3) (qvI (fun r3 s4 =>
  (if r2 = r3 then rk30 v2 v3 (v4 + (1 : Int32)) s4 else
  (some (.inl (some (qI (0 : Int32))), s4))))) qE0)) qE0)
def l_X7_dependenciesAgree_30 (rk7 : Int32 → qS → Option qO) : Nat → Int32 → Int32 → Int32 → qS → Option qO
  | 0, _, _, _, _ => none
  | n + 1, v2, v3, v4, s0 => b_X7_dependenciesAgree_30  rk7 (l_X7_dependenciesAgree_30  rk7 n) v2 v3 v4 s0
def b_X7_dependenciesAgree_7 (rk7 : Int32 → qS → Option qO) (v2 : Int32) (s0 : qS) : Option qO :=
  (if (s0 1 0 7) ≤ v2 then (some (.inl (some (qI (1 : Int32))), s0)) else
  qbind (f_X7_at 13 0 v2 s0) (qvI (fun r1 s2 =>
  l_X7_dependenciesAgree_30  rk7 qFU v2 r1 (0 : Int32) s2)) qE0)
def l_X7_dependenciesAgree_7 : Nat → Int32 → qS → Option qO
  | 0, _, _ => none
  | n + 1, v2, s0 => b_X7_dependenciesAgree_7  (l_X7_dependenciesAgree_7  n) v2 s0
def f_X7_dependenciesAgree  (s0 : qS) : Option qO :=
  qbind (f_X7_currentPlan  s0) (qvS 11 (fun s1 =>
  l_X7_dependenciesAgree_7  qFU (0 : Int32) s1)) qE0
def b_X7_workloadsAgree_7 (rk7 : Int32 → qS → Option qO) (v2 : Int32) (s0 : qS) : Option qO :=
  (if (3 : Int32) ≤ v2 then (some (.inl (some (qI (1 : Int32))), s0)) else
  qbind (f_X5_workOf 0 v2 s0) (qvI (fun r1 s2 =>
  qbind (f_X4_workOnAllDays v2 s2) (qvI (fun r2 s3 =>
  (if r1 = r2 then rk7 (v2 + (1 : Int32)) s3 else
  (some (.inl (some (qI (0 : Int32))), s3))))) qE0)) qE0)
def l_X7_workloadsAgree_7 : Nat → Int32 → qS → Option qO
  | 0, _, _ => none
  | n + 1, v2, s0 => b_X7_workloadsAgree_7  (l_X7_workloadsAgree_7  n) v2 s0
def f_X7_workloadsAgree  (s0 : qS) : Option qO :=
  qbind (f_X7_currentPlan  s0) (qvS 11 (fun s1 =>
  l_X7_workloadsAgree_7  qFU (0 : Int32) s1)) qE0
def f_X7_requireResource (a1 : Int32) (s0 : qS) : Option qO :=
  qbind (f_X7_isWithin a1 (0 : Int32) (2 : Int32) s0) (qvI (fun r1 s1 =>
  (if r1 = 0 then (some (.inr qIAE, s1)) else
  (some (.inl none, s1))))) qE0
def f_X7_requireDay (a1 : Int32) (s0 : qS) : Option qO :=
  (if 0 ≤ a1 then (some (.inl none, s0)) else
  (some (.inr qIAE, s0)))
def f_X7_requireBaselineStart (a1 : Int32) (s0 : qS) : Option qO :=
  qbind (f_X5_hasStart 0 a1 s0) (qvI (fun r1 s1 =>
  (if r1 = 0 then (some (.inr qNSE, s1)) else
  (some (.inl none, s1))))) qE0
def f_X7_requireFailure  (s0 : qS) : Option qO :=
  (if (s0 0 0 11) = (-1 : Int32) then (some (.inr qNSE, s0)) else
  (some (.inl none, s0)))
def f_X7_refuse (a1 : Int32) (s0 : qS) : Option qO :=
  (if a1 = (105 : Int32) then (some (.inr qIOE, s0)) else
  (if a1 = (97 : Int32) then (some (.inr qIAE, s0)) else
  (if a1 = (115 : Int32) then (some (.inr qISE, s0)) else
  (if a1 = (117 : Int32) then (some (.inr qUOE, s0)) else
  (some (.inl none, s0))))))
def f_X7_addTask (a1 : Int32) (a2 : Int32) (a3 : Int32) (a4 : Int32) (s0 : qS) : Option qO :=
  qbind (f_X5_faultOfAdding 0 a1 a2 a3 a4 s0) (qvI (fun r1 s1 =>
  qbind (f_X7_refuse r1 s1) (qvV (fun s2 =>
  qbind (f_X7_beginChange  s2) (qvV (fun s3 =>
  qbind (f_X5_append 0 a1 a2 a3 a4 s3) (qvI (fun r2 s4 =>
  (some (.inl (some (qI r2)), s4)))) qE0)) qE0)) qE1)) qE0
def f_X7_removeTask (a1 : Int32) (s0 : qS) : Option qO :=
  qbind (f_X5_faultOfTask 0 a1 s0) (qvI (fun r1 s1 =>
  qbind (f_X7_refuse r1 s1) (qvV (fun s2 =>
  qbind (f_X7_beginChange  s2) (qvV (fun s3 =>
  qbind (f_X5_drop 0 a1 s3) (qvV (fun s4 =>
  (some (.inl (some (qI (s4 1 0 7))), s4)))) qE0)) qE0)) qE1)) qE0
def f_X7_addDependency (a1 : Int32) (a2 : Int32) (s0 : qS) : Option qO :=
  qbind (f_X5_faultOfLinking 0 a1 a2 s0) (qvI (fun r1 s1 =>
  qbind (f_X7_refuse r1 s1) (qvV (fun s2 =>
  qbind (f_X7_beginChange  s2) (qvV (fun s3 =>
  qbind (f_X5_isLinked 0 a1 a2 s3) (qvI (fun r2 s4 =>
  (if r2 = 0 then qbind (f_X5_link 0 a1 a2 s4) (qvV (fun s5 =>
  (some (.inl (some (qI (1 : Int32))), s5)))) qE0 else
  qbind (f_X5_link 0 a1 a2 s4) (qvV (fun s6 =>
  (some (.inl (some (qI (0 : Int32))), s6)))) qE0))) qE0)) qE0)) qE1)) qE0
def f_X7_removeDependency (a1 : Int32) (a2 : Int32) (s0 : qS) : Option qO :=
  qbind (f_X5_faultOfPair 0 a1 a2 s0) (qvI (fun r1 s1 =>
  qbind (f_X7_refuse r1 s1) (qvV (fun s2 =>
  qbind (f_X7_beginChange  s2) (qvV (fun s3 =>
  qbind (f_X5_isLinked 0 a1 a2 s3) (qvI (fun r2 s4 =>
  qbind (f_X5_unlink 0 a1 a2 s4) (qvV (fun s5 =>
  (if qbo r2 then some (.inl (some (qI r2)), s5) else none))) qE0)) qE0)) qE0)) qE1)) qE0
def f_X7_setDuration (a1 : Int32) (a2 : Int32) (s0 : qS) : Option qO :=
  qbind (f_X5_faultOfDuration 0 a1 a2 s0) (qvI (fun r1 s1 =>
  qbind (f_X7_refuse r1 s1) (qvV (fun s2 =>
  qbind (f_X7_beginChange  s2) (qvV (fun s3 =>
  qbind (f_X7_at 2 0 a1 s3) (qvI (fun r2 s4 =>
  qbind (f_X7_put 2 0 a1 a2 s4) (qvV (fun s5 =>
  (some (.inl (some (qI r2)), s5)))) qE0)) qE0)) qE0)) qE1)) qE0
def f_X7_setRelease (a1 : Int32) (a2 : Int32) (s0 : qS) : Option qO :=
  qbind (f_X5_faultOfRelease 0 a1 a2 s0) (qvI (fun r1 s1 =>
  qbind (f_X7_refuse r1 s1) (qvV (fun s2 =>
  qbind (f_X7_beginChange  s2) (qvV (fun s3 =>
  qbind (f_X7_at 5 0 a1 s3) (qvI (fun r2 s4 =>
  qbind (f_X7_put 5 0 a1 a2 s4) (qvV (fun s5 =>
  (some (.inl (some (qI r2)), s5)))) qE0)) qE0)) qE0)) qE1)) qE0
def f_X7_setLimit (a1 : Int32) (a2 : Int32) (s0 : qS) : Option qO :=
  qbind (f_X5_faultOfLimit 0 a1 a2 s0) (qvI (fun r1 s1 =>
  qbind (f_X7_refuse r1 s1) (qvV (fun s2 =>
  qbind (f_X7_beginChange  s2) (qvV (fun s3 =>
  qbind (f_X7_at 8 0 a1 s3) (qvI (fun r2 s4 =>
  qbind (f_X7_put 8 0 a1 a2 s4) (qvV (fun s5 =>
  (some (.inl (some (qI r2)), s5)))) qE0)) qE0)) qE0)) qE1)) qE0
def f_X7_takeBaseline  (s0 : qS) : Option qO :=
  qbind (f_X7_beginChange  s0) (qvV (fun s1 =>
  qbind (f_X7_currentPlan  s1) (qvS 11 (fun s2 =>
  qbind (f_X5_takeStarts 0 17 0 s2) (qvV (fun s3 =>
  (some (.inl (some (qI (s3 11 0 8))), s3)))) qE0)) qE0)) qE0
def f_X7_limit (a1 : Int32) (s0 : qS) : Option qO :=
  qbind (f_X7_requireResource a1 s0) (qvV (fun s1 =>
  qbind (f_X7_at 8 0 a1 s1) (qvI (fun r1 s2 =>
  (some (.inl (some (qI r1)), s2)))) qE0)) qE1
def f_X7_taskInOrder (a1 : Int32) (s0 : qS) : Option qO :=
  qbind (f_X7_isWithin a1 (0 : Int32) ((s0 1 0 7) - (1 : Int32)) s0) (qvI (fun r1 s1 =>
  (if r1 = 0 then (some (.inr qNSE, s1)) else
  qbind (f_X7_currentPlan  s1) (qvS 11 (fun s2 =>
  qbind (f_X7_at 12 0 a1 s2) (qvI (fun r2 s3 =>
  (some (.inl (some (qI r2)), s3)))) qE0)) qE0))) qE0
def f_X7_projectLength  (s0 : qS) : Option qO :=
  qbind (f_X7_currentPlan  s0) (qvS 11 (fun s1 =>
  (some (.inl (some (qI (s1 11 0 7))), s1)))) qE0
def b_X7_criticalCount_9 (rk9 : Int32 → Int32 → qS → Option qO) (v2 : Int32) (v3 : Int32) (s0 : qS) : Option qO :=
  (if (s0 1 0 7) ≤ v3 then (some (.inl (some (qI v2)), s0)) else
  qbind (f_X4_slackOf v3 s0) (qvI (fun r1 s2 =>
  (if r1 = 0 then rk9 (v2 + (1 : Int32)) (v3 + (1 : Int32)) s2 else
  rk9 v2 (v3 + (1 : Int32)) s2))) qE0)
def l_X7_criticalCount_9 : Nat → Int32 → Int32 → qS → Option qO
  | 0, _, _, _ => none
  | n + 1, v2, v3, s0 => b_X7_criticalCount_9  (l_X7_criticalCount_9  n) v2 v3 s0
def f_X7_criticalCount  (s0 : qS) : Option qO :=
  qbind (f_X7_currentPlan  s0) (qvS 11 (fun s1 =>
  l_X7_criticalCount_9  qFU (0 : Int32) (0 : Int32) s1)) qE0
def b_X7_lastTask_7 (rk7 : Int32 → qS → Option qO) (v2 : Int32) (s0 : qS) : Option qO :=
  (if (s0 1 0 7) ≤ v2 then (some (.inr qNSE, s0)) else
  qbind (f_X7_at 14 0 v2 s0) (qvI (fun r1 s2 =>
  qbind (f_X7_at 2 0 v2 s2) (qvI (fun r2 s3 =>
  (if (r1 + r2) = (s3 11 0 7) then (some (.inl (some (qI v2)), s3)) else
  rk7 (v2 + (1 : Int32)) s3))) qE0)) qE0)
def l_X7_lastTask_7 : Nat → Int32 → qS → Option qO
  | 0, _, _ => none
  | n + 1, v2, s0 => b_X7_lastTask_7  (l_X7_lastTask_7  n) v2 s0
def f_X7_lastTask  (s0 : qS) : Option qO :=
  qbind (f_X7_currentPlan  s0) (qvS 11 (fun s1 =>
  l_X7_lastTask_7  qFU (0 : Int32) s1)) qE0
def f_X7_levelledLength  (s0 : qS) : Option qO :=
  qbind (f_X7_currentPlan  s0) (qvS 11 (fun s1 =>
  (some (.inl (some (qI (s1 11 0 8))), s1)))) qE0
def f_X7_usage (a1 : Int32) (a2 : Int32) (s0 : qS) : Option qO :=
  qbind (f_X7_requireResource a1 s0) (qvV (fun s1 =>
  qbind (f_X7_requireDay a2 s1) (qvV (fun s2 =>
  qbind (f_X7_currentPlan  s2) (qvS 11 (fun s3 =>
  qbind (f_X4_usedOn a1 a2 s3) (qvI (fun r1 s4 =>
  (some (.inl (some (qI r1)), s4)))) qE0)) qE0)) qE1)) qE1
def b_X7_usageByTasks_13 (rk13 : Int32 → Int32 → Int32 → Int32 → qS → Option qO) (v1 : Int32) (v2 : Int32) (v3 : Int32) (v4 : Int32) (s0 : qS) : Option qO :=
  (if (s0 1 0 7) ≤ v4 then (some (.inl (some (qI v3)), s0)) else
  qbind (f_X7_at 3 0 v4 s0) (qvI (fun r1 s3 =>
  (if r1 = v1 then qbind (f_X7_isWorkedOn v4 v2 s3) (qvI (fun r2 s4 =>
  (if r2 = 0 then rk13 v1 v2 v3 (v4 + (1 : Int32)) s4 else
  qbind (f_X7_at 4 0 v4 s4) (qvI (fun r3 s5 =>
  rk13 v1 v2 (v3 + r3) (v4 + (1 : Int32)) s5)) qE0))) qE0 else
  rk13 v1 v2 v3 (v4 + (1 : Int32)) s3))) qE0)
def l_X7_usageByTasks_13 : Nat → Int32 → Int32 → Int32 → Int32 → qS → Option qO
  | 0, _, _, _, _, _ => none
  | n + 1, v1, v2, v3, v4, s0 => b_X7_usageByTasks_13  (l_X7_usageByTasks_13  n) v1 v2 v3 v4 s0
def f_X7_usageByTasks (a1 : Int32) (a2 : Int32) (s0 : qS) : Option qO :=
  qbind (f_X7_requireResource a1 s0) (qvV (fun s1 =>
  qbind (f_X7_requireDay a2 s1) (qvV (fun s2 =>
  l_X7_usageByTasks_13  qFU a1 a2 (0 : Int32) (0 : Int32) s2)) qE1)) qE1
def b_X7_peakUsage_14 (rk14 : Int32 → Int32 → Int32 → qS → Option qO) (v1 : Int32) (v3 : Int32) (v4 : Int32) (s0 : qS) : Option qO :=
  (if (138 : Int32) ≤ v4 then (some (.inl (some (qI v3)), s0)) else
  qbind (f_X4_usedOn v1 v4 s0) (qvI (fun r1 s3 =>
  rk14 v1 (qmax v3 r1) (v4 + (1 : Int32)) s3)) qE0)
def l_X7_peakUsage_14 : Nat → Int32 → Int32 → Int32 → qS → Option qO
  | 0, _, _, _, _ => none
  | n + 1, v1, v3, v4, s0 => b_X7_peakUsage_14  (l_X7_peakUsage_14  n) v1 v3 v4 s0
def f_X7_peakUsage (a1 : Int32) (s0 : qS) : Option qO :=
  qbind (f_X7_requireResource a1 s0) (qvV (fun s1 =>
  qbind (f_X7_currentPlan  s1) (qvS 11 (fun s2 =>
  l_X7_peakUsage_14  qFU a1 (0 : Int32) (0 : Int32) s2)) qE0)) qE1
def b_X7_tasksOn_8 (rk8 : Int32 → Int32 → Int32 → qS → Option qO) (v1 : Int32) (v2 : Int32) (v3 : Int32) (s0 : qS) : Option qO :=
  (if (s0 1 0 7) ≤ v3 then (some (.inl (some (qI v2)), s0)) else
  qbind (f_X7_isWorkedOn v3 v1 s0) (qvI (fun r1 s2 =>
  (if r1 = 0 then rk8 v1 v2 (v3 + (1 : Int32)) s2 else
  rk8 v1 (v2 + (1 : Int32)) (v3 + (1 : Int32)) s2))) qE0)
def l_X7_tasksOn_8 : Nat → Int32 → Int32 → Int32 → qS → Option qO
  | 0, _, _, _, _ => none
  | n + 1, v1, v2, v3, s0 => b_X7_tasksOn_8  (l_X7_tasksOn_8  n) v1 v2 v3 s0
def f_X7_tasksOn (a1 : Int32) (s0 : qS) : Option qO :=
  qbind (f_X7_requireDay a1 s0) (qvV (fun s1 =>
  l_X7_tasksOn_8  qFU a1 (0 : Int32) (0 : Int32) s1)) qE1
def f_X7_workload (a1 : Int32) (s0 : qS) : Option qO :=
  qbind (f_X7_requireResource a1 s0) (qvV (fun s1 =>
  qbind (f_X5_workOf 0 a1 s1) (qvI (fun r1 s2 =>
  (some (.inl (some (qI r1)), s2)))) qE0)) qE1
def f_X7_workloadByDays (a1 : Int32) (s0 : qS) : Option qO :=
  qbind (f_X7_requireResource a1 s0) (qvV (fun s1 =>
  qbind (f_X7_currentPlan  s1) (qvS 11 (fun s2 =>
  qbind (f_X4_workOnAllDays a1 s2) (qvI (fun r1 s3 =>
  (some (.inl (some (qI r1)), s3)))) qE0)) qE0)) qE1
def b_X7_totalDrift_24 (rk24 : Int32 → Int32 → qS → Option qO) (v1 : Int32) (v2 : Int32) (s0 : qS) : Option qO :=
  (if (s0 1 0 7) ≤ v2 then (some (.inl (some (qI v1)), s0)) else
  qbind (f_X5_hasStart 0 v2 s0) (qvI (fun r1 s1 =>
  (if r1 = 0 then rk24 v1 (v2 + (1 : Int32)) s1 else
  qbind (f_X7_driftOf v2 s1) (qvI (fun r2 s2 =>
  rk24 (v1 + (qabs r2)) (v2 + (1 : Int32)) s2)) qE0))) qE0)
def l_X7_totalDrift_24 : Nat → Int32 → Int32 → qS → Option qO
  | 0, _, _, _ => none
  | n + 1, v1, v2, s0 => b_X7_totalDrift_24  (l_X7_totalDrift_24  n) v1 v2 s0
def f_X7_totalDrift  (s0 : qS) : Option qO :=
  (if (s0 1 0 8) = 0 then (some (.inr qNSE, s0)) else
  l_X7_totalDrift_24  qFU (0 : Int32) (0 : Int32) s0)
def b_X7_meanSlack_32 (rk32 : Int32 → Int32 → Int32 → qS → Option qO) (v1 : Int32) (v3 : Int32) (v4 : Int32) (s0 : qS) : Option qO :=
  (if v1 ≤ v4 then (if qn64 (FP.ddiv (FP.i2d v3) (FP.i2d v1)) then (some (.inl (some (.inl (.double (FP.ddiv (FP.i2d v3) (FP.i2d v1))))), s0)) else none) else
  qbind (f_X4_slackOf v4 s0) (qvI (fun r1 s2 =>
  rk32 v1 (v3 + r1) (v4 + (1 : Int32)) s2)) qE0)
def l_X7_meanSlack_32 : Nat → Int32 → Int32 → Int32 → qS → Option qO
  | 0, _, _, _, _ => none
  | n + 1, v1, v3, v4, s0 => b_X7_meanSlack_32  (l_X7_meanSlack_32  n) v1 v3 v4 s0
def f_X7_meanSlack  (s0 : qS) : Option qO :=
  (if (s0 1 0 7) = 0 then (some (.inr qARE, s0)) else
  qbind (f_X7_currentPlan  s0) (qvS 11 (fun s1 =>
  l_X7_meanSlack_32  qFU (s0 1 0 7) (0 : Int32) (0 : Int32) s1)) qE0)
def f_X7_utilization (a1 : Int32) (s0 : qS) : Option qO :=
  qbind (f_X7_requireResource a1 s0) (qvV (fun s1 =>
  qbind (f_X7_at 8 0 a1 s1) (qvI (fun r1 s2 =>
  qbind (f_X7_currentPlan  s2) (qvS 11 (fun s3 =>
  (if (r1 * (s3 11 0 8)) = 0 then (some (.inr qARE, s3)) else
  qbind (f_X5_workOf 0 a1 s3) (qvI (fun r2 s4 =>
  (if qn32 (FP.fdiv (FP.i2f r2) (FP.i2f (r1 * (s3 11 0 8)))) then (some (.inl (some (.inl (.float (FP.fdiv (FP.i2f r2) (FP.i2f (r1 * (s3 11 0 8))))))), s4)) else none))) qE0))) qE0)) qE0)) qE1
def f_X7_isConsistent  (s0 : qS) : Option qO :=
  qbind (f_X7_startsAgree  s0) (qvI (fun r1 s1 =>
  (if r1 = 0 then (some (.inl (some (qI (0 : Int32))), s1)) else
  qbind (f_X7_dependenciesAgree  s1) (qvI (fun r2 s2 =>
  (if r2 = 0 then (some (.inl (some (qI (0 : Int32))), s2)) else
  qbind (f_X7_workloadsAgree  s2) (qvI (fun r3 s3 =>
  (if r3 = 0 then (some (.inl (some (qI (0 : Int32))), s3)) else
  (some (.inl (some (qI (1 : Int32))), s3))))) qE0))) qE0))) qE0
def b_X7_renderUsage_18 (rk18 : Int32 → Int32 → qS → Option qO) (v1 : Int32) (v3 : Int32) (s0 : qS) : Option qO :=
  (if (s0 11 0 8) ≤ v3 then (some (.inl (some (qI (s0 23 0 1))), s0)) else
  (if v3 ≤ 0 then qbind (f_X4_usedOn v1 v3 s0) (qvI (fun r1 s4 =>
  qbind (f_X3_writeNumber r1 s4) (qvV (fun s5 =>
  rk18 v1 (v3 + (1 : Int32)) s5)) qE0)) qE0 else
  qbind (f_X3_write (44 : Int32) s0) (qvV (fun s6 =>
  qbind (f_X4_usedOn v1 v3 s6) (qvI (fun r2 s7 =>
  qbind (f_X3_writeNumber r2 s7) (qvV (fun s8 =>
  rk18 v1 (v3 + (1 : Int32)) s8)) qE0)) qE0)) qE0))
def l_X7_renderUsage_18 : Nat → Int32 → Int32 → qS → Option qO
  | 0, _, _, _ => none
  | n + 1, v1, v3, s0 => b_X7_renderUsage_18  (l_X7_renderUsage_18  n) v1 v3 s0
def f_X7_renderUsage (a1 : Int32) (s0 : qS) : Option qO :=
  qbind (f_X7_requireResource a1 s0) (qvV (fun s1 =>
  qbind (f_X7_currentPlan  s1) (qvS 11 (fun s2 =>
  qbind (f_X3_clear  s2) (qvV (fun s3 =>
  l_X7_renderUsage_18  qFU a1 (0 : Int32) s3)) qE0)) qE0)) qE1
def f_X7_failedCommand  (s0 : qS) : Option qO :=
  qbind (f_X7_requireFailure  s0) (qvV (fun s1 =>
  (some (.inl (some (qI (s1 0 0 11))), s1)))) qE1
def f_X7_failureReason  (s0 : qS) : Option qO :=
  qbind (f_X7_requireFailure  s0) (qvV (fun s1 =>
  (if qch (s1 0 0 12) then some (.inl (some (qI (s1 0 0 12))), s1) else none))) qE1
def f_X7_runCommand (a1 : Int32) (s0 : qS) : Option qO :=
  qbind (f_X6_commandAt a1 s0) (qvN 40 8 (fun s1 =>
  (some (.inl (some (qI (46 : Int32))), s1))) (fun jr1 s1 =>
  qbind (f_X6_numberAt a1 (0 : Int32) s1) (qvI (fun r1 s2 =>
  qbind (f_X6_numberAt a1 (1 : Int32) s2) (qvI (fun r2 s3 =>
  (if qin (nI jr1) 8 then (qsw (qkm ((nI jr1)).toNatClampNeg) 1 [qbind (f_X6_numberAt a1 (2 : Int32) s3) (qvI (fun r3 s4 =>
  qbind (f_X6_numberAt a1 (3 : Int32) s4) (qvI (fun r4 s5 =>
  qbind (f_X7_runAdding r1 r2 r3 r4 s5) (qvI (fun r5 s6 =>
  (if qch r5 then some (.inl (some (qI r5)), s6) else none))) qE0)) qE0)) qE0,
  qbind (f_X5_faultOfTask 1 r1 s3) (qvI (fun r6 s7 =>
  (if r6 = (46 : Int32) then qbind (f_X5_drop 1 r1 s7) (qvV (fun s8 =>
  (if qch r6 then some (.inl (some (qI r6)), s8) else none))) qE0 else
  (if qch r6 then some (.inl (some (qI r6)), s7) else none)))) qE0,
  qbind (f_X5_faultOfLinking 1 r1 r2 s3) (qvI (fun r7 s9 =>
  (if r7 = (46 : Int32) then qbind (f_X5_link 1 r1 r2 s9) (qvV (fun s10 =>
  (if qch r7 then some (.inl (some (qI r7)), s10) else none))) qE0 else
  (if qch r7 then some (.inl (some (qI r7)), s9) else none)))) qE0,
  qbind (f_X5_faultOfPair 1 r1 r2 s3) (qvI (fun r8 s11 =>
  (if r8 = (46 : Int32) then qbind (f_X5_unlink 1 r1 r2 s11) (qvV (fun s12 =>
  (if qch r8 then some (.inl (some (qI r8)), s12) else none))) qE0 else
  (if qch r8 then some (.inl (some (qI r8)), s11) else none)))) qE0,
  qbind (f_X5_faultOfLimit 1 r1 r2 s3) (qvI (fun r9 s13 =>
  qbind (f_X7_runSetting r9 8 1 r1 r2 s13) (qvI (fun r10 s14 =>
  (if qch r10 then some (.inl (some (qI r10)), s14) else none))) qE0)) qE0,
  qbind (f_X5_faultOfDuration 1 r1 r2 s3) (qvI (fun r11 s15 =>
  qbind (f_X7_runSetting r11 2 1 r1 r2 s15) (qvI (fun r12 s16 =>
  (if qch r12 then some (.inl (some (qI r12)), s16) else none))) qE0)) qE0,
  qbind (f_X5_faultOfRelease 1 r1 r2 s3) (qvI (fun r13 s17 =>
  qbind (f_X7_runSetting r13 5 1 r1 r2 s17) (qvI (fun r14 s18 =>
  (if qch r14 then some (.inl (some (qI r14)), s18) else none))) qE0)) qE0] (qbind (f_X7_markTrial  s3) (qvV (fun s19 =>
  (some (.inl (some (qI (46 : Int32))), s19)))) qE0)) else none))) qE0)) qE0)) qE0
def b_X7_taskAtRank_2 (rk2 : Int32 → Int32 → qS → Option qO) (v1 : Int32) (v2 : Int32) (s0 : qS) : Option qO :=
  (if (s0 1 0 7) ≤ v2 then (some (.inr qNSE, s0)) else
  qbind (f_X7_countBefore v2 s0) (qvI (fun r1 s1 =>
  (if r1 = v1 then (some (.inl (some (qI v2)), s1)) else
  rk2 v1 (v2 + (1 : Int32)) s1))) qE0)
def l_X7_taskAtRank_2 : Nat → Int32 → Int32 → qS → Option qO
  | 0, _, _, _ => none
  | n + 1, v1, v2, s0 => b_X7_taskAtRank_2  (l_X7_taskAtRank_2  n) v1 v2 s0
def f_X7_taskAtRank (a1 : Int32) (s0 : qS) : Option qO :=
  l_X7_taskAtRank_2  qFU a1 (0 : Int32) s0
def f_X7_requireTask (a1 : Int32) (s0 : qS) : Option qO :=
  qbind (f_X5_faultOfTask 0 a1 s0) (qvI (fun r1 s1 =>
  qbind (f_X7_refuse r1 s1) (qvV (fun s2 =>
  (some (.inl none, s2)))) qE1)) qE0
def f_X7_duration (a1 : Int32) (s0 : qS) : Option qO :=
  qbind (f_X7_requireTask a1 s0) (qvV (fun s1 =>
  qbind (f_X7_at 2 0 a1 s1) (qvI (fun r1 s2 =>
  (some (.inl (some (qI r1)), s2)))) qE0)) qE1
def f_X7_resource (a1 : Int32) (s0 : qS) : Option qO :=
  qbind (f_X7_requireTask a1 s0) (qvV (fun s1 =>
  qbind (f_X7_at 3 0 a1 s1) (qvI (fun r1 s2 =>
  (some (.inl (some (qI r1)), s2)))) qE0)) qE1
def f_X7_demand (a1 : Int32) (s0 : qS) : Option qO :=
  qbind (f_X7_requireTask a1 s0) (qvV (fun s1 =>
  qbind (f_X7_at 4 0 a1 s1) (qvI (fun r1 s2 =>
  (some (.inl (some (qI r1)), s2)))) qE0)) qE1
def f_X7_release (a1 : Int32) (s0 : qS) : Option qO :=
  qbind (f_X7_requireTask a1 s0) (qvV (fun s1 =>
  qbind (f_X7_at 5 0 a1 s1) (qvI (fun r1 s2 =>
  (some (.inl (some (qI r1)), s2)))) qE0)) qE1
def f_X7_dependsDirectly (a1 : Int32) (a2 : Int32) (s0 : qS) : Option qO :=
  qbind (f_X7_requireTask a1 s0) (qvV (fun s1 =>
  qbind (f_X7_requireTask a2 s1) (qvV (fun s2 =>
  qbind (f_X5_isLinked 0 a1 a2 s2) (qvI (fun r1 s3 =>
  (if qbo r1 then some (.inl (some (qI r1)), s3) else none))) qE0)) qE1)) qE1
def f_X7_depends (a1 : Int32) (a2 : Int32) (s0 : qS) : Option qO :=
  qbind (f_X7_requireTask a1 s0) (qvV (fun s1 =>
  qbind (f_X7_requireTask a2 s1) (qvV (fun s2 =>
  qbind (f_X5_reaches 0 a1 a2 s2) (qvI (fun r1 s3 =>
  (if qbo r1 then some (.inl (some (qI r1)), s3) else none))) qE0)) qE1)) qE1
def f_X7_dependsByClosure (a1 : Int32) (a2 : Int32) (s0 : qS) : Option qO :=
  qbind (f_X7_requireTask a1 s0) (qvV (fun s1 =>
  qbind (f_X7_requireTask a2 s1) (qvV (fun s2 =>
  qbind (f_X7_currentPlan  s2) (qvS 11 (fun s3 =>
  qbind (f_X7_at 13 0 a1 s3) (qvI (fun r1 s4 =>
  qbind (f_X7_hasBit r1 a2 s4) (qvI (fun r2 s5 =>
  (if qbo r2 then some (.inl (some (qI r2)), s5) else none))) qE0)) qE0)) qE0)) qE1)) qE1
def f_X7_neededCount (a1 : Int32) (s0 : qS) : Option qO :=
  qbind (f_X7_requireTask a1 s0) (qvV (fun s1 =>
  qbind (f_X7_at 6 0 a1 s1) (qvI (fun r1 s2 =>
  qbind (f_J6_bitCount_0f7a4 r1 s2) (qvI (fun r2 s3 =>
  (some (.inl (some (qI r2)), s3)))) qE0)) qE0)) qE1
def b_X7_dependentCount_9 (rk9 : Int32 → Int32 → Int32 → qS → Option qO) (v1 : Int32) (v2 : Int32) (v3 : Int32) (s0 : qS) : Option qO :=
  (if (s0 1 0 7) ≤ v3 then (some (.inl (some (qI v2)), s0)) else
  qbind (f_X5_isLinked 0 v3 v1 s0) (qvI (fun r1 s2 =>
  (if r1 = 0 then rk9 v1 v2 (v3 + (1 : Int32)) s2 else
  rk9 v1 (v2 + (1 : Int32)) (v3 + (1 : Int32)) s2))) qE0)
def l_X7_dependentCount_9 : Nat → Int32 → Int32 → Int32 → qS → Option qO
  | 0, _, _, _, _ => none
  | n + 1, v1, v2, v3, s0 => b_X7_dependentCount_9  (l_X7_dependentCount_9  n) v1 v2 v3 s0
def f_X7_dependentCount (a1 : Int32) (s0 : qS) : Option qO :=
  qbind (f_X7_requireTask a1 s0) (qvV (fun s1 =>
  l_X7_dependentCount_9  qFU a1 (0 : Int32) (0 : Int32) s1)) qE1
def f_X7_earliestStart (a1 : Int32) (s0 : qS) : Option qO :=
  qbind (f_X7_requireTask a1 s0) (qvV (fun s1 =>
  qbind (f_X7_currentPlan  s1) (qvS 11 (fun s2 =>
  qbind (f_X7_at 14 0 a1 s2) (qvI (fun r1 s3 =>
  (some (.inl (some (qI r1)), s3)))) qE0)) qE0)) qE1
def f_X7_earliestStartByRounds (a1 : Int32) (s0 : qS) : Option qO :=
  qbind (f_X7_requireTask a1 s0) (qvV (fun s1 =>
  qbind (f_X7_currentPlan  s1) (qvS 11 (fun s2 =>
  qbind (f_X7_at 15 0 a1 s2) (qvI (fun r1 s3 =>
  (some (.inl (some (qI r1)), s3)))) qE0)) qE0)) qE1
def f_X7_latestStart (a1 : Int32) (s0 : qS) : Option qO :=
  qbind (f_X7_requireTask a1 s0) (qvV (fun s1 =>
  qbind (f_X7_currentPlan  s1) (qvS 11 (fun s2 =>
  qbind (f_X7_at 16 0 a1 s2) (qvI (fun r1 s3 =>
  (some (.inl (some (qI r1)), s3)))) qE0)) qE0)) qE1
def f_X7_slack (a1 : Int32) (s0 : qS) : Option qO :=
  qbind (f_X7_requireTask a1 s0) (qvV (fun s1 =>
  qbind (f_X7_currentPlan  s1) (qvS 11 (fun s2 =>
  qbind (f_X4_slackOf a1 s2) (qvI (fun r1 s3 =>
  (some (.inl (some (qI r1)), s3)))) qE0)) qE0)) qE1
def f_X7_isCritical (a1 : Int32) (s0 : qS) : Option qO :=
  qbind (f_X7_requireTask a1 s0) (qvV (fun s1 =>
  qbind (f_X7_currentPlan  s1) (qvS 11 (fun s2 =>
  qbind (f_X4_slackOf a1 s2) (qvI (fun r1 s3 =>
  (if r1 = 0 then (some (.inl (some (qI (1 : Int32))), s3)) else
  (some (.inl (some (qI (0 : Int32))), s3))))) qE0)) qE0)) qE1
def f_X7_levelledStart (a1 : Int32) (s0 : qS) : Option qO :=
  qbind (f_X7_requireTask a1 s0) (qvV (fun s1 =>
  qbind (f_X7_currentPlan  s1) (qvS 11 (fun s2 =>
  qbind (f_X7_at 17 0 a1 s2) (qvI (fun r1 s3 =>
  (some (.inl (some (qI r1)), s3)))) qE0)) qE0)) qE1
def f_X7_baselineStart (a1 : Int32) (s0 : qS) : Option qO :=
  qbind (f_X7_requireTask a1 s0) (qvV (fun s1 =>
  qbind (f_X7_requireBaselineStart a1 s1) (qvV (fun s2 =>
  qbind (f_X7_at 7 0 a1 s2) (qvI (fun r1 s3 =>
  (some (.inl (some (qI r1)), s3)))) qE0)) qE1)) qE1
def f_X7_drift (a1 : Int32) (s0 : qS) : Option qO :=
  qbind (f_X7_requireTask a1 s0) (qvV (fun s1 =>
  qbind (f_X7_requireBaselineStart a1 s1) (qvV (fun s2 =>
  qbind (f_X7_driftOf a1 s2) (qvI (fun r1 s3 =>
  (some (.inl (some (qI r1)), s3)))) qE0)) qE1)) qE1
def b_X7_taskBySlack_7 (rk7 : Int32 → Int32 → qS → Option qO) (v1 : Int32) (v3 : Int32) (s0 : qS) : Option qO :=
  (if (s0 1 0 7) ≤ v3 then qbind (f_X7_taskAtRank v1 s0) (qvI (fun r1 s2 =>
  (some (.inl (some (qI r1)), s2)))) qE1 else
  qbind (f_X4_slackOf v3 s0) (qvI (fun r2 s3 =>
  qbind (f_X7_at 2 0 v3 s3) (qvI (fun r3 s4 =>
  qbind (f_X7_sortingKey r2 r3 s4) (qvI (fun r4 s5 =>
  qbind (f_X7_put 25 0 v3 r4 s5) (qvV (fun s6 =>
  rk7 v1 (v3 + (1 : Int32)) s6)) qE0)) qE0)) qE0)) qE0)
def l_X7_taskBySlack_7 : Nat → Int32 → Int32 → qS → Option qO
  | 0, _, _, _ => none
  | n + 1, v1, v3, s0 => b_X7_taskBySlack_7  (l_X7_taskBySlack_7  n) v1 v3 s0
def f_X7_taskBySlack (a1 : Int32) (s0 : qS) : Option qO :=
  qbind (f_X7_currentPlan  s0) (qvS 11 (fun s1 =>
  l_X7_taskBySlack_7  qFU a1 (0 : Int32) s1)) qE0
def b_X7_taskByStart_7 (rk7 : Int32 → Int32 → qS → Option qO) (v1 : Int32) (v3 : Int32) (s0 : qS) : Option qO :=
  (if (s0 1 0 7) ≤ v3 then qbind (f_X7_taskAtRank v1 s0) (qvI (fun r1 s2 =>
  (some (.inl (some (qI r1)), s2)))) qE1 else
  qbind (f_X7_at 17 0 v3 s0) (qvI (fun r2 s3 =>
  qbind (f_X7_at 4 0 v3 s3) (qvI (fun r3 s4 =>
  qbind (f_X7_sortingKey r2 r3 s4) (qvI (fun r4 s5 =>
  qbind (f_X7_put 25 0 v3 r4 s5) (qvV (fun s6 =>
  rk7 v1 (v3 + (1 : Int32)) s6)) qE0)) qE0)) qE0)) qE0)
def l_X7_taskByStart_7 : Nat → Int32 → Int32 → qS → Option qO
  | 0, _, _, _ => none
  | n + 1, v1, v3, s0 => b_X7_taskByStart_7  (l_X7_taskByStart_7  n) v1 v3 s0
def f_X7_taskByStart (a1 : Int32) (s0 : qS) : Option qO :=
  qbind (f_X7_currentPlan  s0) (qvS 11 (fun s1 =>
  l_X7_taskByStart_7  qFU a1 (0 : Int32) s1)) qE0
def b_X7_renderTask_149 (rk149 : Int32 → Int32 → qS → Option qO) (v1 : Int32) (v3 : Int32) (s0 : qS) : Option qO :=
  (if (s0 1 0 7) ≤ v3 then (some (.inl (some (qI (s0 23 0 1))), s0)) else
  qbind (f_X5_isLinked 0 v1 v3 s0) (qvI (fun r6 s19 =>
  (if r6 = 0 then rk149 v1 (v3 + (1 : Int32)) s19 else
  qbind (f_X3_write (60 : Int32) s19) (qvV (fun s20 =>
  qbind (f_X3_writeNumber v3 s20) (qvV (fun s21 =>
  rk149 v1 (v3 + (1 : Int32)) s21)) qE0)) qE0))) qE0)
def l_X7_renderTask_149 : Nat → Int32 → Int32 → qS → Option qO
  | 0, _, _, _ => none
  | n + 1, v1, v3, s0 => b_X7_renderTask_149  (l_X7_renderTask_149  n) v1 v3 s0
def f_X7_renderTask (a1 : Int32) (s0 : qS) : Option qO :=
  qbind (f_X7_requireTask a1 s0) (qvV (fun s1 =>
  qbind (f_X7_currentPlan  s1) (qvS 11 (fun s2 =>
  qbind (f_X3_clear  s2) (qvV (fun s3 =>
  qbind (f_X3_writeNumber a1 s3) (qvV (fun s4 =>
  qbind (f_X3_write (58 : Int32) s4) (qvV (fun s5 =>
  qbind (f_X7_at 2 0 a1 s5) (qvI (fun r1 s6 =>
  qbind (f_X3_writeNumber r1 s6) (qvV (fun s7 =>
  qbind (f_X3_write (120 : Int32) s7) (qvV (fun s8 =>
  qbind (f_X7_at 4 0 a1 s8) (qvI (fun r2 s9 =>
  qbind (f_X3_writeNumber r2 s9) (qvV (fun s10 =>
  qbind (f_X3_write (114 : Int32) s10) (qvV (fun s11 =>
  qbind (f_X7_at 3 0 a1 s11) (qvI (fun r3 s12 =>
  qbind (f_X3_writeNumber r3 s12) (qvV (fun s13 =>
  qbind (f_X3_write (64 : Int32) s13) (qvV (fun s14 =>
  qbind (f_X7_at 17 0 a1 s14) (qvI (fun r4 s15 =>
  qbind (f_X3_writeNumber r4 s15) (qvV (fun s16 =>
  qbind (f_X4_slackOf a1 s16) (qvI (fun r5 s17 =>
  (if r5 = 0 then qbind (f_X3_write (33 : Int32) s17) (qvV (fun s18 =>
  l_X7_renderTask_149  qFU a1 (0 : Int32) s18)) qE0 else
  l_X7_renderTask_149  qFU a1 (0 : Int32) s17))) qE0)) qE0)) qE0)) qE0)) qE0)) qE0)) qE0)) qE0)) qE0)) qE0)) qE0)) qE0)) qE0)) qE0)) qE0)) qE0)) qE1
def b_X7_runScript_54 (rk54 : Int32 → qS → Option qO) (v2 : Int32) (s0 : qS) : Option qO :=
  (if (s0 19 0 4) ≤ v2 then qbind (f_X7_beginChange  s0) (qvV (fun s5 =>
  qbind (f_X5_copyFrom 0 1 s5) (qvV (fun s6 =>
  (some (.inl (some (qI (s6 19 0 4))), s6)))) qE0)) qE0 else
  qbind (f_X7_runCommand v2 s0) (qvI (fun r2 s7 =>
  (if r2 = (46 : Int32) then rk54 (v2 + (1 : Int32)) s7 else
  qlet (qu s7 0 0 11 v2) (fun s8 =>
  (if qch r2 then qlet (qu s8 0 0 12 r2) (fun s9 =>
  (some (.inr qISE, s9))) else none))))) qE0)
def l_X7_runScript_54 : Nat → Int32 → qS → Option qO
  | 0, _, _ => none
  | n + 1, v2, s0 => b_X7_runScript_54  (l_X7_runScript_54  n) v2 s0
def f_X7_runScript  (s0 : qS) : Option qO :=
  qbind (f_X6_read  s0) (qvI (fun r1 s1 =>
  qbind (f_X6_clear  s1) (qvV (fun s2 =>
  (if r1 = 0 then qlet (qu s2 0 0 10 (s2 19 0 5)) (fun s3 =>
  (some (.inr qIAE, s3))) else
  qbind (f_X5_copyFrom 1 0 s2) (qvV (fun s4 =>
  l_X7_runScript_54  qFU (0 : Int32) s4)) qE0))) qE0)) qE0
def f_X8_thrown  (s0 : qS) : Option qO :=
  (some (.inl (some (qI (s0 26 0 17))), s0))
def f_X8_isIn (a1 : Int32) (a2 : Int32) (a3 : Int32) (s0 : qS) : Option qO :=
  (if a1 < a2 then (some (.inl (some (qI (0 : Int32))), s0)) else
  (if a3 < a1 then (some (.inl (some (qI (0 : Int32))), s0)) else
  (some (.inl (some (qI (1 : Int32))), s0))))
def b_X8_copies_3 (k1 : Nat) (j1 : Nat) (k3 : Nat) (j3 : Nat) (rk3 : Int32 → Int32 → Int32 → qS → Option qO) (v1 : Int32) (v3 : Int32) (v4 : Int32) (s0 : qS) : Option qO :=
  (if (77 : Int32) ≤ v4 then (some (.inl none, s0)) else
  (if qin (v1 + v4) (qlen k1) then (if qin (v3 + v4) (qlen k3) then qlet (qu s0 k3 j3 ((v3 + v4)).toNatClampNeg (s0 k1 j1 ((v1 + v4)).toNatClampNeg)) (fun s1 =>
  rk3 v1 v3 (v4 + (1 : Int32)) s1) else none) else none))
def l_X8_copies_3 (k1 : Nat) (j1 : Nat) (k3 : Nat) (j3 : Nat) : Nat → Int32 → Int32 → Int32 → qS → Option qO
  | 0, _, _, _, _ => none
  | n + 1, v1, v3, v4, s0 => b_X8_copies_3 k1 j1 k3 j3 (l_X8_copies_3 k1 j1 k3 j3 n) v1 v3 v4 s0
def f_X8_copies (k1 j1 : Nat) (a2 : Int32) (k3 j3 : Nat) (a4 : Int32) (s0 : qS) : Option qO :=
  l_X8_copies_3 k1 j1 k3 j3 qFU a2 a4 (0 : Int32) s0
def f_X8_holds (a1 : Int32) (a2 : Int32) (a3 : Int32) (s0 : qS) : Option qO :=
  (if a1 = 0 then qlet (qu s0 26 0 17 (1 : Int32)) (fun s1 =>
  (if (s1 26 0 17) = 0 then (some (.inl (some (qI (1 : Int32))), s1)) else
  (some (.inl (some (qI (0 : Int32))), s1)))) else
  (if a2 = 0 then qlet (qu s0 26 0 17 (2 : Int32)) (fun s2 =>
  (if (s2 26 0 17) = 0 then (some (.inl (some (qI (1 : Int32))), s2)) else
  (some (.inl (some (qI (0 : Int32))), s2)))) else
  (if a3 = 0 then qlet (qu s0 26 0 17 (3 : Int32)) (fun s3 =>
  (if (s3 26 0 17) = 0 then (some (.inl (some (qI (1 : Int32))), s3)) else
  (some (.inl (some (qI (0 : Int32))), s3)))) else
  qlet (qu s0 26 0 17 (0 : Int32)) (fun s4 =>
  (if (s4 26 0 17) = 0 then (some (.inl (some (qI (1 : Int32))), s4)) else
  (some (.inl (some (qI (0 : Int32))), s4)))))))
def f_X8_goes (a1 : Int32) (s0 : qS) : Option qO :=
  qbind (f_X8_holds a1 (1 : Int32) (1 : Int32) s0) (qvI (fun r1 s1 =>
  (if qbo r1 then some (.inl (some (qI r1)), s1) else none))) qE0
def f_X8_begins  (s0 : qS) : Option qO :=
  qbind (f_X8_copies 27 0 (0 : Int32) 28 0 (0 : Int32) s0) (qvV (fun s1 =>
  (some (.inl none, s1)))) qE0
def j_X8_remembers_49 (s0 : qS) : Option qO :=
  qbind (f_X8_copies 28 0 (0 : Int32) 30 0 ((s0 26 0 5) * (77 : Int32)) s0) (qvV (fun s2 =>
  qlet (qu s2 26 0 5 ((s2 26 0 5) + (1 : Int32))) (fun s3 =>
  (some (.inl none, s3))))) qE0
def b_X8_remembers_11 (rk11 : Int32 → qS → Option qO) (v1 : Int32) (s0 : qS) : Option qO :=
  (if (539 : Int32) ≤ v1 then qlet (qu s0 26 0 5 ((s0 26 0 5) - (1 : Int32))) (fun s1 =>
  j_X8_remembers_49   s1) else
  (if qin (v1 + (77 : Int32)) 616 then (if qin v1 616 then qlet (qu s0 30 0 (v1).toNatClampNeg (s0 30 0 ((v1 + (77 : Int32))).toNatClampNeg)) (fun s4 =>
  rk11 (v1 + (1 : Int32)) s4) else none) else none))
def l_X8_remembers_11 : Nat → Int32 → qS → Option qO
  | 0, _, _ => none
  | n + 1, v1, s0 => b_X8_remembers_11  (l_X8_remembers_11  n) v1 s0
def f_X8_remembers  (s0 : qS) : Option qO :=
  (if (s0 26 0 5) = (8 : Int32) then l_X8_remembers_11  qFU (0 : Int32) s0 else
  j_X8_remembers_49   s0)
def f_X8_ends (a1 : Int32) (s0 : qS) : Option qO :=
  (if (s0 26 0 17) = 0 then qbind (f_X8_remembers  s0) (qvV (fun s1 =>
  (some (.inl (some (qI a1)), s1)))) qE0 else
  qbind (f_X8_copies 28 0 (0 : Int32) 27 0 (0 : Int32) s0) (qvV (fun s2 =>
  (some (.inl (some (qI (0 : Int32))), s2)))) qE0)
def j_X8_undo_13 (w1 : Int32) (s0 : qS) : Option qO :=
  qbind (f_X8_goes w1 s0) (qvI (fun r1 s1 =>
  (if r1 = 0 then (some (.inl (some (qI (0 : Int32))), s1)) else
  qlet (qu s1 26 0 5 ((s1 26 0 5) - (1 : Int32))) (fun s2 =>
  qbind (f_X8_copies 30 0 ((s2 26 0 5) * (77 : Int32)) 27 0 (0 : Int32) s2) (qvV (fun s3 =>
  (some (.inl (some (qI (s3 26 0 5))), s3)))) qE0)))) qE0
def f_X8_undo  (s0 : qS) : Option qO :=
  (if (s0 26 0 5) ≤ 0 then j_X8_undo_13  (0 : Int32) s0 else
  j_X8_undo_13  (1 : Int32) s0)
def f_X8_save  (s0 : qS) : Option qO :=
  qlet (qu s0 26 0 17 (0 : Int32)) (fun s1 =>
  qbind (f_X8_copies 27 0 (0 : Int32) 29 0 (0 : Int32) s1) (qvV (fun s2 =>
  qlet (qu s2 26 0 4 (1 : Int32)) (fun s3 =>
  (some (.inl (some (qI (s3 27 0 0))), s3))))) qE0)
def f_X8_restore  (s0 : qS) : Option qO :=
  qbind (f_X8_goes (s0 26 0 4) s0) (qvI (fun r1 s1 =>
  (if r1 = 0 then (some (.inl (some (qI (0 : Int32))), s1)) else
  qbind (f_X8_copies 29 0 (0 : Int32) 27 0 (0 : Int32) s1) (qvV (fun s2 =>
  qlet (qu s2 26 0 5 (0 : Int32)) (fun s3 =>
  (some (.inl (some (qI (s3 27 0 0))), s3))))) qE0))) qE0
def f_X8_isTask (a1 : Int32) (s0 : qS) : Option qO :=
  qbind (f_X8_isIn a1 (0 : Int32) ((s0 27 0 0) - (1 : Int32)) s0) (qvI (fun r1 s1 =>
  (if qbo r1 then some (.inl (some (qI r1)), s1) else none))) qE0
def f_X8_isResource (a1 : Int32) (s0 : qS) : Option qO :=
  qbind (f_X8_isIn a1 (0 : Int32) (2 : Int32) s0) (qvI (fun r1 s1 =>
  (if qbo r1 then some (.inl (some (qI r1)), s1) else none))) qE0
def f_X8_taskAt (a1 : Int32) (s0 : qS) : Option qO :=
  (some (.inl (some (qI ((5 : Int32) + ((6 : Int32) * a1)))), s0))
def f_X8_of (a1 : Int32) (a2 : Int32) (s0 : qS) : Option qO :=
  qbind (f_X8_isTask a1 s0) (qvI (fun r1 s1 =>
  (if r1 = 0 then qbind (f_X8_taskAt (0 : Int32) s1) (qvI (fun r2 s2 =>
  (if qin (r2 + a2) 77 then (some (.inl (some (qI (s2 27 0 ((r2 + a2)).toNatClampNeg))), s2)) else none))) qE0 else
  qbind (f_X8_taskAt a1 s1) (qvI (fun r3 s3 =>
  (if qin (r3 + a2) 77 then (some (.inl (some (qI (s3 27 0 ((r3 + a2)).toNatClampNeg))), s3)) else none))) qE0))) qE0
def f_X8_isNeeded (a1 : Int32) (a2 : Int32) (s0 : qS) : Option qO :=
  qbind (f_X8_of a1 (4 : Int32) s0) (qvI (fun r1 s1 =>
  (if ((r1 >>> (a2 &&& 31)) &&& (1 : Int32)) = (1 : Int32) then (some (.inl (some (qI (1 : Int32))), s1)) else
  (some (.inl (some (qI (0 : Int32))), s1))))) qE0
def b_X8_needsOf_22 (rk9 : Int32 → Int32 → qS → Option qO) (rk22 : Int32 → Int32 → Int32 → qS → Option qO) (v2 : Int32) (v3 : Int32) (v4 : Int32) (s0 : qS) : Option qO :=
  (if (s0 27 0 0) ≤ v4 then rk9 v2 (v3 + (1 : Int32)) s0 else
  (if ((v2 >>> (v4 &&& 31)) &&& (1 : Int32)) = (1 : Int32) then qbind (f_X8_of v4 (4 : Int32) s0) (qvI (fun r2 s2 =>
  rk22 (v2 ||| r2) v3 (v4 + (1 : Int32)) s2)) qE0 else
  rk22 (v2 ||| (0 : Int32)) v3 (v4 + (1 : Int32)) s0))
def l_X8_needsOf_22 (rk9 : Int32 → Int32 → qS → Option qO) : Nat → Int32 → Int32 → Int32 → qS → Option qO
  | 0, _, _, _, _ => none
  | n + 1, v2, v3, v4, s0 => b_X8_needsOf_22  rk9 (l_X8_needsOf_22  rk9 n) v2 v3 v4 s0
def b_X8_needsOf_9 (rk9 : Int32 → Int32 → qS → Option qO) (v2 : Int32) (v3 : Int32) (s0 : qS) : Option qO :=
  (if (s0 27 0 0) ≤ v3 then (some (.inl (some (qI v2)), s0)) else
  l_X8_needsOf_22  rk9 qFU v2 v3 (0 : Int32) s0)
def l_X8_needsOf_9 : Nat → Int32 → Int32 → qS → Option qO
  | 0, _, _, _ => none
  | n + 1, v2, v3, s0 => b_X8_needsOf_9  (l_X8_needsOf_9  n) v2 v3 s0
def f_X8_needsOf (a1 : Int32) (s0 : qS) : Option qO :=
  qbind (f_X8_of a1 (4 : Int32) s0) (qvI (fun r1 s1 =>
  l_X8_needsOf_9  qFU r1 (0 : Int32) s1)) qE0
def f_X8_doesDepend (a1 : Int32) (a2 : Int32) (s0 : qS) : Option qO :=
  qbind (f_X8_needsOf a1 s0) (qvI (fun r1 s1 =>
  (if ((r1 >>> (a2 &&& 31)) &&& (1 : Int32)) = (1 : Int32) then (some (.inl (some (qI (1 : Int32))), s1)) else
  (some (.inl (some (qI (0 : Int32))), s1))))) qE0
def j_X8_adds_63 (v1 : Int32) (v2 : Int32) (v3 : Int32) (v4 : Int32) (w1 : Int32) (w2 : Int32) (s0 : qS) : Option qO :=
  qbind (f_X8_holds w1 w2 (1 : Int32) s0) (qvI (fun r2 s2 =>
  (if r2 = 0 then (some (.inl (some (qI (0 : Int32))), s2)) else
  qbind (f_X8_taskAt (s2 27 0 0) s2) (qvI (fun r3 s3 =>
  (if qin (r3 + (0 : Int32)) 77 then qlet (qu s3 27 0 ((r3 + (0 : Int32))).toNatClampNeg v1) (fun s4 =>
  (if qin (r3 + (1 : Int32)) 77 then qlet (qu s4 27 0 ((r3 + (1 : Int32))).toNatClampNeg v2) (fun s5 =>
  (if qin (r3 + (2 : Int32)) 77 then qlet (qu s5 27 0 ((r3 + (2 : Int32))).toNatClampNeg v3) (fun s6 =>
  (if qin (r3 + (3 : Int32)) 77 then qlet (qu s6 27 0 ((r3 + (3 : Int32))).toNatClampNeg v4) (fun s7 =>
  (if qin (r3 + (4 : Int32)) 77 then qlet (qu s7 27 0 ((r3 + (4 : Int32))).toNatClampNeg (0 : Int32)) (fun s8 =>
  (if qin (r3 + (5 : Int32)) 77 then qlet (qu s8 27 0 ((r3 + (5 : Int32))).toNatClampNeg (-1 : Int32)) (fun s9 =>
  qlet (qu s9 27 0 0 ((s9 27 0 0) + (1 : Int32))) (fun s10 =>
  (some (.inl (some (qI ((s10 27 0 0) - (1 : Int32)))), s10)))) else none)) else none)) else none)) else none)) else none)) else none))) qE0))) qE0
def j_X8_adds_42 (v1 : Int32) (v2 : Int32) (v3 : Int32) (v4 : Int32) (w0 : Int32) (s0 : qS) : Option qO :=
  (if (12 : Int32) ≤ (s0 27 0 0) then j_X8_adds_63  v1 v2 v3 v4 w0 (0 : Int32) s0 else
  j_X8_adds_63  v1 v2 v3 v4 w0 (1 : Int32) s0)
def f_X8_adds (a1 : Int32) (a2 : Int32) (a3 : Int32) (a4 : Int32) (s0 : qS) : Option qO :=
  qbind (f_X8_isIn a1 (1 : Int32) (9 : Int32) s0) (qvI (fun r1 s1 =>
  (if r1 = 0 then j_X8_adds_42  a1 a2 a3 a4 (0 : Int32) s1 else
  qbind (f_X8_isResource a2 s1) (qvI (fun r4 s11 =>
  (if r4 = 0 then j_X8_adds_42  a1 a2 a3 a4 (0 : Int32) s11 else
  qbind (f_X8_isIn a3 (1 : Int32) (5 : Int32) s11) (qvI (fun r5 s12 =>
  (if r5 = 0 then j_X8_adds_42  a1 a2 a3 a4 (0 : Int32) s12 else
  qbind (f_X8_isIn a4 (0 : Int32) (30 : Int32) s12) (qvI (fun r6 s13 =>
  (if r6 = 0 then j_X8_adds_42  a1 a2 a3 a4 (0 : Int32) s13 else
  j_X8_adds_42  a1 a2 a3 a4 (1 : Int32) s13))) qE0))) qE0))) qE0))) qE0
def f_X8_addTask (a1 : Int32) (a2 : Int32) (a3 : Int32) (a4 : Int32) (s0 : qS) : Option qO :=
  qbind (f_X8_begins  s0) (qvV (fun s1 =>
  qbind (f_X8_adds a1 a2 a3 a4 s1) (qvI (fun r1 s2 =>
  qbind (f_X8_ends r1 s2) (qvI (fun r2 s3 =>
  (some (.inl (some (qI r2)), s3)))) qE0)) qE0)) qE0
def b_X8_removes_64 (rk64 : Int32 → Int32 → qS → Option qO) (v2 : Int32) (v3 : Int32) (s0 : qS) : Option qO :=
  (if (s0 27 0 0) ≤ v3 then (some (.inl (some (qI (s0 27 0 0))), s0)) else
  qbind (f_X8_taskAt v3 s0) (qvI (fun r4 s5 =>
  (if qin (r4 + (4 : Int32)) 77 then qbind (f_X8_taskAt v3 s5) (qvI (fun r5 s6 =>
  (if qin (r5 + (4 : Int32)) 77 then qlet (qu s6 27 0 ((r5 + (4 : Int32))).toNatClampNeg (((s5 27 0 ((r4 + (4 : Int32))).toNatClampNeg) &&& v2) ||| (((s5 27 0 ((r4 + (4 : Int32))).toNatClampNeg) >>> ((1 : Int32) &&& 31)) &&& (v2 ^^^ (-1 : Int32))))) (fun s7 =>
  rk64 v2 (v3 + (1 : Int32)) s7) else none))) qE0 else none))) qE0)
def l_X8_removes_64 : Nat → Int32 → Int32 → qS → Option qO
  | 0, _, _, _ => none
  | n + 1, v2, v3, s0 => b_X8_removes_64  (l_X8_removes_64  n) v2 v3 s0
def b_X8_removes_19 (rk19 : Int32 → Int32 → qS → Option qO) (v1 : Int32) (v2 : Int32) (s0 : qS) : Option qO :=
  (if (71 : Int32) ≤ v2 then qlet (qu s0 27 0 0 ((s0 27 0 0) - (1 : Int32))) (fun s4 =>
  l_X8_removes_64  qFU (((1 : Int32) <<< (v1 &&& 31)) - (1 : Int32)) (0 : Int32) s4) else
  (if qin (v2 + (6 : Int32)) 77 then (if qin v2 77 then qlet (qu s0 27 0 (v2).toNatClampNeg (s0 27 0 ((v2 + (6 : Int32))).toNatClampNeg)) (fun s8 =>
  rk19 v1 (v2 + (1 : Int32)) s8) else none) else none))
def l_X8_removes_19 : Nat → Int32 → Int32 → qS → Option qO
  | 0, _, _, _ => none
  | n + 1, v1, v2, s0 => b_X8_removes_19  (l_X8_removes_19  n) v1 v2 s0
def f_X8_removes (a1 : Int32) (s0 : qS) : Option qO :=
  qbind (f_X8_isTask a1 s0) (qvI (fun r1 s1 =>
  qbind (f_X8_goes r1 s1) (qvI (fun r2 s2 =>
  (if r2 = 0 then (some (.inl (some (qI (0 : Int32))), s2)) else
  qbind (f_X8_taskAt a1 s2) (qvI (fun r3 s3 =>
  l_X8_removes_19  qFU a1 r3 s3)) qE0))) qE0)) qE0
def f_X8_removeTask (a1 : Int32) (s0 : qS) : Option qO :=
  qbind (f_X8_begins  s0) (qvV (fun s1 =>
  qbind (f_X8_removes a1 s1) (qvI (fun r1 s2 =>
  qbind (f_X8_ends r1 s2) (qvI (fun r2 s3 =>
  (some (.inl (some (qI r2)), s3)))) qE0)) qE0)) qE0
def j_X8_links_74 (v1 : Int32) (v2 : Int32) (w0 : Int32) (s0 : qS) : Option qO :=
  qbind (f_X8_taskAt v1 s0) (qvI (fun r4 s4 =>
  (if qin (r4 + (4 : Int32)) 77 then (if qin (r4 + (4 : Int32)) 77 then qlet (qu s4 27 0 ((r4 + (4 : Int32))).toNatClampNeg ((s4 27 0 ((r4 + (4 : Int32))).toNatClampNeg) ||| ((1 : Int32) <<< (v2 &&& 31)))) (fun s5 =>
  (some (.inl (some (qI w0)), s5))) else none) else none))) qE0
def j_X8_links_52 (v1 : Int32) (v2 : Int32) (w1 : Int32) (w2 : Int32) (w3 : Int32) (s0 : qS) : Option qO :=
  qbind (f_X8_holds w1 w2 w3 s0) (qvI (fun r2 s2 =>
  (if r2 = 0 then (some (.inl (some (qI (0 : Int32))), s2)) else
  qbind (f_X8_isNeeded v1 v2 s2) (qvI (fun r3 s3 =>
  (if r3 = 0 then j_X8_links_74  v1 v2 (0 : Int32) s3 else
  j_X8_links_74  v1 v2 (1 : Int32) s3))) qE0))) qE0
def j_X8_links_34 (v1 : Int32) (v2 : Int32) (v3 : Int32) (w1 : Int32) (w2 : Int32) (s0 : qS) : Option qO :=
  (if v3 = 0 then j_X8_links_52  v1 v2 w1 w2 (0 : Int32) s0 else
  qbind (f_X8_doesDepend v2 v1 s0) (qvI (fun r5 s6 =>
  (if r5 = 0 then j_X8_links_52  v1 v2 w1 w2 (1 : Int32) s6 else
  j_X8_links_52  v1 v2 w1 w2 (0 : Int32) s6))) qE0)
def f_X8_links (a1 : Int32) (a2 : Int32) (s0 : qS) : Option qO :=
  qbind (f_X8_isTask a1 s0) (qvI (fun r1 s1 =>
  (if r1 = 0 then (if a1 = a2 then j_X8_links_34  a1 a2 (0 : Int32) (0 : Int32) (0 : Int32) s1 else
  j_X8_links_34  a1 a2 (0 : Int32) (0 : Int32) (1 : Int32) s1) else
  qbind (f_X8_isTask a2 s1) (qvI (fun r6 s7 =>
  (if r6 = 0 then (if a1 = a2 then j_X8_links_34  a1 a2 (0 : Int32) (0 : Int32) (0 : Int32) s7 else
  j_X8_links_34  a1 a2 (0 : Int32) (0 : Int32) (1 : Int32) s7) else
  (if a1 = a2 then j_X8_links_34  a1 a2 (1 : Int32) (1 : Int32) (0 : Int32) s7 else
  j_X8_links_34  a1 a2 (1 : Int32) (1 : Int32) (1 : Int32) s7)))) qE0))) qE0
def f_X8_addDependency (a1 : Int32) (a2 : Int32) (s0 : qS) : Option qO :=
  qbind (f_X8_begins  s0) (qvV (fun s1 =>
  qbind (f_X8_links a1 a2 s1) (qvI (fun r1 s2 =>
  qbind (f_X8_ends r1 s2) (qvI (fun r2 s3 =>
  (if (s3 26 0 17) = 0 then (if r2 = 0 then (some (.inl (some (qI (1 : Int32))), s3)) else
  (some (.inl (some (qI (0 : Int32))), s3))) else
  (some (.inl (some (qI (0 : Int32))), s3))))) qE0)) qE0)) qE0
def j_X8_unlinks_44 (v1 : Int32) (v2 : Int32) (w0 : Int32) (s0 : qS) : Option qO :=
  qbind (f_X8_taskAt v1 s0) (qvI (fun r4 s4 =>
  (if qin (r4 + (4 : Int32)) 77 then (if qin (r4 + (4 : Int32)) 77 then qlet (qu s4 27 0 ((r4 + (4 : Int32))).toNatClampNeg ((s4 27 0 ((r4 + (4 : Int32))).toNatClampNeg) &&& (((1 : Int32) <<< (v2 &&& 31)) ^^^ (-1 : Int32)))) (fun s5 =>
  (some (.inl (some (qI w0)), s5))) else none) else none))) qE0
def j_X8_unlinks_22 (v1 : Int32) (v2 : Int32) (w1 : Int32) (s0 : qS) : Option qO :=
  qbind (f_X8_goes w1 s0) (qvI (fun r2 s2 =>
  (if r2 = 0 then (some (.inl (some (qI (0 : Int32))), s2)) else
  qbind (f_X8_isNeeded v1 v2 s2) (qvI (fun r3 s3 =>
  (if r3 = 0 then j_X8_unlinks_44  v1 v2 (0 : Int32) s3 else
  j_X8_unlinks_44  v1 v2 (1 : Int32) s3))) qE0))) qE0
def f_X8_unlinks (a1 : Int32) (a2 : Int32) (s0 : qS) : Option qO :=
  qbind (f_X8_isTask a1 s0) (qvI (fun r1 s1 =>
  (if r1 = 0 then j_X8_unlinks_22  a1 a2 (0 : Int32) s1 else
  qbind (f_X8_isTask a2 s1) (qvI (fun r5 s6 =>
  (if r5 = 0 then j_X8_unlinks_22  a1 a2 (0 : Int32) s6 else
  j_X8_unlinks_22  a1 a2 (1 : Int32) s6))) qE0))) qE0
def f_X8_removeDependency (a1 : Int32) (a2 : Int32) (s0 : qS) : Option qO :=
  qbind (f_X8_begins  s0) (qvV (fun s1 =>
  qbind (f_X8_unlinks a1 a2 s1) (qvI (fun r1 s2 =>
  qbind (f_X8_ends r1 s2) (qvI (fun r2 s3 =>
  (if r2 = (1 : Int32) then (some (.inl (some (qI (1 : Int32))), s3)) else
  (some (.inl (some (qI (0 : Int32))), s3))))) qE0)) qE0)) qE0
def f_X8_sets (a1 : Int32) (a2 : Int32) (a3 : Int32) (a4 : Int32) (a5 : Int32) (s0 : qS) : Option qO :=
  qbind (f_X8_of a1 a2 s0) (qvI (fun r1 s1 =>
  qbind (f_X8_isTask a1 s1) (qvI (fun r2 s2 =>
  qbind (f_X8_isIn a3 a4 a5 s2) (qvI (fun r3 s3 =>
  qbind (f_X8_holds r2 r3 (1 : Int32) s3) (qvI (fun r4 s4 =>
  (if r4 = 0 then (some (.inl (some (qI r1)), s4)) else
  qbind (f_X8_taskAt a1 s4) (qvI (fun r5 s5 =>
  (if qin (r5 + a2) 77 then qlet (qu s5 27 0 ((r5 + a2)).toNatClampNeg a3) (fun s6 =>
  (some (.inl (some (qI r1)), s6))) else none))) qE0))) qE0)) qE0)) qE0)) qE0
def f_X8_setDuration (a1 : Int32) (a2 : Int32) (s0 : qS) : Option qO :=
  qbind (f_X8_begins  s0) (qvV (fun s1 =>
  qbind (f_X8_sets a1 (0 : Int32) a2 (1 : Int32) (9 : Int32) s1) (qvI (fun r1 s2 =>
  qbind (f_X8_ends r1 s2) (qvI (fun r2 s3 =>
  (some (.inl (some (qI r2)), s3)))) qE0)) qE0)) qE0
def f_X8_setRelease (a1 : Int32) (a2 : Int32) (s0 : qS) : Option qO :=
  qbind (f_X8_begins  s0) (qvV (fun s1 =>
  qbind (f_X8_sets a1 (3 : Int32) a2 (0 : Int32) (30 : Int32) s1) (qvI (fun r1 s2 =>
  qbind (f_X8_ends r1 s2) (qvI (fun r2 s3 =>
  (some (.inl (some (qI r2)), s3)))) qE0)) qE0)) qE0
def j_X8_limits_23 (v1 : Int32) (v2 : Int32) (w1 : Int32) (s0 : qS) : Option qO :=
  qbind (f_X8_goes w1 s0) (qvI (fun r2 s2 =>
  (if r2 = 0 then (some (.inl (some (qI (0 : Int32))), s2)) else
  (if qin ((2 : Int32) + v1) 77 then (if qin ((2 : Int32) + v1) 77 then qlet (qu s2 27 0 (((2 : Int32) + v1)).toNatClampNeg v2) (fun s3 =>
  (some (.inl (some (qI (s2 27 0 (((2 : Int32) + v1)).toNatClampNeg))), s3))) else none) else none)))) qE0
def f_X8_limits (a1 : Int32) (a2 : Int32) (s0 : qS) : Option qO :=
  qbind (f_X8_isResource a1 s0) (qvI (fun r1 s1 =>
  (if r1 = 0 then j_X8_limits_23  a1 a2 (0 : Int32) s1 else
  qbind (f_X8_isIn a2 (5 : Int32) (20 : Int32) s1) (qvI (fun r3 s4 =>
  (if r3 = 0 then j_X8_limits_23  a1 a2 (0 : Int32) s4 else
  j_X8_limits_23  a1 a2 (1 : Int32) s4))) qE0))) qE0
def f_X8_setLimit (a1 : Int32) (a2 : Int32) (s0 : qS) : Option qO :=
  qbind (f_X8_begins  s0) (qvV (fun s1 =>
  qbind (f_X8_limits a1 a2 s1) (qvI (fun r1 s2 =>
  qbind (f_X8_ends r1 s2) (qvI (fun r2 s3 =>
  (some (.inl (some (qI r2)), s3)))) qE0)) qE0)) qE0
def b_X8_lastOf_4 (k1 : Nat) (j1 : Nat) (rk4 : Int32 → Int32 → qS → Option qO) (v2 : Int32) (v3 : Int32) (s0 : qS) : Option qO :=
  (if (s0 27 0 0) ≤ v3 then (some (.inl (some (qI v2)), s0)) else
  (if qin v3 (qlen k1) then qbind (f_X8_of v3 (0 : Int32) s0) (qvI (fun r1 s1 =>
  rk4 (qmax v2 ((s0 k1 j1 (v3).toNatClampNeg) + r1)) (v3 + (1 : Int32)) s1)) qE0 else none))
def l_X8_lastOf_4 (k1 : Nat) (j1 : Nat) : Nat → Int32 → Int32 → qS → Option qO
  | 0, _, _, _ => none
  | n + 1, v2, v3, s0 => b_X8_lastOf_4 k1 j1 (l_X8_lastOf_4 k1 j1 n) v2 v3 s0
def f_X8_lastOf (k1 j1 : Nat) (s0 : qS) : Option qO :=
  l_X8_lastOf_4 k1 j1 qFU (0 : Int32) (0 : Int32) s0
def b_X8_soonest_10 (k2 : Nat) (j2 : Nat) (rk10 : Int32 → Int32 → Int32 → qS → Option qO) (v1 : Int32) (v3 : Int32) (v4 : Int32) (s0 : qS) : Option qO :=
  (if (s0 27 0 0) ≤ v4 then (some (.inl (some (qI v3)), s0)) else
  qbind (f_X8_isNeeded v1 v4 s0) (qvI (fun r2 s2 =>
  (if r2 = 0 then rk10 v1 v3 (v4 + (1 : Int32)) s2 else
  (if qin v4 (qlen k2) then qbind (f_X8_of v4 (0 : Int32) s2) (qvI (fun r3 s3 =>
  rk10 v1 (qmax v3 ((s2 k2 j2 (v4).toNatClampNeg) + r3)) (v4 + (1 : Int32)) s3)) qE0 else none)))) qE0)
def l_X8_soonest_10 (k2 : Nat) (j2 : Nat) : Nat → Int32 → Int32 → Int32 → qS → Option qO
  | 0, _, _, _, _ => none
  | n + 1, v1, v3, v4, s0 => b_X8_soonest_10 k2 j2 (l_X8_soonest_10 k2 j2 n) v1 v3 v4 s0
def f_X8_soonest (a1 : Int32) (k2 j2 : Nat) (s0 : qS) : Option qO :=
  qbind (f_X8_of a1 (3 : Int32) s0) (qvI (fun r1 s1 =>
  l_X8_soonest_10 k2 j2 qFU a1 r1 (0 : Int32) s1)) qE0
def b_X8_puts_2 (rk2 : Int32 → Int32 → qS → Option qO) (v1 : Int32) (v2 : Int32) (s0 : qS) : Option qO :=
  (if (s0 27 0 0) ≤ v2 then (some (.inl none, s0)) else
  qbind (f_X8_isNeeded v2 v1 s0) (qvI (fun r1 s1 =>
  (if r1 = 0 then (if qin v1 12 then (if qin v1 12 then qlet (qu s1 32 0 (v1).toNatClampNeg (s1 32 0 (v1).toNatClampNeg)) (fun s2 =>
  rk2 v1 (v2 + (1 : Int32)) s2) else none) else none) else
  (if qin v1 12 then (if qin v2 12 then qbind (f_X8_of v1 (0 : Int32) s1) (qvI (fun r2 s3 =>
  (if qin v1 12 then qlet (qu s3 32 0 (v1).toNatClampNeg (qmin (s1 32 0 (v1).toNatClampNeg) ((s1 32 0 (v2).toNatClampNeg) - r2))) (fun s4 =>
  rk2 v1 (v2 + (1 : Int32)) s4) else none))) qE0 else none) else none)))) qE0)
def l_X8_puts_2 : Nat → Int32 → Int32 → qS → Option qO
  | 0, _, _, _ => none
  | n + 1, v1, v2, s0 => b_X8_puts_2  (l_X8_puts_2  n) v1 v2 s0
def f_X8_puts (a1 : Int32) (s0 : qS) : Option qO :=
  l_X8_puts_2  qFU a1 (0 : Int32) s0
def b_X8_hasRoom_16 (rk16 : Int32 → Int32 → Int32 → qS → Option qO) (v1 : Int32) (v3 : Int32) (v4 : Int32) (s0 : qS) : Option qO :=
  qbind (f_X8_of v1 (0 : Int32) s0) (qvI (fun r2 s2 =>
  (if r2 ≤ v4 then (some (.inl (some (qI (1 : Int32))), s2)) else
  (if qin (v3 + v4) 480 then qbind (f_X8_of v1 (2 : Int32) s2) (qvI (fun r3 s3 =>
  qbind (f_X8_of v1 (1 : Int32) s3) (qvI (fun r4 s4 =>
  (if qin ((2 : Int32) + r4) 77 then (if ((s2 34 0 ((v3 + v4)).toNatClampNeg) + r3) ≤ (s4 27 0 (((2 : Int32) + r4)).toNatClampNeg) then rk16 v1 v3 (v4 + (1 : Int32)) s4 else
  (some (.inl (some (qI (0 : Int32))), s4))) else none))) qE0)) qE0 else none)))) qE0
def l_X8_hasRoom_16 : Nat → Int32 → Int32 → Int32 → qS → Option qO
  | 0, _, _, _, _ => none
  | n + 1, v1, v3, v4, s0 => b_X8_hasRoom_16  (l_X8_hasRoom_16  n) v1 v3 v4 s0
def f_X8_hasRoom (a1 : Int32) (a2 : Int32) (s0 : qS) : Option qO :=
  qbind (f_X8_of a1 (1 : Int32) s0) (qvI (fun r1 s1 =>
  l_X8_hasRoom_16  qFU a1 (((160 : Int32) * r1) + a2) (0 : Int32) s1)) qE0
def f_X8_taskCount  (s0 : qS) : Option qO :=
  qlet (qu s0 26 0 17 (0 : Int32)) (fun s1 =>
  (some (.inl (some (qI (s1 27 0 0))), s1)))
def f_X8_asks (a1 : Int32) (a2 : Int32) (s0 : qS) : Option qO :=
  qbind (f_X8_isTask a1 s0) (qvI (fun r1 s1 =>
  qbind (f_X8_goes r1 s1) (qvI (fun r2 s2 =>
  (if r2 = 0 then (some (.inl (some (qI (0 : Int32))), s2)) else
  qbind (f_X8_of a1 a2 s2) (qvI (fun r3 s3 =>
  (some (.inl (some (qI r3)), s3)))) qE0))) qE0)) qE0
def f_X8_duration (a1 : Int32) (s0 : qS) : Option qO :=
  qbind (f_X8_asks a1 (0 : Int32) s0) (qvI (fun r1 s1 =>
  (some (.inl (some (qI r1)), s1)))) qE0
def f_X8_resource (a1 : Int32) (s0 : qS) : Option qO :=
  qbind (f_X8_asks a1 (1 : Int32) s0) (qvI (fun r1 s1 =>
  (some (.inl (some (qI r1)), s1)))) qE0
def f_X8_demand (a1 : Int32) (s0 : qS) : Option qO :=
  qbind (f_X8_asks a1 (2 : Int32) s0) (qvI (fun r1 s1 =>
  (some (.inl (some (qI r1)), s1)))) qE0
def f_X8_release (a1 : Int32) (s0 : qS) : Option qO :=
  qbind (f_X8_asks a1 (3 : Int32) s0) (qvI (fun r1 s1 =>
  (some (.inl (some (qI r1)), s1)))) qE0
def f_X8_limit (a1 : Int32) (s0 : qS) : Option qO :=
  qbind (f_X8_isResource a1 s0) (qvI (fun r1 s1 =>
  qbind (f_X8_goes r1 s1) (qvI (fun r2 s2 =>
  (if r2 = 0 then (some (.inl (some (qI (0 : Int32))), s2)) else
  (if qin ((2 : Int32) + a1) 77 then (some (.inl (some (qI (s2 27 0 (((2 : Int32) + a1)).toNatClampNeg))), s2)) else none)))) qE0)) qE0
def j_X8_dependsDirectly_21 (v1 : Int32) (v2 : Int32) (s0 : qS) : Option qO :=
  qbind (f_X8_goes (0 : Int32) s0) (qvI (fun r2 s2 =>
  (if r2 = 0 then (some (.inl (some (qI (0 : Int32))), s2)) else
  qbind (f_X8_isNeeded v1 v2 s2) (qvI (fun r3 s3 =>
  (if r3 = 0 then (some (.inl (some (qI (0 : Int32))), s3)) else
  (some (.inl (some (qI (1 : Int32))), s3))))) qE0))) qE0
def f_X8_dependsDirectly (a1 : Int32) (a2 : Int32) (s0 : qS) : Option qO :=
  qbind (f_X8_isTask a1 s0) (qvI (fun r1 s1 =>
  (if r1 = 0 then j_X8_dependsDirectly_21  a1 a2 s1 else
  qbind (f_X8_isTask a2 s1) (qvI (fun r4 s4 =>
  (if r4 = 0 then j_X8_dependsDirectly_21  a1 a2 s4 else
  qbind (f_X8_goes (1 : Int32) s4) (qvI (fun r5 s5 =>
  (if r5 = 0 then (some (.inl (some (qI (0 : Int32))), s5)) else
  qbind (f_X8_isNeeded a1 a2 s5) (qvI (fun r6 s6 =>
  (if r6 = 0 then (some (.inl (some (qI (0 : Int32))), s6)) else
  (some (.inl (some (qI (1 : Int32))), s6))))) qE0))) qE0))) qE0))) qE0
def j_X8_isBehind_21 (v1 : Int32) (v2 : Int32) (s0 : qS) : Option qO :=
  qbind (f_X8_goes (0 : Int32) s0) (qvI (fun r2 s2 =>
  (if r2 = 0 then (some (.inl (some (qI (0 : Int32))), s2)) else
  qbind (f_X8_doesDepend v1 v2 s2) (qvI (fun r3 s3 =>
  (if r3 = 0 then (some (.inl (some (qI (0 : Int32))), s3)) else
  (some (.inl (some (qI (1 : Int32))), s3))))) qE0))) qE0
def f_X8_isBehind (a1 : Int32) (a2 : Int32) (s0 : qS) : Option qO :=
  qbind (f_X8_isTask a1 s0) (qvI (fun r1 s1 =>
  (if r1 = 0 then j_X8_isBehind_21  a1 a2 s1 else
  qbind (f_X8_isTask a2 s1) (qvI (fun r4 s4 =>
  (if r4 = 0 then j_X8_isBehind_21  a1 a2 s4 else
  qbind (f_X8_goes (1 : Int32) s4) (qvI (fun r5 s5 =>
  (if r5 = 0 then (some (.inl (some (qI (0 : Int32))), s5)) else
  qbind (f_X8_doesDepend a1 a2 s5) (qvI (fun r6 s6 =>
  (if r6 = 0 then (some (.inl (some (qI (0 : Int32))), s6)) else
  (some (.inl (some (qI (1 : Int32))), s6))))) qE0))) qE0))) qE0))) qE0
def f_X8_depends (a1 : Int32) (a2 : Int32) (s0 : qS) : Option qO :=
  qbind (f_X8_isBehind a1 a2 s0) (qvI (fun r1 s1 =>
  (if qbo r1 then some (.inl (some (qI r1)), s1) else none))) qE0
def f_X8_dependsByClosure (a1 : Int32) (a2 : Int32) (s0 : qS) : Option qO :=
  qbind (f_X8_isBehind a1 a2 s0) (qvI (fun r1 s1 =>
  (if qbo r1 then some (.inl (some (qI r1)), s1) else none))) qE0
def f_X8_neededCount (a1 : Int32) (s0 : qS) : Option qO :=
  qbind (f_X8_asks a1 (4 : Int32) s0) (qvI (fun r1 s1 =>
  qbind (f_J6_bitCount_0f7a4 r1 s1) (qvI (fun r2 s2 =>
  (some (.inl (some (qI r2)), s2)))) qE0)) qE0
def b_X8_dependentCount_4 (rk4 : Int32 → Int32 → Int32 → qS → Option qO) (v1 : Int32) (v2 : Int32) (v3 : Int32) (s0 : qS) : Option qO :=
  (if (s0 27 0 0) ≤ v3 then qbind (f_X8_isTask v1 s0) (qvI (fun r1 s1 =>
  qbind (f_X8_goes r1 s1) (qvI (fun r2 s2 =>
  (if r2 = 0 then (some (.inl (some (qI (0 : Int32))), s2)) else
  (some (.inl (some (qI v2)), s2))))) qE0)) qE0 else
  qbind (f_X8_isTask v1 s0) (qvI (fun r3 s3 =>
  (if r3 = 0 then rk4 v1 (v2 + (0 : Int32)) (v3 + (1 : Int32)) s3 else
  qbind (f_X8_isNeeded v3 v1 s3) (qvI (fun r4 s4 =>
  (if r4 = 0 then rk4 v1 (v2 + (0 : Int32)) (v3 + (1 : Int32)) s4 else
  rk4 v1 (v2 + (1 : Int32)) (v3 + (1 : Int32)) s4))) qE0))) qE0)
def l_X8_dependentCount_4 : Nat → Int32 → Int32 → Int32 → qS → Option qO
  | 0, _, _, _, _ => none
  | n + 1, v1, v2, v3, s0 => b_X8_dependentCount_4  (l_X8_dependentCount_4  n) v1 v2 v3 s0
def f_X8_dependentCount (a1 : Int32) (s0 : qS) : Option qO :=
  l_X8_dependentCount_4  qFU a1 (0 : Int32) (0 : Int32) s0
def b_X8_taskInOrder_31 (rk7 : Int32 → Int32 → Int32 → Int32 → qS → Option qO) (rk31 : Int32 → Int32 → Int32 → Int32 → Int32 → Int32 → qS → Option qO) (v1 : Int32) (v2 : Int32) (v3 : Int32) (v4 : Int32) (v5 : Int32) (v6 : Int32) (s0 : qS) : Option qO :=
  (if v6 < 0 then (if v4 = v1 then rk7 v1 (v2 ||| ((1 : Int32) <<< (v5 &&& 31))) v5 (v4 + (1 : Int32)) s0 else
  rk7 v1 (v2 ||| ((1 : Int32) <<< (v5 &&& 31))) v3 (v4 + (1 : Int32)) s0) else
  (if ((v2 >>> (v6 &&& 31)) &&& (1 : Int32)) = 0 then qbind (f_X8_of v6 (4 : Int32) s0) (qvI (fun r3 s3 =>
  (if (r3 &&& (v2 ^^^ (-1 : Int32))) = 0 then rk31 v1 v2 v3 v4 v6 (v6 + (-1 : Int32)) s3 else
  rk31 v1 v2 v3 v4 v5 (v6 + (-1 : Int32)) s3))) qE0 else
  rk31 v1 v2 v3 v4 v5 (v6 + (-1 : Int32)) s0))
def l_X8_taskInOrder_31 (rk7 : Int32 → Int32 → Int32 → Int32 → qS → Option qO) : Nat → Int32 → Int32 → Int32 → Int32 → Int32 → Int32 → qS → Option qO
  | 0, _, _, _, _, _, _, _ => none
  | n + 1, v1, v2, v3, v4, v5, v6, s0 => b_X8_taskInOrder_31  rk7 (l_X8_taskInOrder_31  rk7 n) v1 v2 v3 v4 v5 v6 s0
def b_X8_taskInOrder_7 (rk7 : Int32 → Int32 → Int32 → Int32 → qS → Option qO) (v1 : Int32) (v2 : Int32) (v3 : Int32) (v4 : Int32) (s0 : qS) : Option qO :=
  (if (s0 27 0 0) ≤ v4 then (if v3 = (-1 : Int32) then qbind (f_X8_goes (0 : Int32) s0) (qvI (fun r1 s1 =>
  (if r1 = 0 then (some (.inl (some (qI (0 : Int32))), s1)) else
  (some (.inl (some (qI v3)), s1))))) qE0 else
  qbind (f_X8_goes (1 : Int32) s0) (qvI (fun r2 s2 =>
  (if r2 = 0 then (some (.inl (some (qI (0 : Int32))), s2)) else
  (some (.inl (some (qI v3)), s2))))) qE0) else
  l_X8_taskInOrder_31  rk7 qFU v1 v2 v3 v4 (-1 : Int32) ((s0 27 0 0) - (1 : Int32)) s0)
def l_X8_taskInOrder_7 : Nat → Int32 → Int32 → Int32 → Int32 → qS → Option qO
  | 0, _, _, _, _, _ => none
  | n + 1, v1, v2, v3, v4, s0 => b_X8_taskInOrder_7  (l_X8_taskInOrder_7  n) v1 v2 v3 v4 s0
def f_X8_taskInOrder (a1 : Int32) (s0 : qS) : Option qO :=
  l_X8_taskInOrder_7  qFU a1 (0 : Int32) (-1 : Int32) (0 : Int32) s0
def b_X8_work_4 (rk4 : Int32 → Int32 → Int32 → qS → Option qO) (v1 : Int32) (v2 : Int32) (v3 : Int32) (s0 : qS) : Option qO :=
  (if (s0 27 0 0) ≤ v3 then qbind (f_X8_isResource v1 s0) (qvI (fun r1 s1 =>
  qbind (f_X8_goes r1 s1) (qvI (fun r2 s2 =>
  (if r2 = 0 then (some (.inl (some (qI (0 : Int32))), s2)) else
  (some (.inl (some (qI v2)), s2))))) qE0)) qE0 else
  qbind (f_X8_of v3 (1 : Int32) s0) (qvI (fun r3 s3 =>
  (if r3 = v1 then qbind (f_X8_of v3 (0 : Int32) s3) (qvI (fun r4 s4 =>
  qbind (f_X8_of v3 (2 : Int32) s4) (qvI (fun r5 s5 =>
  rk4 v1 (v2 + (r4 * r5)) (v3 + (1 : Int32)) s5)) qE0)) qE0 else
  rk4 v1 (v2 + (0 : Int32)) (v3 + (1 : Int32)) s3))) qE0)
def l_X8_work_4 : Nat → Int32 → Int32 → Int32 → qS → Option qO
  | 0, _, _, _, _ => none
  | n + 1, v1, v2, v3, s0 => b_X8_work_4  (l_X8_work_4  n) v1 v2 v3 s0
def f_X8_work (a1 : Int32) (s0 : qS) : Option qO :=
  l_X8_work_4  qFU a1 (0 : Int32) (0 : Int32) s0
def f_X8_workload (a1 : Int32) (s0 : qS) : Option qO :=
  qbind (f_X8_work a1 s0) (qvI (fun r1 s1 =>
  (some (.inl (some (qI r1)), s1)))) qE0
def f_X8_workloadByDays (a1 : Int32) (s0 : qS) : Option qO :=
  qbind (f_X8_work a1 s0) (qvI (fun r1 s1 =>
  (some (.inl (some (qI r1)), s1)))) qE0
def f_X8_hasBaseline  (s0 : qS) : Option qO :=
  qlet (qu s0 26 0 17 (0 : Int32)) (fun s1 =>
  (if (s1 27 0 1) = (1 : Int32) then (some (.inl (some (qI (1 : Int32))), s1)) else
  (some (.inl (some (qI (0 : Int32))), s1))))
def f_X8_baselineStart (a1 : Int32) (s0 : qS) : Option qO :=
  qbind (f_X8_isTask a1 s0) (qvI (fun r1 s1 =>
  qbind (f_X8_of a1 (5 : Int32) s1) (qvI (fun r2 s2 =>
  (if r2 = (-1 : Int32) then qbind (f_X8_holds r1 (0 : Int32) (1 : Int32) s2) (qvI (fun r3 s3 =>
  (if r3 = 0 then (some (.inl (some (qI (0 : Int32))), s3)) else
  qbind (f_X8_of a1 (5 : Int32) s3) (qvI (fun r4 s4 =>
  (some (.inl (some (qI r4)), s4)))) qE0))) qE0 else
  qbind (f_X8_holds r1 (1 : Int32) (1 : Int32) s2) (qvI (fun r5 s5 =>
  (if r5 = 0 then (some (.inl (some (qI (0 : Int32))), s5)) else
  qbind (f_X8_of a1 (5 : Int32) s5) (qvI (fun r6 s6 =>
  (some (.inl (some (qI r6)), s6)))) qE0))) qE0))) qE0)) qE0
def f_X8_isConsistent  (s0 : qS) : Option qO :=
  qlet (qu s0 26 0 17 (0 : Int32)) (fun s1 =>
  (some (.inl (some (qI (1 : Int32))), s1)))
def f_X8_put (a1 : Int32) (a2 : Int32) (s0 : qS) : Option qO :=
  (if qin a1 600 then qlet (qu s0 36 0 (a1).toNatClampNeg a2) (fun s1 =>
  (some (.inl (some (qI (a1 + (1 : Int32)))), s1))) else none)
def b_X8_writesNumber_28 (rk28 : Int32 → Int32 → Int32 → qS → Option qO) (v2 : Int32) (v3 : Int32) (v5 : Int32) (s0 : qS) : Option qO :=
  (if v5 ≤ 0 then (some (.inl (some (qI v3)), s0)) else
  (if v5 = 0 then none else qbind (f_X8_put v3 ((48 : Int32) + ((v2 / v5) - (v2 / v5) / (10 : Int32) * (10 : Int32))) s0) (qvI (fun r1 s1 =>
  rk28 v2 r1 (v5 / (10 : Int32)) s1)) qE0))
def l_X8_writesNumber_28 : Nat → Int32 → Int32 → Int32 → qS → Option qO
  | 0, _, _, _, _ => none
  | n + 1, v2, v3, v5, s0 => b_X8_writesNumber_28  (l_X8_writesNumber_28  n) v2 v3 v5 s0
def b_X8_writesNumber_5 (rk5 : Int32 → Int32 → Int32 → qS → Option qO) (v2 : Int32) (v3 : Int32) (v4 : Int32) (s0 : qS) : Option qO :=
  (if v4 = 0 then none else (if (v2 / v4) ≤ (9 : Int32) then l_X8_writesNumber_28  qFU v2 v3 v4 s0 else
  rk5 v2 v3 (v4 * (10 : Int32)) s0))
def l_X8_writesNumber_5 : Nat → Int32 → Int32 → Int32 → qS → Option qO
  | 0, _, _, _, _ => none
  | n + 1, v2, v3, v4, s0 => b_X8_writesNumber_5  (l_X8_writesNumber_5  n) v2 v3 v4 s0
def f_X8_writesNumber (a1 : Int32) (a2 : Int32) (s0 : qS) : Option qO :=
  l_X8_writesNumber_5  qFU a2 a1 (1 : Int32) s0
def f_X8_outputAt (a1 : Int32) (s0 : qS) : Option qO :=
  qbind (f_X8_isIn a1 (0 : Int32) ((s0 26 0 16) - (1 : Int32)) s0) (qvI (fun r1 s1 =>
  qbind (f_X8_goes r1 s1) (qvI (fun r2 s2 =>
  (if r2 = 0 then (some (.inl (some (qI (0 : Int32))), s2)) else
  (if qin a1 600 then (if qch (((s2 36 0 (a1).toNatClampNeg).toUInt32 % 65536).toInt32) then some (.inl (some (qI (((s2 36 0 (a1).toNatClampNeg).toUInt32 % 65536).toInt32))), s2) else none) else none)))) qE0)) qE0
def j_X8_type_23 (v1 : Int32) (w1 : Int32) (w2 : Int32) (s0 : qS) : Option qO :=
  qbind (f_X8_holds w1 w2 (1 : Int32) s0) (qvI (fun r2 s2 =>
  (if r2 = 0 then (some (.inl (some (qI (0 : Int32))), s2)) else
  (if qin (s2 26 0 14) 60 then qlet (qu s2 35 0 ((s2 26 0 14)).toNatClampNeg v1) (fun s3 =>
  qlet (qu s3 26 0 14 ((s3 26 0 14) + (1 : Int32))) (fun s4 =>
  (some (.inl (some (qI (s4 26 0 14))), s4)))) else none)))) qE0
def f_X8_type (a1 : Int32) (s0 : qS) : Option qO :=
  qbind (f_X8_isIn a1 (32 : Int32) (126 : Int32) s0) (qvI (fun r1 s1 =>
  (if (60 : Int32) ≤ (s1 26 0 14) then j_X8_type_23  a1 r1 (0 : Int32) s1 else
  j_X8_type_23  a1 r1 (1 : Int32) s1))) qE0
def f_X8_letterHere  (s0 : qS) : Option qO :=
  (if (s0 26 0 18) ≤ (s0 26 0 19) then (some (.inl (some (qI (-1 : Int32))), s0)) else
  (if qin (s0 26 0 19) 60 then (some (.inl (some (qI (s0 35 0 ((s0 26 0 19)).toNatClampNeg))), s0)) else none))
def j_X8_reads_44 (s0 : qS) : Option qO :=
  (if (s0 26 0 20) = (-1 : Int32) then qlet (qu s0 26 0 20 (s0 26 0 19)) (fun s3 =>
  (some (.inl (some (qI (0 : Int32))), s3))) else
  qlet (qu s0 26 0 20 (s0 26 0 20)) (fun s4 =>
  (some (.inl (some (qI (0 : Int32))), s4))))
def f_X8_reads (a1 : Int32) (a2 : Int32) (s0 : qS) : Option qO :=
  (if (s0 26 0 20) = (-1 : Int32) then qbind (f_X8_letterHere  s0) (qvI (fun r1 s1 =>
  qbind (f_X8_isIn r1 a1 a2 s1) (qvI (fun r2 s2 =>
  (if r2 = 0 then j_X8_reads_44   s2 else
  qlet (qu s2 26 0 19 ((s2 26 0 19) + (1 : Int32))) (fun s5 =>
  (if qin ((s5 26 0 19) - (1 : Int32)) 60 then (some (.inl (some (qI ((s5 35 0 (((s5 26 0 19) - (1 : Int32))).toNatClampNeg) - a1))), s5)) else none))))) qE0)) qE0 else
  j_X8_reads_44   s0)
def f_X8_digit  (s0 : qS) : Option qO :=
  qbind (f_X8_reads (48 : Int32) (57 : Int32) s0) (qvI (fun r1 s1 =>
  (some (.inl (some (qI r1)), s1)))) qE0
def f_X8_number  (s0 : qS) : Option qO :=
  qbind (f_X8_digit  s0) (qvI (fun r1 s1 =>
  (if (s1 26 0 20) = (-1 : Int32) then qbind (f_X8_letterHere  s1) (qvI (fun r2 s2 =>
  qbind (f_X8_isIn r2 (48 : Int32) (57 : Int32) s2) (qvI (fun r3 s3 =>
  (if r3 = 0 then (some (.inl (some (qI r1)), s3)) else
  qbind (f_X8_digit  s3) (qvI (fun r4 s4 =>
  (some (.inl (some (qI (((10 : Int32) * r1) + r4))), s4)))) qE0))) qE0)) qE0 else
  (some (.inl (some (qI r1)), s1))))) qE0
def f_X8_sign (a1 : Int32) (s0 : qS) : Option qO :=
  qbind (f_X8_reads a1 a1 s0) (qvI (fun r1 s1 =>
  (some (.inl none, s1)))) qE0
def f_X8_startOf (a1 : Int32) (s0 : qS) : Option qO :=
  (qsw a1 0 [(some (.inl (some (qI ((5 : Int32) * a1))), s0)),
  (some (.inl (some (qI ((5 : Int32) * a1))), s0)),
  (some (.inl (some (qI ((5 : Int32) * a1))), s0)),
  (some (.inl (some (qI ((5 : Int32) * a1))), s0)),
  (some (.inl (some (qI (22 : Int32))), s0)),
  (some (.inl (some (qI (28 : Int32))), s0)),
  (some (.inl (some (qI (35 : Int32))), s0)),
  (some (.inl (some (qI (41 : Int32))), s0))] ((some (.inl (some (qI (45 : Int32))), s0))))
def j_X8_kindHere_135 (v2 : Int32) (w1 : Int32) (s0 : qS) : Option qO :=
  qlet (qu s0 26 0 20 w1) (fun s1 =>
  (if v2 = (-1 : Int32) then qlet (qu s1 26 0 19 ((s1 26 0 19) + (0 : Int32))) (fun s2 =>
  (some (.inl (some (qI v2)), s2))) else
  qbind (f_X8_startOf (v2 + (1 : Int32)) s1) (qvI (fun r1 s3 =>
  qbind (f_X8_startOf v2 s3) (qvI (fun r2 s4 =>
  qlet (qu s4 26 0 19 ((s1 26 0 19) + (r1 - r2))) (fun s5 =>
  (some (.inl (some (qI v2)), s5))))) qE0)) qE0))
def j_X8_kindHere_90 (rk9 : Int32 → Int32 → Int32 → qS → Option qO) (v1 : Int32) (v2 : Int32) (v3 : Int32) (v4 : Int32) (v5 : Int32) (s0 : qS) : Option qO :=
  (if v5 = v4 then rk9 (qmax v1 ((s0 26 0 19) + v5)) v3 (v3 + (1 : Int32)) s0 else
  rk9 (qmax v1 ((s0 26 0 19) + v5)) v2 (v3 + (1 : Int32)) s0)
def b_X8_kindHere_36 (rk9 : Int32 → Int32 → Int32 → qS → Option qO) (rk36 : Int32 → Int32 → Int32 → Int32 → Int32 → qS → Option qO) (v1 : Int32) (v2 : Int32) (v3 : Int32) (v4 : Int32) (v5 : Int32) (s0 : qS) : Option qO :=
  (if v4 ≤ v5 then j_X8_kindHere_90  rk9 v1 v2 v3 v4 v5 s0 else
  (if (s0 26 0 18) ≤ ((s0 26 0 19) + v5) then j_X8_kindHere_90  rk9 v1 v2 v3 v4 v5 s0 else
  (if qin ((s0 26 0 19) + v5) 60 then qbind (f_X8_startOf v3 s0) (qvI (fun r5 s8 =>
  qbind (f_J0_charAt_5068e 8 (r5 + v5) s8) (qvI (fun r6 s9 =>
  (if (s0 35 0 (((s0 26 0 19) + v5)).toNatClampNeg) = r6 then rk36 v1 v2 v3 v4 (v5 + (1 : Int32)) s9 else
  j_X8_kindHere_90  rk9 v1 v2 v3 v4 v5 s9))) qE0)) qE0 else none)))
def l_X8_kindHere_36 (rk9 : Int32 → Int32 → Int32 → qS → Option qO) : Nat → Int32 → Int32 → Int32 → Int32 → Int32 → qS → Option qO
  | 0, _, _, _, _, _, _ => none
  | n + 1, v1, v2, v3, v4, v5, s0 => b_X8_kindHere_36  rk9 (l_X8_kindHere_36  rk9 n) v1 v2 v3 v4 v5 s0
def b_X8_kindHere_9 (rk9 : Int32 → Int32 → Int32 → qS → Option qO) (v1 : Int32) (v2 : Int32) (v3 : Int32) (s0 : qS) : Option qO :=
  (if (8 : Int32) ≤ v3 then (if v2 = (-1 : Int32) then j_X8_kindHere_135  v2 v1 s0 else
  j_X8_kindHere_135  v2 (s0 26 0 20) s0) else
  (if v2 = (-1 : Int32) then qbind (f_X8_startOf (v3 + (1 : Int32)) s0) (qvI (fun r3 s6 =>
  qbind (f_X8_startOf v3 s6) (qvI (fun r4 s7 =>
  l_X8_kindHere_36  rk9 qFU v1 v2 v3 (r3 - r4) (0 : Int32) s7)) qE0)) qE0 else
  (if v2 = (-1 : Int32) then j_X8_kindHere_135  v2 v1 s0 else
  j_X8_kindHere_135  v2 (s0 26 0 20) s0)))
def l_X8_kindHere_9 : Nat → Int32 → Int32 → Int32 → qS → Option qO
  | 0, _, _, _, _ => none
  | n + 1, v1, v2, v3, s0 => b_X8_kindHere_9  (l_X8_kindHere_9  n) v1 v2 v3 s0
def f_X8_kindHere  (s0 : qS) : Option qO :=
  l_X8_kindHere_9  qFU (s0 26 0 19) (-1 : Int32) (0 : Int32) s0
def b_X8_readsTask_2 (rk2 : Int32 → Int32 → qS → Option qO) (v1 : Int32) (v2 : Int32) (s0 : qS) : Option qO :=
  (if (4 : Int32) ≤ v2 then qbind (f_X8_number  s0) (qvI (fun r1 s1 =>
  (if qin (v1 + (4 : Int32)) 150 then qlet (qu s1 37 0 ((v1 + (4 : Int32))).toNatClampNeg r1) (fun s2 =>
  (some (.inl none, s2))) else none))) qE0 else
  qbind (f_X8_digit  s0) (qvI (fun r2 s3 =>
  (if qin (v1 + v2) 150 then qlet (qu s3 37 0 ((v1 + v2)).toNatClampNeg r2) (fun s4 =>
  qbind (f_X8_sign (32 : Int32) s4) (qvV (fun s5 =>
  rk2 v1 (v2 + (1 : Int32)) s5)) qE0) else none))) qE0)
def l_X8_readsTask_2 : Nat → Int32 → Int32 → qS → Option qO
  | 0, _, _, _ => none
  | n + 1, v1, v2, s0 => b_X8_readsTask_2  (l_X8_readsTask_2  n) v1 v2 s0
def f_X8_readsTask (a1 : Int32) (s0 : qS) : Option qO :=
  l_X8_readsTask_2  qFU a1 (1 : Int32) s0
def j_X8_readsCommand_96 (v1 : Int32) (v2 : Int32) (w1 : Int32) (s0 : qS) : Option qO :=
  qbind (f_X8_sign w1 s0) (qvV (fun s7 =>
  (if v2 = (5 : Int32) then qbind (f_X8_digit  s7) (qvI (fun r3 s8 =>
  (if qin (v1 + (2 : Int32)) 150 then qlet (qu s8 37 0 ((v1 + (2 : Int32))).toNatClampNeg r3) (fun s9 =>
  (some (.inl none, s9))) else none))) qE0 else
  qbind (f_X8_number  s7) (qvI (fun r4 s10 =>
  (if qin (v1 + (2 : Int32)) 150 then qlet (qu s10 37 0 ((v1 + (2 : Int32))).toNatClampNeg r4) (fun s11 =>
  (some (.inl none, s11))) else none))) qE0))) qE0
def j_X8_readsCommand_77 (v1 : Int32) (v2 : Int32) (w1 : Int32) (w2 : Int32) (s0 : qS) : Option qO :=
  (if qin w1 150 then qlet (qu s0 37 0 (w1).toNatClampNeg w2) (fun s6 =>
  (if v2 ≤ (1 : Int32) then (some (.inl none, s6)) else
  (if (4 : Int32) ≤ v2 then j_X8_readsCommand_96  v1 v2 (32 : Int32) s6 else
  j_X8_readsCommand_96  v1 v2 (62 : Int32) s6))) else none)
def f_X8_readsCommand  (s0 : qS) : Option qO :=
  qbind (f_X8_kindHere  s0) (qvI (fun r1 s1 =>
  (if qin ((5 : Int32) * (s0 26 0 21)) 150 then qlet (qu s1 37 0 (((5 : Int32) * (s0 26 0 21))).toNatClampNeg r1) (fun s2 =>
  qlet (qu s2 26 0 21 ((s2 26 0 21) + (1 : Int32))) (fun s3 =>
  (if (s3 26 0 20) = (-1 : Int32) then (if r1 = (7 : Int32) then (some (.inl none, s3)) else
  (if r1 = 0 then qbind (f_X8_readsTask ((5 : Int32) * (s0 26 0 21)) s3) (qvV (fun s4 =>
  (some (.inl none, s4)))) qE0 else
  (if r1 = (4 : Int32) then qbind (f_X8_digit  s3) (qvI (fun r2 s5 =>
  j_X8_readsCommand_77  ((5 : Int32) * (s0 26 0 21)) r1 (((5 : Int32) * (s0 26 0 21)) + (1 : Int32)) r2 s5)) qE0 else
  qbind (f_X8_number  s3) (qvI (fun r5 s12 =>
  j_X8_readsCommand_77  ((5 : Int32) * (s0 26 0 21)) r1 (((5 : Int32) * (s0 26 0 21)) + (1 : Int32)) r5 s12)) qE0))) else
  (some (.inl none, s3))))) else none))) qE0
def b_X8_readsAll_32 (rk32 : qS → Option qO) (s0 : qS) : Option qO :=
  (if (s0 26 0 20) = (-1 : Int32) then (if (s0 26 0 18) ≤ (s0 26 0 19) then (some (.inl none, s0)) else
  qbind (f_X8_sign (59 : Int32) s0) (qvV (fun s7 =>
  (if (s7 26 0 20) = (-1 : Int32) then qbind (f_X8_readsCommand  s7) (qvV (fun s8 =>
  rk32  s8)) qE0 else
  rk32  s7))) qE0) else
  (some (.inl none, s0)))
def l_X8_readsAll_32 : Nat → qS → Option qO
  | 0, _ => none
  | n + 1, s0 => b_X8_readsAll_32  (l_X8_readsAll_32  n) s0
def f_X8_readsAll  (s0 : qS) : Option qO :=
  qlet (qu s0 26 0 18 (s0 26 0 14)) (fun s1 =>
  qlet (qu s1 26 0 14 (0 : Int32)) (fun s2 =>
  qlet (qu s2 26 0 19 (0 : Int32)) (fun s3 =>
  qlet (qu s3 26 0 20 (-1 : Int32)) (fun s4 =>
  qlet (qu s4 26 0 21 (0 : Int32)) (fun s5 =>
  qbind (f_X8_readsCommand  s5) (qvV (fun s6 =>
  l_X8_readsAll_32  qFU  s6)) qE0)))))
def f_X8_letterFor (a1 : Int32) (s0 : qS) : Option qO :=
  (if a1 = 0 then (if (s0 26 0 17) = (1 : Int32) then (some (.inl (some (qI (97 : Int32))), s0)) else
  (some (.inl (some (qI (115 : Int32))), s0))) else
  (if a1 = (4 : Int32) then (some (.inl (some (qI (97 : Int32))), s0)) else
  (if (s0 26 0 17) = (1 : Int32) then (some (.inl (some (qI (105 : Int32))), s0)) else
  (if (s0 26 0 17) = (2 : Int32) then (some (.inl (some (qI (97 : Int32))), s0)) else
  (some (.inl (some (qI (117 : Int32))), s0))))))
def f_X8_errorPosition  (s0 : qS) : Option qO :=
  (if (s0 26 0 6) = (-1 : Int32) then qbind (f_X8_goes (0 : Int32) s0) (qvI (fun r1 s1 =>
  (if r1 = 0 then (some (.inl (some (qI (0 : Int32))), s1)) else
  (some (.inl (some (qI (s1 26 0 6))), s1))))) qE0 else
  qbind (f_X8_goes (1 : Int32) s0) (qvI (fun r2 s2 =>
  (if r2 = 0 then (some (.inl (some (qI (0 : Int32))), s2)) else
  (some (.inl (some (qI (s2 26 0 6))), s2))))) qE0)
def f_X8_failedCommand  (s0 : qS) : Option qO :=
  (if (s0 26 0 7) = (-1 : Int32) then qbind (f_X8_goes (0 : Int32) s0) (qvI (fun r1 s1 =>
  (if r1 = 0 then (some (.inl (some (qI (0 : Int32))), s1)) else
  (some (.inl (some (qI (s1 26 0 7))), s1))))) qE0 else
  qbind (f_X8_goes (1 : Int32) s0) (qvI (fun r2 s2 =>
  (if r2 = 0 then (some (.inl (some (qI (0 : Int32))), s2)) else
  (some (.inl (some (qI (s2 26 0 7))), s2))))) qE0)
def f_X8_failureReason  (s0 : qS) : Option qO :=
  (if (s0 26 0 7) = (-1 : Int32) then qbind (f_X8_goes (0 : Int32) s0) (qvI (fun r1 s1 =>
  (if r1 = 0 then (some (.inl (some (qI (0 : Int32))), s1)) else
  (if qch (((s1 26 0 8).toUInt32 % 65536).toInt32) then some (.inl (some (qI (((s1 26 0 8).toUInt32 % 65536).toInt32))), s1) else none)))) qE0 else
  qbind (f_X8_goes (1 : Int32) s0) (qvI (fun r2 s2 =>
  (if r2 = 0 then (some (.inl (some (qI (0 : Int32))), s2)) else
  (if qch (((s2 26 0 8).toUInt32 % 65536).toInt32) then some (.inl (some (qI (((s2 26 0 8).toUInt32 % 65536).toInt32))), s2) else none)))) qE0)
def b_X8_starts_131 (rk119 : Int32 → qS → Option qO) (rk131 : Int32 → Int32 → qS → Option qO) (v2 : Int32) (v3 : Int32) (s0 : qS) : Option qO :=
  (if (s0 27 0 0) ≤ v3 then rk119 (v2 + (1 : Int32)) s0 else
  qbind (f_X8_puts v3 s0) (qvV (fun s2 =>
  rk131 v2 (v3 + (1 : Int32)) s2)) qE0)
def l_X8_starts_131 (rk119 : Int32 → qS → Option qO) : Nat → Int32 → Int32 → qS → Option qO
  | 0, _, _, _ => none
  | n + 1, v2, v3, s0 => b_X8_starts_131  rk119 (l_X8_starts_131  rk119 n) v2 v3 s0
def b_X8_starts_119 (rk119 : Int32 → qS → Option qO) (v2 : Int32) (s0 : qS) : Option qO :=
  (if (s0 27 0 0) ≤ v2 then (some (.inl none, s0)) else
  l_X8_starts_131  rk119 qFU v2 (0 : Int32) s0)
def l_X8_starts_119 : Nat → Int32 → qS → Option qO
  | 0, _, _ => none
  | n + 1, v2, s0 => b_X8_starts_119  (l_X8_starts_119  n) v2 s0
def b_X8_starts_87 (rk87 : Int32 → Int32 → qS → Option qO) (v1 : Int32) (v2 : Int32) (s0 : qS) : Option qO :=
  (if (s0 27 0 0) ≤ v2 then l_X8_starts_119  qFU (0 : Int32) s0 else
  qbind (f_X8_of v2 (0 : Int32) s0) (qvI (fun r2 s3 =>
  (if qin v2 12 then qlet (qu s3 32 0 (v2).toNatClampNeg (v1 - r2)) (fun s4 =>
  rk87 v1 (v2 + (1 : Int32)) s4) else none))) qE0)
def l_X8_starts_87 : Nat → Int32 → Int32 → qS → Option qO
  | 0, _, _, _ => none
  | n + 1, v1, v2, s0 => b_X8_starts_87  (l_X8_starts_87  n) v1 v2 s0
def b_X8_starts_39 (rk27 : Int32 → qS → Option qO) (rk39 : Int32 → Int32 → qS → Option qO) (v1 : Int32) (v2 : Int32) (s0 : qS) : Option qO :=
  (if (s0 27 0 0) ≤ v2 then rk27 (v1 + (1 : Int32)) s0 else
  qbind (f_X8_soonest v2 31 0 s0) (qvI (fun r3 s5 =>
  (if qin v2 12 then qlet (qu s5 31 0 (v2).toNatClampNeg r3) (fun s6 =>
  rk39 v1 (v2 + (1 : Int32)) s6) else none))) qE0)
def l_X8_starts_39 (rk27 : Int32 → qS → Option qO) : Nat → Int32 → Int32 → qS → Option qO
  | 0, _, _, _ => none
  | n + 1, v1, v2, s0 => b_X8_starts_39  rk27 (l_X8_starts_39  rk27 n) v1 v2 s0
def b_X8_starts_27 (rk27 : Int32 → qS → Option qO) (v1 : Int32) (s0 : qS) : Option qO :=
  (if (s0 27 0 0) ≤ v1 then qbind (f_X8_lastOf 31 0 s0) (qvI (fun r1 s1 =>
  l_X8_starts_87  qFU r1 (0 : Int32) s1)) qE0 else
  l_X8_starts_39  rk27 qFU v1 (0 : Int32) s0)
def l_X8_starts_27 : Nat → Int32 → qS → Option qO
  | 0, _, _ => none
  | n + 1, v1, s0 => b_X8_starts_27  (l_X8_starts_27  n) v1 s0
def b_X8_starts_2 (rk2 : Int32 → qS → Option qO) (v1 : Int32) (s0 : qS) : Option qO :=
  (if (s0 27 0 0) ≤ v1 then l_X8_starts_27  qFU (0 : Int32) s0 else
  (if qin v1 12 then qlet (qu s0 31 0 (v1).toNatClampNeg (0 : Int32)) (fun s7 =>
  rk2 (v1 + (1 : Int32)) s7) else none))
def l_X8_starts_2 : Nat → Int32 → qS → Option qO
  | 0, _, _ => none
  | n + 1, v1, s0 => b_X8_starts_2  (l_X8_starts_2  n) v1 s0
def f_X8_starts  (s0 : qS) : Option qO :=
  l_X8_starts_2  qFU (0 : Int32) s0
def b_X8_levels_169 (rk30 : Int32 → Int32 → qS → Option qO) (rk169 : Int32 → Int32 → Int32 → Int32 → Int32 → qS → Option qO) (v1 : Int32) (v2 : Int32) (v3 : Int32) (v4 : Int32) (v5 : Int32) (s0 : qS) : Option qO :=
  qbind (f_X8_of v3 (0 : Int32) s0) (qvI (fun r3 s5 =>
  (if r3 ≤ v5 then rk30 v1 (v2 + (1 : Int32)) s5 else
  qbind (f_X8_of v3 (1 : Int32) s5) (qvI (fun r4 s6 =>
  (if qin ((((160 : Int32) * r4) + v4) + v5) 480 then qbind (f_X8_of v3 (2 : Int32) s6) (qvI (fun r5 s7 =>
  (if qin ((((160 : Int32) * r4) + v4) + v5) 480 then qlet (qu s7 34 0 (((((160 : Int32) * r4) + v4) + v5)).toNatClampNeg ((s6 34 0 (((((160 : Int32) * r4) + v4) + v5)).toNatClampNeg) + r5)) (fun s8 =>
  rk169 v1 v2 v3 v4 (v5 + (1 : Int32)) s8) else none))) qE0 else none))) qE0))) qE0
def l_X8_levels_169 (rk30 : Int32 → Int32 → qS → Option qO) : Nat → Int32 → Int32 → Int32 → Int32 → Int32 → qS → Option qO
  | 0, _, _, _, _, _, _ => none
  | n + 1, v1, v2, v3, v4, v5, s0 => b_X8_levels_169  rk30 (l_X8_levels_169  rk30 n) v1 v2 v3 v4 v5 s0
def b_X8_levels_136 (rk30 : Int32 → Int32 → qS → Option qO) (rk136 : Int32 → Int32 → Int32 → Int32 → qS → Option qO) (v1 : Int32) (v2 : Int32) (v3 : Int32) (v4 : Int32) (s0 : qS) : Option qO :=
  qbind (f_X8_hasRoom v3 v4 s0) (qvI (fun r2 s3 =>
  (if r2 = 0 then rk136 v1 v2 v3 (v4 + (1 : Int32)) s3 else
  (if qin v3 12 then qlet (qu s3 33 0 (v3).toNatClampNeg v4) (fun s4 =>
  l_X8_levels_169  rk30 qFU (v1 ||| ((1 : Int32) <<< (v3 &&& 31))) v2 v3 v4 (0 : Int32) s4) else none)))) qE0
def l_X8_levels_136 (rk30 : Int32 → Int32 → qS → Option qO) : Nat → Int32 → Int32 → Int32 → Int32 → qS → Option qO
  | 0, _, _, _, _, _ => none
  | n + 1, v1, v2, v3, v4, s0 => b_X8_levels_136  rk30 (l_X8_levels_136  rk30 n) v1 v2 v3 v4 s0
def j_X8_levels_84 (rk30 : Int32 → Int32 → qS → Option qO) (rk45 : Int32 → Int32 → Int32 → Int32 → qS → Option qO) (v1 : Int32) (v2 : Int32) (v3 : Int32) (v4 : Int32) (w0 : Int32) (s0 : qS) : Option qO :=
  (if w0 = 0 then rk45 v1 v2 v3 (v4 + (1 : Int32)) s0 else
  (if v3 = (-1 : Int32) then rk45 v1 v2 v4 (v4 + (1 : Int32)) s0 else
  (if qin v4 12 then (if qin v3 12 then (if (s0 32 0 (v3).toNatClampNeg) ≤ (s0 32 0 (v4).toNatClampNeg) then rk45 v1 v2 v3 (v4 + (1 : Int32)) s0 else
  rk45 v1 v2 v4 (v4 + (1 : Int32)) s0) else none) else none)))
def b_X8_levels_45 (rk30 : Int32 → Int32 → qS → Option qO) (rk45 : Int32 → Int32 → Int32 → Int32 → qS → Option qO) (v1 : Int32) (v2 : Int32) (v3 : Int32) (v4 : Int32) (s0 : qS) : Option qO :=
  (if (s0 27 0 0) ≤ v4 then qbind (f_X8_soonest v3 33 0 s0) (qvI (fun r1 s2 =>
  l_X8_levels_136  rk30 qFU v1 v2 v3 r1 s2)) qE0 else
  (if ((v1 >>> (v4 &&& 31)) &&& (1 : Int32)) = 0 then qbind (f_X8_of v4 (4 : Int32) s0) (qvI (fun r6 s9 =>
  (if (r6 &&& (v1 ^^^ (-1 : Int32))) = 0 then j_X8_levels_84  rk30 rk45 v1 v2 v3 v4 (1 : Int32) s9 else
  j_X8_levels_84  rk30 rk45 v1 v2 v3 v4 (0 : Int32) s9))) qE0 else
  j_X8_levels_84  rk30 rk45 v1 v2 v3 v4 (0 : Int32) s0))
def l_X8_levels_45 (rk30 : Int32 → Int32 → qS → Option qO) : Nat → Int32 → Int32 → Int32 → Int32 → qS → Option qO
  | 0, _, _, _, _, _ => none
  | n + 1, v1, v2, v3, v4, s0 => b_X8_levels_45  rk30 (l_X8_levels_45  rk30 n) v1 v2 v3 v4 s0
def b_X8_levels_30 (rk30 : Int32 → Int32 → qS → Option qO) (v1 : Int32) (v2 : Int32) (s0 : qS) : Option qO :=
  (if (s0 27 0 0) ≤ v2 then (some (.inl none, s0)) else
  l_X8_levels_45  rk30 qFU v1 v2 (-1 : Int32) (0 : Int32) s0)
def l_X8_levels_30 : Nat → Int32 → Int32 → qS → Option qO
  | 0, _, _, _ => none
  | n + 1, v1, v2, s0 => b_X8_levels_30  (l_X8_levels_30  n) v1 v2 s0
def b_X8_levels_6 (rk6 : Int32 → qS → Option qO) (v1 : Int32) (s0 : qS) : Option qO :=
  (if (480 : Int32) ≤ v1 then l_X8_levels_30  qFU (0 : Int32) (0 : Int32) s0 else
  (if qin v1 480 then qlet (qu s0 34 0 (v1).toNatClampNeg (0 : Int32)) (fun s10 =>
  rk6 (v1 + (1 : Int32)) s10) else none))
def l_X8_levels_6 : Nat → Int32 → qS → Option qO
  | 0, _, _ => none
  | n + 1, v1, s0 => b_X8_levels_6  (l_X8_levels_6  n) v1 s0
def f_X8_levels  (s0 : qS) : Option qO :=
  qbind (f_X8_starts  s0) (qvV (fun s1 =>
  l_X8_levels_6  qFU (0 : Int32) s1)) qE0
def f_X8_early (a1 : Int32) (s0 : qS) : Option qO :=
  qbind (f_X8_starts  s0) (qvV (fun s1 =>
  qbind (f_X8_isTask a1 s1) (qvI (fun r1 s2 =>
  qbind (f_X8_goes r1 s2) (qvI (fun r2 s3 =>
  (if r2 = 0 then (some (.inl (some (qI (0 : Int32))), s3)) else
  (if qin a1 12 then (some (.inl (some (qI (s3 31 0 (a1).toNatClampNeg))), s3)) else none)))) qE0)) qE0)) qE0
def f_X8_earliestStart (a1 : Int32) (s0 : qS) : Option qO :=
  qbind (f_X8_early a1 s0) (qvI (fun r1 s1 =>
  (some (.inl (some (qI r1)), s1)))) qE0
def f_X8_earliestStartByRounds (a1 : Int32) (s0 : qS) : Option qO :=
  qbind (f_X8_early a1 s0) (qvI (fun r1 s1 =>
  (some (.inl (some (qI r1)), s1)))) qE0
def f_X8_latestStart (a1 : Int32) (s0 : qS) : Option qO :=
  qbind (f_X8_starts  s0) (qvV (fun s1 =>
  qbind (f_X8_isTask a1 s1) (qvI (fun r1 s2 =>
  qbind (f_X8_goes r1 s2) (qvI (fun r2 s3 =>
  (if r2 = 0 then (some (.inl (some (qI (0 : Int32))), s3)) else
  (if qin a1 12 then (some (.inl (some (qI (s3 32 0 (a1).toNatClampNeg))), s3)) else none)))) qE0)) qE0)) qE0
def f_X8_slack (a1 : Int32) (s0 : qS) : Option qO :=
  qbind (f_X8_starts  s0) (qvV (fun s1 =>
  qbind (f_X8_isTask a1 s1) (qvI (fun r1 s2 =>
  qbind (f_X8_goes r1 s2) (qvI (fun r2 s3 =>
  (if r2 = 0 then (some (.inl (some (qI (0 : Int32))), s3)) else
  (if qin a1 12 then (if qin a1 12 then (some (.inl (some (qI ((s3 32 0 (a1).toNatClampNeg) - (s3 31 0 (a1).toNatClampNeg)))), s3)) else none) else none)))) qE0)) qE0)) qE0
def f_X8_isCritical (a1 : Int32) (s0 : qS) : Option qO :=
  qbind (f_X8_starts  s0) (qvV (fun s1 =>
  qbind (f_X8_isTask a1 s1) (qvI (fun r1 s2 =>
  qbind (f_X8_goes r1 s2) (qvI (fun r2 s3 =>
  (if r2 = 0 then (some (.inl (some (qI (0 : Int32))), s3)) else
  (if qin a1 12 then (if qin a1 12 then (if (s3 32 0 (a1).toNatClampNeg) = (s3 31 0 (a1).toNatClampNeg) then (some (.inl (some (qI (1 : Int32))), s3)) else
  (some (.inl (some (qI (0 : Int32))), s3))) else none) else none)))) qE0)) qE0)) qE0
def f_X8_projectLength  (s0 : qS) : Option qO :=
  qlet (qu s0 26 0 17 (0 : Int32)) (fun s1 =>
  qbind (f_X8_starts  s1) (qvV (fun s2 =>
  qbind (f_X8_lastOf 31 0 s2) (qvI (fun r1 s3 =>
  (some (.inl (some (qI r1)), s3)))) qE0)) qE0)
def b_X8_criticalCount_13 (rk13 : Int32 → Int32 → qS → Option qO) (v1 : Int32) (v2 : Int32) (s0 : qS) : Option qO :=
  (if (s0 27 0 0) ≤ v2 then (some (.inl (some (qI v1)), s0)) else
  (if qin v2 12 then (if qin v2 12 then (if (s0 32 0 (v2).toNatClampNeg) = (s0 31 0 (v2).toNatClampNeg) then rk13 (v1 + (1 : Int32)) (v2 + (1 : Int32)) s0 else
  rk13 (v1 + (0 : Int32)) (v2 + (1 : Int32)) s0) else none) else none))
def l_X8_criticalCount_13 : Nat → Int32 → Int32 → qS → Option qO
  | 0, _, _, _ => none
  | n + 1, v1, v2, s0 => b_X8_criticalCount_13  (l_X8_criticalCount_13  n) v1 v2 s0
def f_X8_criticalCount  (s0 : qS) : Option qO :=
  qlet (qu s0 26 0 17 (0 : Int32)) (fun s1 =>
  qbind (f_X8_starts  s1) (qvV (fun s2 =>
  l_X8_criticalCount_13  qFU (0 : Int32) (0 : Int32) s2)) qE0)
def b_X8_lastTask_24 (rk24 : Int32 → Int32 → Int32 → qS → Option qO) (v1 : Int32) (v2 : Int32) (v3 : Int32) (s0 : qS) : Option qO :=
  (if v3 < 0 then (if v2 = (-1 : Int32) then qbind (f_X8_goes (0 : Int32) s0) (qvI (fun r2 s3 =>
  (if r2 = 0 then (some (.inl (some (qI (0 : Int32))), s3)) else
  (some (.inl (some (qI v2)), s3))))) qE0 else
  qbind (f_X8_goes (1 : Int32) s0) (qvI (fun r3 s4 =>
  (if r3 = 0 then (some (.inl (some (qI (0 : Int32))), s4)) else
  (some (.inl (some (qI v2)), s4))))) qE0) else
  (if qin v3 12 then qbind (f_X8_of v3 (0 : Int32) s0) (qvI (fun r4 s5 =>
  (if ((s0 31 0 (v3).toNatClampNeg) + r4) = v1 then rk24 v1 v3 (v3 + (-1 : Int32)) s5 else
  rk24 v1 v2 (v3 + (-1 : Int32)) s5))) qE0 else none))
def l_X8_lastTask_24 : Nat → Int32 → Int32 → Int32 → qS → Option qO
  | 0, _, _, _, _ => none
  | n + 1, v1, v2, v3, s0 => b_X8_lastTask_24  (l_X8_lastTask_24  n) v1 v2 v3 s0
def f_X8_lastTask  (s0 : qS) : Option qO :=
  qbind (f_X8_starts  s0) (qvV (fun s1 =>
  qbind (f_X8_lastOf 31 0 s1) (qvI (fun r1 s2 =>
  l_X8_lastTask_24  qFU r1 (-1 : Int32) ((s2 27 0 0) - (1 : Int32)) s2)) qE0)) qE0
def f_X8_levelledStart (a1 : Int32) (s0 : qS) : Option qO :=
  qbind (f_X8_levels  s0) (qvV (fun s1 =>
  qbind (f_X8_isTask a1 s1) (qvI (fun r1 s2 =>
  qbind (f_X8_goes r1 s2) (qvI (fun r2 s3 =>
  (if r2 = 0 then (some (.inl (some (qI (0 : Int32))), s3)) else
  (if qin a1 12 then (some (.inl (some (qI (s3 33 0 (a1).toNatClampNeg))), s3)) else none)))) qE0)) qE0)) qE0
def f_X8_levelledLength  (s0 : qS) : Option qO :=
  qlet (qu s0 26 0 17 (0 : Int32)) (fun s1 =>
  qbind (f_X8_levels  s1) (qvV (fun s2 =>
  qbind (f_X8_lastOf 33 0 s2) (qvI (fun r1 s3 =>
  (some (.inl (some (qI r1)), s3)))) qE0)) qE0)
def j_X8_usageOn_21 (v1 : Int32) (v2 : Int32) (w1 : Int32) (s0 : qS) : Option qO :=
  qbind (f_X8_goes w1 s0) (qvI (fun r2 s3 =>
  (if r2 = 0 then (some (.inl (some (qI (0 : Int32))), s3)) else
  (if (160 : Int32) ≤ v2 then (some (.inl (some (qI (0 : Int32))), s3)) else
  (if qin (((160 : Int32) * v1) + v2) 480 then (some (.inl (some (qI (s3 34 0 ((((160 : Int32) * v1) + v2)).toNatClampNeg))), s3)) else none))))) qE0
def f_X8_usageOn (a1 : Int32) (a2 : Int32) (s0 : qS) : Option qO :=
  qbind (f_X8_levels  s0) (qvV (fun s1 =>
  qbind (f_X8_isResource a1 s1) (qvI (fun r1 s2 =>
  (if r1 = 0 then j_X8_usageOn_21  a1 a2 (0 : Int32) s2 else
  (if a2 < 0 then j_X8_usageOn_21  a1 a2 (0 : Int32) s2 else
  j_X8_usageOn_21  a1 a2 (1 : Int32) s2)))) qE0)) qE0
def f_X8_usage (a1 : Int32) (a2 : Int32) (s0 : qS) : Option qO :=
  qbind (f_X8_usageOn a1 a2 s0) (qvI (fun r1 s1 =>
  (some (.inl (some (qI r1)), s1)))) qE0
def f_X8_usageByTasks (a1 : Int32) (a2 : Int32) (s0 : qS) : Option qO :=
  qbind (f_X8_usageOn a1 a2 s0) (qvI (fun r1 s1 =>
  (some (.inl (some (qI r1)), s1)))) qE0
def b_X8_peakUsage_21 (rk21 : Int32 → Int32 → Int32 → qS → Option qO) (v1 : Int32) (v2 : Int32) (v3 : Int32) (s0 : qS) : Option qO :=
  (if (160 : Int32) ≤ v3 then (some (.inl (some (qI v2)), s0)) else
  (if qin (((160 : Int32) * v1) + v3) 480 then rk21 v1 (qmax v2 (s0 34 0 ((((160 : Int32) * v1) + v3)).toNatClampNeg)) (v3 + (1 : Int32)) s0 else none))
def l_X8_peakUsage_21 : Nat → Int32 → Int32 → Int32 → qS → Option qO
  | 0, _, _, _, _ => none
  | n + 1, v1, v2, v3, s0 => b_X8_peakUsage_21  (l_X8_peakUsage_21  n) v1 v2 v3 s0
def f_X8_peakUsage (a1 : Int32) (s0 : qS) : Option qO :=
  qbind (f_X8_isResource a1 s0) (qvI (fun r1 s1 =>
  qbind (f_X8_goes r1 s1) (qvI (fun r2 s2 =>
  (if r2 = 0 then (some (.inl (some (qI (0 : Int32))), s2)) else
  qbind (f_X8_levels  s2) (qvV (fun s3 =>
  l_X8_peakUsage_21  qFU a1 (0 : Int32) (0 : Int32) s3)) qE0))) qE0)) qE0
def b_X8_tasksOn_26 (rk26 : Int32 → Int32 → Int32 → qS → Option qO) (v1 : Int32) (v2 : Int32) (v3 : Int32) (s0 : qS) : Option qO :=
  (if (s0 27 0 0) ≤ v3 then (some (.inl (some (qI v2)), s0)) else
  (if qin v3 12 then (if qin v3 12 then qbind (f_X8_of v3 (0 : Int32) s0) (qvI (fun r2 s3 =>
  qbind (f_X8_isIn v1 (s0 33 0 (v3).toNatClampNeg) (((s0 33 0 (v3).toNatClampNeg) + r2) - (1 : Int32)) s3) (qvI (fun r3 s4 =>
  (if r3 = 0 then rk26 v1 (v2 + (0 : Int32)) (v3 + (1 : Int32)) s4 else
  rk26 v1 (v2 + (1 : Int32)) (v3 + (1 : Int32)) s4))) qE0)) qE0 else none) else none))
def l_X8_tasksOn_26 : Nat → Int32 → Int32 → Int32 → qS → Option qO
  | 0, _, _, _, _ => none
  | n + 1, v1, v2, v3, s0 => b_X8_tasksOn_26  (l_X8_tasksOn_26  n) v1 v2 v3 s0
def f_X8_tasksOn (a1 : Int32) (s0 : qS) : Option qO :=
  (if a1 < 0 then qbind (f_X8_goes (0 : Int32) s0) (qvI (fun r1 s1 =>
  (if r1 = 0 then (some (.inl (some (qI (0 : Int32))), s1)) else
  qbind (f_X8_levels  s1) (qvV (fun s2 =>
  l_X8_tasksOn_26  qFU a1 (0 : Int32) (0 : Int32) s2)) qE0))) qE0 else
  qbind (f_X8_goes (1 : Int32) s0) (qvI (fun r4 s5 =>
  (if r4 = 0 then (some (.inl (some (qI (0 : Int32))), s5)) else
  qbind (f_X8_levels  s5) (qvV (fun s6 =>
  l_X8_tasksOn_26  qFU a1 (0 : Int32) (0 : Int32) s6)) qE0))) qE0)
def j_X8_drift_25 (v1 : Int32) (w1 : Int32) (w2 : Int32) (s0 : qS) : Option qO :=
  qbind (f_X8_holds w1 w2 (1 : Int32) s0) (qvI (fun r3 s4 =>
  (if r3 = 0 then (some (.inl (some (qI (0 : Int32))), s4)) else
  (if qin v1 12 then qbind (f_X8_of v1 (5 : Int32) s4) (qvI (fun r4 s5 =>
  (some (.inl (some (qI ((s4 33 0 (v1).toNatClampNeg) - r4))), s5)))) qE0 else none)))) qE0
def f_X8_drift (a1 : Int32) (s0 : qS) : Option qO :=
  qbind (f_X8_levels  s0) (qvV (fun s1 =>
  qbind (f_X8_isTask a1 s1) (qvI (fun r1 s2 =>
  qbind (f_X8_of a1 (5 : Int32) s2) (qvI (fun r2 s3 =>
  (if r2 = (-1 : Int32) then j_X8_drift_25  a1 r1 (0 : Int32) s3 else
  j_X8_drift_25  a1 r1 (1 : Int32) s3))) qE0)) qE0)) qE0
def b_X8_totalDrift_8 (rk8 : Int32 → Int32 → qS → Option qO) (v1 : Int32) (v2 : Int32) (s0 : qS) : Option qO :=
  (if (s0 27 0 0) ≤ v2 then (if (s0 27 0 1) = (1 : Int32) then qbind (f_X8_goes (1 : Int32) s0) (qvI (fun r1 s2 =>
  (if r1 = 0 then (some (.inl (some (qI (0 : Int32))), s2)) else
  (some (.inl (some (qI v1)), s2))))) qE0 else
  qbind (f_X8_goes (0 : Int32) s0) (qvI (fun r2 s3 =>
  (if r2 = 0 then (some (.inl (some (qI (0 : Int32))), s3)) else
  (some (.inl (some (qI v1)), s3))))) qE0) else
  qbind (f_X8_of v2 (5 : Int32) s0) (qvI (fun r3 s4 =>
  (if r3 = (-1 : Int32) then rk8 (v1 + (0 : Int32)) (v2 + (1 : Int32)) s4 else
  (if qin v2 12 then qbind (f_X8_of v2 (5 : Int32) s4) (qvI (fun r4 s5 =>
  rk8 (v1 + (qabs ((s4 33 0 (v2).toNatClampNeg) - r4))) (v2 + (1 : Int32)) s5)) qE0 else none)))) qE0)
def l_X8_totalDrift_8 : Nat → Int32 → Int32 → qS → Option qO
  | 0, _, _, _ => none
  | n + 1, v1, v2, s0 => b_X8_totalDrift_8  (l_X8_totalDrift_8  n) v1 v2 s0
def f_X8_totalDrift  (s0 : qS) : Option qO :=
  qbind (f_X8_levels  s0) (qvV (fun s1 =>
  l_X8_totalDrift_8  qFU (0 : Int32) (0 : Int32) s1)) qE0
def b_X8_taskBySlack_24 (rk8 : Int32 → Int32 → Int32 → qS → Option qO) (rk24 : Int32 → Int32 → Int32 → Int32 → Int32 → qS → Option qO) (v1 : Int32) (v2 : Int32) (v3 : Int32) (v4 : Int32) (v5 : Int32) (s0 : qS) : Option qO :=
  (if (s0 27 0 0) ≤ v5 then (if v4 = v1 then rk8 v1 v3 (v3 + (1 : Int32)) s0 else
  rk8 v1 v2 (v3 + (1 : Int32)) s0) else
  (if qin v3 12 then (if qin v3 12 then (if qin v5 12 then (if qin v5 12 then qbind (f_X8_of v5 (0 : Int32) s0) (qvI (fun r3 s4 =>
  qbind (f_X8_of v3 (0 : Int32) s4) (qvI (fun r4 s5 =>
  (if 0 < ((((s0 32 0 (v3).toNatClampNeg) - (s0 31 0 (v3).toNatClampNeg)) - (s0 32 0 (v5).toNatClampNeg)) + (s0 31 0 (v5).toNatClampNeg)) then rk24 v1 v2 v3 (v4 + (1 : Int32)) (v5 + (1 : Int32)) s5 else
  (if ((((s0 32 0 (v3).toNatClampNeg) - (s0 31 0 (v3).toNatClampNeg)) - (s0 32 0 (v5).toNatClampNeg)) + (s0 31 0 (v5).toNatClampNeg)) = 0 then (if 0 < (r3 - r4) then rk24 v1 v2 v3 (v4 + (1 : Int32)) (v5 + (1 : Int32)) s5 else
  (if (r3 - r4) = 0 then (if v3 ≤ v5 then rk24 v1 v2 v3 (v4 + (0 : Int32)) (v5 + (1 : Int32)) s5 else
  rk24 v1 v2 v3 (v4 + (1 : Int32)) (v5 + (1 : Int32)) s5) else
  rk24 v1 v2 v3 (v4 + (0 : Int32)) (v5 + (1 : Int32)) s5)) else
  rk24 v1 v2 v3 (v4 + (0 : Int32)) (v5 + (1 : Int32)) s5)))) qE0)) qE0 else none) else none) else none) else none))
def l_X8_taskBySlack_24 (rk8 : Int32 → Int32 → Int32 → qS → Option qO) : Nat → Int32 → Int32 → Int32 → Int32 → Int32 → qS → Option qO
  | 0, _, _, _, _, _, _ => none
  | n + 1, v1, v2, v3, v4, v5, s0 => b_X8_taskBySlack_24  rk8 (l_X8_taskBySlack_24  rk8 n) v1 v2 v3 v4 v5 s0
def b_X8_taskBySlack_8 (rk8 : Int32 → Int32 → Int32 → qS → Option qO) (v1 : Int32) (v2 : Int32) (v3 : Int32) (s0 : qS) : Option qO :=
  (if (s0 27 0 0) ≤ v3 then (if v2 = (-1 : Int32) then qbind (f_X8_goes (0 : Int32) s0) (qvI (fun r1 s2 =>
  (if r1 = 0 then (some (.inl (some (qI (0 : Int32))), s2)) else
  (some (.inl (some (qI v2)), s2))))) qE0 else
  qbind (f_X8_goes (1 : Int32) s0) (qvI (fun r2 s3 =>
  (if r2 = 0 then (some (.inl (some (qI (0 : Int32))), s3)) else
  (some (.inl (some (qI v2)), s3))))) qE0) else
  l_X8_taskBySlack_24  rk8 qFU v1 v2 v3 (0 : Int32) (0 : Int32) s0)
def l_X8_taskBySlack_8 : Nat → Int32 → Int32 → Int32 → qS → Option qO
  | 0, _, _, _, _ => none
  | n + 1, v1, v2, v3, s0 => b_X8_taskBySlack_8  (l_X8_taskBySlack_8  n) v1 v2 v3 s0
def f_X8_taskBySlack (a1 : Int32) (s0 : qS) : Option qO :=
  qbind (f_X8_starts  s0) (qvV (fun s1 =>
  l_X8_taskBySlack_8  qFU a1 (-1 : Int32) (0 : Int32) s1)) qE0
def b_X8_taskByStart_24 (rk8 : Int32 → Int32 → Int32 → qS → Option qO) (rk24 : Int32 → Int32 → Int32 → Int32 → Int32 → qS → Option qO) (v1 : Int32) (v2 : Int32) (v3 : Int32) (v4 : Int32) (v5 : Int32) (s0 : qS) : Option qO :=
  (if (s0 27 0 0) ≤ v5 then (if v4 = v1 then rk8 v1 v3 (v3 + (1 : Int32)) s0 else
  rk8 v1 v2 (v3 + (1 : Int32)) s0) else
  (if qin v3 12 then (if qin v5 12 then qbind (f_X8_of v5 (2 : Int32) s0) (qvI (fun r3 s4 =>
  qbind (f_X8_of v3 (2 : Int32) s4) (qvI (fun r4 s5 =>
  (if 0 < ((s0 33 0 (v3).toNatClampNeg) - (s0 33 0 (v5).toNatClampNeg)) then rk24 v1 v2 v3 (v4 + (1 : Int32)) (v5 + (1 : Int32)) s5 else
  (if ((s0 33 0 (v3).toNatClampNeg) - (s0 33 0 (v5).toNatClampNeg)) = 0 then (if 0 < (r3 - r4) then rk24 v1 v2 v3 (v4 + (1 : Int32)) (v5 + (1 : Int32)) s5 else
  (if (r3 - r4) = 0 then (if v3 ≤ v5 then rk24 v1 v2 v3 (v4 + (0 : Int32)) (v5 + (1 : Int32)) s5 else
  rk24 v1 v2 v3 (v4 + (1 : Int32)) (v5 + (1 : Int32)) s5) else
  rk24 v1 v2 v3 (v4 + (0 : Int32)) (v5 + (1 : Int32)) s5)) else
  rk24 v1 v2 v3 (v4 + (0 : Int32)) (v5 + (1 : Int32)) s5)))) qE0)) qE0 else none) else none))
def l_X8_taskByStart_24 (rk8 : Int32 → Int32 → Int32 → qS → Option qO) : Nat → Int32 → Int32 → Int32 → Int32 → Int32 → qS → Option qO
  | 0, _, _, _, _, _, _ => none
  | n + 1, v1, v2, v3, v4, v5, s0 => b_X8_taskByStart_24  rk8 (l_X8_taskByStart_24  rk8 n) v1 v2 v3 v4 v5 s0
def b_X8_taskByStart_8 (rk8 : Int32 → Int32 → Int32 → qS → Option qO) (v1 : Int32) (v2 : Int32) (v3 : Int32) (s0 : qS) : Option qO :=
  (if (s0 27 0 0) ≤ v3 then (if v2 = (-1 : Int32) then qbind (f_X8_goes (0 : Int32) s0) (qvI (fun r1 s2 =>
  (if r1 = 0 then (some (.inl (some (qI (0 : Int32))), s2)) else
  (some (.inl (some (qI v2)), s2))))) qE0 else
  qbind (f_X8_goes (1 : Int32) s0) (qvI (fun r2 s3 =>
  (if r2 = 0 then (some (.inl (some (qI (0 : Int32))), s3)) else
  (some (.inl (some (qI v2)), s3))))) qE0) else
  l_X8_taskByStart_24  rk8 qFU v1 v2 v3 (0 : Int32) (0 : Int32) s0)
def l_X8_taskByStart_8 : Nat → Int32 → Int32 → Int32 → qS → Option qO
  | 0, _, _, _, _ => none
  | n + 1, v1, v2, v3, s0 => b_X8_taskByStart_8  (l_X8_taskByStart_8  n) v1 v2 v3 s0
def f_X8_taskByStart (a1 : Int32) (s0 : qS) : Option qO :=
  qbind (f_X8_levels  s0) (qvV (fun s1 =>
  l_X8_taskByStart_8  qFU a1 (-1 : Int32) (0 : Int32) s1)) qE0
def b_X8_meanSlack_8 (rk8 : Int32 → Int32 → qS → Option qO) (v1 : Int32) (v2 : Int32) (s0 : qS) : Option qO :=
  (if (s0 27 0 0) ≤ v2 then (if (s0 27 0 0) ≤ 0 then qbind (f_X8_goes (0 : Int32) s0) (qvI (fun r1 s2 =>
  (if r1 = 0 then (some (.inl (some (.inl (.double 0))), s2)) else
  (if qn64 (FP.ddiv (FP.i2d v1) (FP.i2d (s2 27 0 0))) then (some (.inl (some (.inl (.double (FP.ddiv (FP.i2d v1) (FP.i2d (s2 27 0 0)))))), s2)) else none)))) qE0 else
  qbind (f_X8_goes (1 : Int32) s0) (qvI (fun r2 s3 =>
  (if r2 = 0 then (some (.inl (some (.inl (.double 0))), s3)) else
  (if qn64 (FP.ddiv (FP.i2d v1) (FP.i2d (s3 27 0 0))) then (some (.inl (some (.inl (.double (FP.ddiv (FP.i2d v1) (FP.i2d (s3 27 0 0)))))), s3)) else none)))) qE0) else
  (if qin v2 12 then (if qin v2 12 then rk8 (v1 + ((s0 32 0 (v2).toNatClampNeg) - (s0 31 0 (v2).toNatClampNeg))) (v2 + (1 : Int32)) s0 else none) else none))
def l_X8_meanSlack_8 : Nat → Int32 → Int32 → qS → Option qO
  | 0, _, _, _ => none
  | n + 1, v1, v2, s0 => b_X8_meanSlack_8  (l_X8_meanSlack_8  n) v1 v2 s0
def f_X8_meanSlack  (s0 : qS) : Option qO :=
  qbind (f_X8_starts  s0) (qvV (fun s1 =>
  l_X8_meanSlack_8  qFU (0 : Int32) (0 : Int32) s1)) qE0
def j_X8_utilization_29 (v1 : Int32) (v2 : Int32) (w1 : Int32) (w2 : Int32) (s0 : qS) : Option qO :=
  qbind (f_X8_holds w1 w2 (1 : Int32) s0) (qvI (fun r3 s4 =>
  (if r3 = 0 then (some (.inl (some (.inl (.float 0))), s4)) else
  (if qin ((2 : Int32) + v1) 77 then qbind (f_X8_lastOf 33 0 s4) (qvI (fun r4 s5 =>
  (if qn32 (FP.fdiv (FP.i2f v2) (FP.i2f ((s4 27 0 (((2 : Int32) + v1)).toNatClampNeg) * r4))) then (some (.inl (some (.inl (.float (FP.fdiv (FP.i2f v2) (FP.i2f ((s4 27 0 (((2 : Int32) + v1)).toNatClampNeg) * r4)))))), s5)) else none))) qE0 else none)))) qE0
def f_X8_utilization (a1 : Int32) (s0 : qS) : Option qO :=
  qbind (f_X8_work a1 s0) (qvI (fun r1 s1 =>
  qbind (f_X8_levels  s1) (qvV (fun s2 =>
  qbind (f_X8_isResource a1 s2) (qvI (fun r2 s3 =>
  (if (s3 27 0 0) ≤ 0 then j_X8_utilization_29  a1 r1 r2 (0 : Int32) s3 else
  j_X8_utilization_29  a1 r1 r2 (1 : Int32) s3))) qE0)) qE0)) qE0
def b_X8_renderTask_126 (rk126 : Int32 → Int32 → Int32 → qS → Option qO) (v1 : Int32) (v2 : Int32) (v3 : Int32) (s0 : qS) : Option qO :=
  (if (s0 27 0 0) ≤ v3 then qlet (qu s0 26 0 16 v2) (fun s17 =>
  (some (.inl (some (qI v2)), s17))) else
  qbind (f_X8_isNeeded v1 v3 s0) (qvI (fun r16 s18 =>
  (if r16 = 0 then rk126 v1 v2 (v3 + (1 : Int32)) s18 else
  qbind (f_X8_put v2 (60 : Int32) s18) (qvI (fun r17 s19 =>
  qbind (f_X8_writesNumber r17 v3 s19) (qvI (fun r18 s20 =>
  rk126 v1 r18 (v3 + (1 : Int32)) s20)) qE0)) qE0))) qE0)
def l_X8_renderTask_126 : Nat → Int32 → Int32 → Int32 → qS → Option qO
  | 0, _, _, _, _ => none
  | n + 1, v1, v2, v3, s0 => b_X8_renderTask_126  (l_X8_renderTask_126  n) v1 v2 v3 s0
def f_X8_renderTask (a1 : Int32) (s0 : qS) : Option qO :=
  qbind (f_X8_isTask a1 s0) (qvI (fun r1 s1 =>
  qbind (f_X8_goes r1 s1) (qvI (fun r2 s2 =>
  (if r2 = 0 then (some (.inl (some (qI (0 : Int32))), s2)) else
  qbind (f_X8_levels  s2) (qvV (fun s3 =>
  qbind (f_X8_writesNumber (0 : Int32) a1 s3) (qvI (fun r3 s4 =>
  qbind (f_X8_put r3 (58 : Int32) s4) (qvI (fun r4 s5 =>
  qbind (f_X8_of a1 (0 : Int32) s5) (qvI (fun r5 s6 =>
  qbind (f_X8_writesNumber r4 r5 s6) (qvI (fun r6 s7 =>
  qbind (f_X8_put r6 (120 : Int32) s7) (qvI (fun r7 s8 =>
  qbind (f_X8_of a1 (2 : Int32) s8) (qvI (fun r8 s9 =>
  qbind (f_X8_writesNumber r7 r8 s9) (qvI (fun r9 s10 =>
  qbind (f_X8_put r9 (114 : Int32) s10) (qvI (fun r10 s11 =>
  qbind (f_X8_of a1 (1 : Int32) s11) (qvI (fun r11 s12 =>
  qbind (f_X8_writesNumber r10 r11 s12) (qvI (fun r12 s13 =>
  qbind (f_X8_put r12 (64 : Int32) s13) (qvI (fun r13 s14 =>
  (if qin a1 12 then qbind (f_X8_writesNumber r13 (s14 33 0 (a1).toNatClampNeg) s14) (qvI (fun r14 s15 =>
  (if qin a1 12 then (if qin a1 12 then (if (s15 32 0 (a1).toNatClampNeg) = (s15 31 0 (a1).toNatClampNeg) then qbind (f_X8_put r14 (33 : Int32) s15) (qvI (fun r15 s16 =>
  l_X8_renderTask_126  qFU a1 r15 (0 : Int32) s16)) qE0 else
  l_X8_renderTask_126  qFU a1 r14 (0 : Int32) s15) else none) else none))) qE0 else none))) qE0)) qE0)) qE0)) qE0)) qE0)) qE0)) qE0)) qE0)) qE0)) qE0)) qE0)) qE0))) qE0)) qE0
def b_X8_renderUsage_21 (rk21 : Int32 → Int32 → Int32 → qS → Option qO) (v1 : Int32) (v2 : Int32) (v3 : Int32) (s0 : qS) : Option qO :=
  qbind (f_X8_lastOf 33 0 s0) (qvI (fun r3 s4 =>
  (if r3 ≤ v3 then qlet (qu s4 26 0 16 v2) (fun s5 =>
  (some (.inl (some (qI v2)), s5))) else
  (if v3 = 0 then (if qin (((160 : Int32) * v1) + v3) 480 then qbind (f_X8_writesNumber v2 (s4 34 0 ((((160 : Int32) * v1) + v3)).toNatClampNeg) s4) (qvI (fun r4 s6 =>
  rk21 v1 r4 (v3 + (1 : Int32)) s6)) qE0 else none) else
  qbind (f_X8_put v2 (44 : Int32) s4) (qvI (fun r5 s7 =>
  (if qin (((160 : Int32) * v1) + v3) 480 then qbind (f_X8_writesNumber r5 (s7 34 0 ((((160 : Int32) * v1) + v3)).toNatClampNeg) s7) (qvI (fun r6 s8 =>
  rk21 v1 r6 (v3 + (1 : Int32)) s8)) qE0 else none))) qE0)))) qE0
def l_X8_renderUsage_21 : Nat → Int32 → Int32 → Int32 → qS → Option qO
  | 0, _, _, _, _ => none
  | n + 1, v1, v2, v3, s0 => b_X8_renderUsage_21  (l_X8_renderUsage_21  n) v1 v2 v3 s0
def f_X8_renderUsage (a1 : Int32) (s0 : qS) : Option qO :=
  qbind (f_X8_isResource a1 s0) (qvI (fun r1 s1 =>
  qbind (f_X8_goes r1 s1) (qvI (fun r2 s2 =>
  (if r2 = 0 then (some (.inl (some (qI (0 : Int32))), s2)) else
  qbind (f_X8_levels  s2) (qvV (fun s3 =>
  l_X8_renderUsage_21  qFU a1 (0 : Int32) (0 : Int32) s3)) qE0))) qE0)) qE0
def b_X8_marks_11 (rk11 : Int32 → qS → Option qO) (v1 : Int32) (s0 : qS) : Option qO :=
  (if (s0 27 0 0) ≤ v1 then qlet (qu s0 27 0 1 (1 : Int32)) (fun s3 =>
  qbind (f_X8_lastOf 33 0 s3) (qvI (fun r1 s4 =>
  (some (.inl (some (qI r1)), s4)))) qE0) else
  qbind (f_X8_taskAt v1 s0) (qvI (fun r2 s5 =>
  (if qin v1 12 then (if qin (r2 + (5 : Int32)) 77 then qlet (qu s5 27 0 ((r2 + (5 : Int32))).toNatClampNeg (s5 33 0 (v1).toNatClampNeg)) (fun s6 =>
  rk11 (v1 + (1 : Int32)) s6) else none) else none))) qE0)
def l_X8_marks_11 : Nat → Int32 → qS → Option qO
  | 0, _, _ => none
  | n + 1, v1, s0 => b_X8_marks_11  (l_X8_marks_11  n) v1 s0
def f_X8_marks  (s0 : qS) : Option qO :=
  qlet (qu s0 26 0 17 (0 : Int32)) (fun s1 =>
  qbind (f_X8_levels  s1) (qvV (fun s2 =>
  l_X8_marks_11  qFU (0 : Int32) s2)) qE0)
def f_X8_takeBaseline  (s0 : qS) : Option qO :=
  qbind (f_X8_begins  s0) (qvV (fun s1 =>
  qbind (f_X8_marks  s1) (qvI (fun r1 s2 =>
  qbind (f_X8_ends r1 s2) (qvI (fun r2 s3 =>
  (some (.inl (some (qI r2)), s3)))) qE0)) qE0)) qE0
def f_X8_does (a1 : Int32) (s0 : qS) : Option qO :=
  (if qin (a1 + (1 : Int32)) 150 then (if qin (a1 + (2 : Int32)) 150 then (if qin a1 150 then (qsw (s0 37 0 (a1).toNatClampNeg) 0 [(if qin (a1 + (3 : Int32)) 150 then (if qin (a1 + (4 : Int32)) 150 then qbind (f_X8_adds (s0 37 0 ((a1 + (1 : Int32))).toNatClampNeg) (s0 37 0 ((a1 + (2 : Int32))).toNatClampNeg) (s0 37 0 ((a1 + (3 : Int32))).toNatClampNeg) (s0 37 0 ((a1 + (4 : Int32))).toNatClampNeg) s0) (qvI (fun r1 s1 =>
  (some (.inl (some (qI r1)), s1)))) qE0 else none) else none),
  qbind (f_X8_removes (s0 37 0 ((a1 + (1 : Int32))).toNatClampNeg) s0) (qvI (fun r2 s2 =>
  (some (.inl (some (qI r2)), s2)))) qE0,
  qbind (f_X8_links (s0 37 0 ((a1 + (1 : Int32))).toNatClampNeg) (s0 37 0 ((a1 + (2 : Int32))).toNatClampNeg) s0) (qvI (fun r3 s3 =>
  (some (.inl (some (qI r3)), s3)))) qE0,
  qbind (f_X8_unlinks (s0 37 0 ((a1 + (1 : Int32))).toNatClampNeg) (s0 37 0 ((a1 + (2 : Int32))).toNatClampNeg) s0) (qvI (fun r4 s4 =>
  (some (.inl (some (qI r4)), s4)))) qE0,
  qbind (f_X8_limits (s0 37 0 ((a1 + (1 : Int32))).toNatClampNeg) (s0 37 0 ((a1 + (2 : Int32))).toNatClampNeg) s0) (qvI (fun r5 s5 =>
  (some (.inl (some (qI r5)), s5)))) qE0,
  qbind (f_X8_sets (s0 37 0 ((a1 + (1 : Int32))).toNatClampNeg) (0 : Int32) (s0 37 0 ((a1 + (2 : Int32))).toNatClampNeg) (1 : Int32) (9 : Int32) s0) (qvI (fun r6 s6 =>
  (some (.inl (some (qI r6)), s6)))) qE0,
  qbind (f_X8_sets (s0 37 0 ((a1 + (1 : Int32))).toNatClampNeg) (3 : Int32) (s0 37 0 ((a1 + (2 : Int32))).toNatClampNeg) (0 : Int32) (30 : Int32) s0) (qvI (fun r7 s7 =>
  (some (.inl (some (qI r7)), s7)))) qE0] (qbind (f_X8_marks  s0) (qvI (fun r8 s8 =>
  (some (.inl (some (qI r8)), s8)))) qE0)) else none) else none) else none)
def b_X8_runScript_38 (rk38 : Int32 → qS → Option qO) (v1 : Int32) (s0 : qS) : Option qO :=
  (if (s0 26 0 21) ≤ v1 then qbind (f_X8_ends (s0 26 0 21) s0) (qvI (fun r1 s4 =>
  (some (.inl (some (qI r1)), s4)))) qE0 else
  qbind (f_X8_does ((5 : Int32) * v1) s0) (qvI (fun r2 s5 =>
  (if (s5 26 0 17) = 0 then rk38 (v1 + (1 : Int32)) s5 else
  qlet (qu s5 26 0 7 v1) (fun s6 =>
  (if qin ((5 : Int32) * v1) 150 then qbind (f_X8_letterFor (s6 37 0 (((5 : Int32) * v1)).toNatClampNeg) s6) (qvI (fun r3 s7 =>
  qlet (qu s7 26 0 8 r3) (fun s8 =>
  qlet (qu s8 26 0 17 (2 : Int32)) (fun s9 =>
  qbind (f_X8_copies 28 0 (0 : Int32) 27 0 (0 : Int32) s9) (qvV (fun s10 =>
  (some (.inl (some (qI (0 : Int32))), s10)))) qE0)))) qE0 else none))))) qE0)
def l_X8_runScript_38 : Nat → Int32 → qS → Option qO
  | 0, _, _ => none
  | n + 1, v1, s0 => b_X8_runScript_38  (l_X8_runScript_38  n) v1 s0
def f_X8_runScript  (s0 : qS) : Option qO :=
  qbind (f_X8_readsAll  s0) (qvV (fun s1 =>
  (if (s1 26 0 20) = (-1 : Int32) then qbind (f_X8_begins  s1) (qvV (fun s2 =>
  qlet (qu s2 26 0 17 (0 : Int32)) (fun s3 =>
  l_X8_runScript_38  qFU (0 : Int32) s3))) qE0 else
  qlet (qu s1 26 0 6 (s1 26 0 20)) (fun s11 =>
  qlet (qu s11 26 0 17 (1 : Int32)) (fun s12 =>
  (some (.inl (some (qI (0 : Int32))), s12))))))) qE0
def f_L_addTask (a2 : Int32) (a3 : Int32) (a4 : Int32) (a5 : Int32) (s0 : qS) : Option qO :=
  qbind (f_X7_addTask a2 a3 a4 a5 s0) (qvI (fun r1 s1 =>
  qlet (qu s1 38 0 0 r1) (fun s2 =>
  (some (.inl (some (qI (0 : Int32))), s2))))) (fun E s1 => (if E = qIAE then (some (.inl (some (qI (1 : Int32))), s1)) else
  (if E = qISE then (some (.inl (some (qI (2 : Int32))), s1)) else
  none)))
def f_L_removeTask (a2 : Int32) (s0 : qS) : Option qO :=
  qbind (f_X7_removeTask a2 s0) (qvI (fun r1 s1 =>
  qlet (qu s1 38 0 0 r1) (fun s2 =>
  (some (.inl (some (qI (0 : Int32))), s2))))) (fun E s1 => (if E = qIOE then (some (.inl (some (qI (1 : Int32))), s1)) else
  none))
def f_L_addDependency (a2 : Int32) (a3 : Int32) (s0 : qS) : Option qO :=
  qbind (f_X7_addDependency a2 a3 s0) (qvI (fun r1 s1 =>
  (if r1 = 0 then qlet (qu s1 38 0 0 (0 : Int32)) (fun s2 =>
  (some (.inl (some (qI (0 : Int32))), s2))) else
  qlet (qu s1 38 0 0 (1 : Int32)) (fun s3 =>
  (some (.inl (some (qI (0 : Int32))), s3)))))) (fun E s1 => (if E = qIOE then (some (.inl (some (qI (1 : Int32))), s1)) else
  (if E = qIAE then (some (.inl (some (qI (2 : Int32))), s1)) else
  (if E = qUOE then (some (.inl (some (qI (3 : Int32))), s1)) else
  none))))
def f_L_removeDependency (a2 : Int32) (a3 : Int32) (s0 : qS) : Option qO :=
  qbind (f_X7_removeDependency a2 a3 s0) (qvI (fun r1 s1 =>
  (if r1 = 0 then qlet (qu s1 38 0 0 (0 : Int32)) (fun s2 =>
  (some (.inl (some (qI (0 : Int32))), s2))) else
  qlet (qu s1 38 0 0 (1 : Int32)) (fun s3 =>
  (some (.inl (some (qI (0 : Int32))), s3)))))) (fun E s1 => (if E = qIOE then (some (.inl (some (qI (1 : Int32))), s1)) else
  none))
def f_L_setDuration (a2 : Int32) (a3 : Int32) (s0 : qS) : Option qO :=
  qbind (f_X7_setDuration a2 a3 s0) (qvI (fun r1 s1 =>
  qlet (qu s1 38 0 0 r1) (fun s2 =>
  (some (.inl (some (qI (0 : Int32))), s2))))) (fun E s1 => (if E = qIOE then (some (.inl (some (qI (1 : Int32))), s1)) else
  (if E = qIAE then (some (.inl (some (qI (2 : Int32))), s1)) else
  none)))
def f_L_setRelease (a2 : Int32) (a3 : Int32) (s0 : qS) : Option qO :=
  qbind (f_X7_setRelease a2 a3 s0) (qvI (fun r1 s1 =>
  qlet (qu s1 38 0 0 r1) (fun s2 =>
  (some (.inl (some (qI (0 : Int32))), s2))))) (fun E s1 => (if E = qIOE then (some (.inl (some (qI (1 : Int32))), s1)) else
  (if E = qIAE then (some (.inl (some (qI (2 : Int32))), s1)) else
  none)))
def f_L_setLimit (a2 : Int32) (a3 : Int32) (s0 : qS) : Option qO :=
  qbind (f_X7_setLimit a2 a3 s0) (qvI (fun r1 s1 =>
  qlet (qu s1 38 0 0 r1) (fun s2 =>
  (some (.inl (some (qI (0 : Int32))), s2))))) (fun E s1 => (if E = qIAE then (some (.inl (some (qI (1 : Int32))), s1)) else
  none))
def f_L_duration (a2 : Int32) (s0 : qS) : Option qO :=
  qbind (f_X7_duration a2 s0) (qvI (fun r1 s1 =>
  qlet (qu s1 38 0 0 r1) (fun s2 =>
  (some (.inl (some (qI (0 : Int32))), s2))))) (fun E s1 => (if E = qIOE then (some (.inl (some (qI (1 : Int32))), s1)) else
  none))
def f_L_resource (a2 : Int32) (s0 : qS) : Option qO :=
  qbind (f_X7_resource a2 s0) (qvI (fun r1 s1 =>
  qlet (qu s1 38 0 0 r1) (fun s2 =>
  (some (.inl (some (qI (0 : Int32))), s2))))) (fun E s1 => (if E = qIOE then (some (.inl (some (qI (1 : Int32))), s1)) else
  none))
def f_L_demand (a2 : Int32) (s0 : qS) : Option qO :=
  qbind (f_X7_demand a2 s0) (qvI (fun r1 s1 =>
  qlet (qu s1 38 0 0 r1) (fun s2 =>
  (some (.inl (some (qI (0 : Int32))), s2))))) (fun E s1 => (if E = qIOE then (some (.inl (some (qI (1 : Int32))), s1)) else
  none))
def f_L_release (a2 : Int32) (s0 : qS) : Option qO :=
  qbind (f_X7_release a2 s0) (qvI (fun r1 s1 =>
  qlet (qu s1 38 0 0 r1) (fun s2 =>
  (some (.inl (some (qI (0 : Int32))), s2))))) (fun E s1 => (if E = qIOE then (some (.inl (some (qI (1 : Int32))), s1)) else
  none))
def f_L_limit (a2 : Int32) (s0 : qS) : Option qO :=
  qbind (f_X7_limit a2 s0) (qvI (fun r1 s1 =>
  qlet (qu s1 38 0 0 r1) (fun s2 =>
  (some (.inl (some (qI (0 : Int32))), s2))))) (fun E s1 => (if E = qIAE then (some (.inl (some (qI (1 : Int32))), s1)) else
  none))
def f_L_dependsDirectly (a2 : Int32) (a3 : Int32) (s0 : qS) : Option qO :=
  qbind (f_X7_dependsDirectly a2 a3 s0) (qvI (fun r1 s1 =>
  (if r1 = 0 then qlet (qu s1 38 0 0 (0 : Int32)) (fun s2 =>
  (some (.inl (some (qI (0 : Int32))), s2))) else
  qlet (qu s1 38 0 0 (1 : Int32)) (fun s3 =>
  (some (.inl (some (qI (0 : Int32))), s3)))))) (fun E s1 => (if E = qIOE then (some (.inl (some (qI (1 : Int32))), s1)) else
  none))
def f_L_depends (a2 : Int32) (a3 : Int32) (s0 : qS) : Option qO :=
  qbind (f_X7_depends a2 a3 s0) (qvI (fun r1 s1 =>
  (if r1 = 0 then qlet (qu s1 38 0 0 (0 : Int32)) (fun s2 =>
  (some (.inl (some (qI (0 : Int32))), s2))) else
  qlet (qu s1 38 0 0 (1 : Int32)) (fun s3 =>
  (some (.inl (some (qI (0 : Int32))), s3)))))) (fun E s1 => (if E = qIOE then (some (.inl (some (qI (1 : Int32))), s1)) else
  none))
def f_L_dependsByClosure (a2 : Int32) (a3 : Int32) (s0 : qS) : Option qO :=
  qbind (f_X7_dependsByClosure a2 a3 s0) (qvI (fun r1 s1 =>
  (if r1 = 0 then qlet (qu s1 38 0 0 (0 : Int32)) (fun s2 =>
  (some (.inl (some (qI (0 : Int32))), s2))) else
  qlet (qu s1 38 0 0 (1 : Int32)) (fun s3 =>
  (some (.inl (some (qI (0 : Int32))), s3)))))) (fun E s1 => (if E = qIOE then (some (.inl (some (qI (1 : Int32))), s1)) else
  none))
def f_L_neededCount (a2 : Int32) (s0 : qS) : Option qO :=
  qbind (f_X7_neededCount a2 s0) (qvI (fun r1 s1 =>
  qlet (qu s1 38 0 0 r1) (fun s2 =>
  (some (.inl (some (qI (0 : Int32))), s2))))) (fun E s1 => (if E = qIOE then (some (.inl (some (qI (1 : Int32))), s1)) else
  none))
def f_L_dependentCount (a2 : Int32) (s0 : qS) : Option qO :=
  qbind (f_X7_dependentCount a2 s0) (qvI (fun r1 s1 =>
  qlet (qu s1 38 0 0 r1) (fun s2 =>
  (some (.inl (some (qI (0 : Int32))), s2))))) (fun E s1 => (if E = qIOE then (some (.inl (some (qI (1 : Int32))), s1)) else
  none))
def f_L_taskInOrder (a2 : Int32) (s0 : qS) : Option qO :=
  qbind (f_X7_taskInOrder a2 s0) (qvI (fun r1 s1 =>
  qlet (qu s1 38 0 0 r1) (fun s2 =>
  (some (.inl (some (qI (0 : Int32))), s2))))) (fun E s1 => (if E = qNSE then (some (.inl (some (qI (1 : Int32))), s1)) else
  none))
def f_L_earliestStart (a2 : Int32) (s0 : qS) : Option qO :=
  qbind (f_X7_earliestStart a2 s0) (qvI (fun r1 s1 =>
  qlet (qu s1 38 0 0 r1) (fun s2 =>
  (some (.inl (some (qI (0 : Int32))), s2))))) (fun E s1 => (if E = qIOE then (some (.inl (some (qI (1 : Int32))), s1)) else
  none))
def f_L_earliestStartByRounds (a2 : Int32) (s0 : qS) : Option qO :=
  qbind (f_X7_earliestStartByRounds a2 s0) (qvI (fun r1 s1 =>
  qlet (qu s1 38 0 0 r1) (fun s2 =>
  (some (.inl (some (qI (0 : Int32))), s2))))) (fun E s1 => (if E = qIOE then (some (.inl (some (qI (1 : Int32))), s1)) else
  none))
def f_L_latestStart (a2 : Int32) (s0 : qS) : Option qO :=
  qbind (f_X7_latestStart a2 s0) (qvI (fun r1 s1 =>
  qlet (qu s1 38 0 0 r1) (fun s2 =>
  (some (.inl (some (qI (0 : Int32))), s2))))) (fun E s1 => (if E = qIOE then (some (.inl (some (qI (1 : Int32))), s1)) else
  none))
def f_L_slack (a2 : Int32) (s0 : qS) : Option qO :=
  qbind (f_X7_slack a2 s0) (qvI (fun r1 s1 =>
  qlet (qu s1 38 0 0 r1) (fun s2 =>
  (some (.inl (some (qI (0 : Int32))), s2))))) (fun E s1 => (if E = qIOE then (some (.inl (some (qI (1 : Int32))), s1)) else
  none))
def f_L_isCritical (a2 : Int32) (s0 : qS) : Option qO :=
  qbind (f_X7_isCritical a2 s0) (qvI (fun r1 s1 =>
  (if r1 = 0 then qlet (qu s1 38 0 0 (0 : Int32)) (fun s2 =>
  (some (.inl (some (qI (0 : Int32))), s2))) else
  qlet (qu s1 38 0 0 (1 : Int32)) (fun s3 =>
  (some (.inl (some (qI (0 : Int32))), s3)))))) (fun E s1 => (if E = qIOE then (some (.inl (some (qI (1 : Int32))), s1)) else
  none))
def f_L_lastTask  (s0 : qS) : Option qO :=
  qbind (f_X7_lastTask  s0) (qvI (fun r1 s1 =>
  qlet (qu s1 38 0 0 r1) (fun s2 =>
  (some (.inl (some (qI (0 : Int32))), s2))))) (fun E s1 => (if E = qNSE then (some (.inl (some (qI (1 : Int32))), s1)) else
  none))
def f_L_levelledStart (a2 : Int32) (s0 : qS) : Option qO :=
  qbind (f_X7_levelledStart a2 s0) (qvI (fun r1 s1 =>
  qlet (qu s1 38 0 0 r1) (fun s2 =>
  (some (.inl (some (qI (0 : Int32))), s2))))) (fun E s1 => (if E = qIOE then (some (.inl (some (qI (1 : Int32))), s1)) else
  none))
def f_L_usage (a2 : Int32) (a3 : Int32) (s0 : qS) : Option qO :=
  qbind (f_X7_usage a2 a3 s0) (qvI (fun r1 s1 =>
  qlet (qu s1 38 0 0 r1) (fun s2 =>
  (some (.inl (some (qI (0 : Int32))), s2))))) (fun E s1 => (if E = qIAE then (some (.inl (some (qI (1 : Int32))), s1)) else
  none))
def f_L_usageByTasks (a2 : Int32) (a3 : Int32) (s0 : qS) : Option qO :=
  qbind (f_X7_usageByTasks a2 a3 s0) (qvI (fun r1 s1 =>
  qlet (qu s1 38 0 0 r1) (fun s2 =>
  (some (.inl (some (qI (0 : Int32))), s2))))) (fun E s1 => (if E = qIAE then (some (.inl (some (qI (1 : Int32))), s1)) else
  none))
def f_L_peakUsage (a2 : Int32) (s0 : qS) : Option qO :=
  qbind (f_X7_peakUsage a2 s0) (qvI (fun r1 s1 =>
  qlet (qu s1 38 0 0 r1) (fun s2 =>
  (some (.inl (some (qI (0 : Int32))), s2))))) (fun E s1 => (if E = qIAE then (some (.inl (some (qI (1 : Int32))), s1)) else
  none))
def f_L_tasksOn (a2 : Int32) (s0 : qS) : Option qO :=
  qbind (f_X7_tasksOn a2 s0) (qvI (fun r1 s1 =>
  qlet (qu s1 38 0 0 r1) (fun s2 =>
  (some (.inl (some (qI (0 : Int32))), s2))))) (fun E s1 => (if E = qIAE then (some (.inl (some (qI (1 : Int32))), s1)) else
  none))
def f_L_workload (a2 : Int32) (s0 : qS) : Option qO :=
  qbind (f_X7_workload a2 s0) (qvI (fun r1 s1 =>
  qlet (qu s1 38 0 0 r1) (fun s2 =>
  (some (.inl (some (qI (0 : Int32))), s2))))) (fun E s1 => (if E = qIAE then (some (.inl (some (qI (1 : Int32))), s1)) else
  none))
def f_L_workloadByDays (a2 : Int32) (s0 : qS) : Option qO :=
  qbind (f_X7_workloadByDays a2 s0) (qvI (fun r1 s1 =>
  qlet (qu s1 38 0 0 r1) (fun s2 =>
  (some (.inl (some (qI (0 : Int32))), s2))))) (fun E s1 => (if E = qIAE then (some (.inl (some (qI (1 : Int32))), s1)) else
  none))
def f_L_baselineStart (a2 : Int32) (s0 : qS) : Option qO :=
  qbind (f_X7_baselineStart a2 s0) (qvI (fun r1 s1 =>
  qlet (qu s1 38 0 0 r1) (fun s2 =>
  (some (.inl (some (qI (0 : Int32))), s2))))) (fun E s1 => (if E = qIOE then (some (.inl (some (qI (1 : Int32))), s1)) else
  (if E = qNSE then (some (.inl (some (qI (2 : Int32))), s1)) else
  none)))
def f_L_drift (a2 : Int32) (s0 : qS) : Option qO :=
  qbind (f_X7_drift a2 s0) (qvI (fun r1 s1 =>
  qlet (qu s1 38 0 0 r1) (fun s2 =>
  (some (.inl (some (qI (0 : Int32))), s2))))) (fun E s1 => (if E = qIOE then (some (.inl (some (qI (1 : Int32))), s1)) else
  (if E = qNSE then (some (.inl (some (qI (2 : Int32))), s1)) else
  none)))
def f_L_totalDrift  (s0 : qS) : Option qO :=
  qbind (f_X7_totalDrift  s0) (qvI (fun r1 s1 =>
  qlet (qu s1 38 0 0 r1) (fun s2 =>
  (some (.inl (some (qI (0 : Int32))), s2))))) (fun E s1 => (if E = qNSE then (some (.inl (some (qI (1 : Int32))), s1)) else
  none))
def f_L_taskBySlack (a2 : Int32) (s0 : qS) : Option qO :=
  qbind (f_X7_taskBySlack a2 s0) (qvI (fun r1 s1 =>
  qlet (qu s1 38 0 0 r1) (fun s2 =>
  (some (.inl (some (qI (0 : Int32))), s2))))) (fun E s1 => (if E = qNSE then (some (.inl (some (qI (1 : Int32))), s1)) else
  none))
def f_L_taskByStart (a2 : Int32) (s0 : qS) : Option qO :=
  qbind (f_X7_taskByStart a2 s0) (qvI (fun r1 s1 =>
  qlet (qu s1 38 0 0 r1) (fun s2 =>
  (some (.inl (some (qI (0 : Int32))), s2))))) (fun E s1 => (if E = qNSE then (some (.inl (some (qI (1 : Int32))), s1)) else
  none))
def f_L_meanSlack  (s0 : qS) : Option qO :=
  qbind (f_X7_meanSlack  s0) (qvD (fun r1 s1 =>
  qlet (qsd s1 r1) (fun s2 =>
  (some (.inl (some (qI (0 : Int32))), s2))))) (fun E s1 => (if E = qARE then (some (.inl (some (qI (1 : Int32))), s1)) else
  none))
def f_L_utilization (a2 : Int32) (s0 : qS) : Option qO :=
  qbind (f_X7_utilization a2 s0) (qvF (fun r1 s1 =>
  (if qn64 (FP.f2d r1) then qlet (qsd s1 (FP.f2d r1)) (fun s2 =>
  (some (.inl (some (qI (0 : Int32))), s2))) else none))) (fun E s1 => (if E = qIAE then (some (.inl (some (qI (1 : Int32))), s1)) else
  (if E = qARE then (some (.inl (some (qI (2 : Int32))), s1)) else
  none)))
def f_L_renderTask (a2 : Int32) (s0 : qS) : Option qO :=
  qbind (f_X7_renderTask a2 s0) (qvI (fun r1 s1 =>
  qlet (qu s1 38 0 0 r1) (fun s2 =>
  (some (.inl (some (qI (0 : Int32))), s2))))) (fun E s1 => (if E = qIOE then (some (.inl (some (qI (1 : Int32))), s1)) else
  none))
def f_L_renderUsage (a2 : Int32) (s0 : qS) : Option qO :=
  qbind (f_X7_renderUsage a2 s0) (qvI (fun r1 s1 =>
  qlet (qu s1 38 0 0 r1) (fun s2 =>
  (some (.inl (some (qI (0 : Int32))), s2))))) (fun E s1 => (if E = qIAE then (some (.inl (some (qI (1 : Int32))), s1)) else
  none))
def f_L_outputAt (a2 : Int32) (s0 : qS) : Option qO :=
  qbind (f_X7_outputAt a2 s0) (qvI (fun r1 s1 =>
  qlet (qu s1 38 0 0 r1) (fun s2 =>
  (some (.inl (some (qI (0 : Int32))), s2))))) (fun E s1 => (if E = qIOE then (some (.inl (some (qI (1 : Int32))), s1)) else
  none))
def f_L_type (a2 : Int32) (s0 : qS) : Option qO :=
  qbind (f_X7_type a2 s0) (qvI (fun r1 s1 =>
  qlet (qu s1 38 0 0 r1) (fun s2 =>
  (some (.inl (some (qI (0 : Int32))), s2))))) (fun E s1 => (if E = qIAE then (some (.inl (some (qI (1 : Int32))), s1)) else
  (if E = qISE then (some (.inl (some (qI (2 : Int32))), s1)) else
  none)))
def f_L_runScript  (s0 : qS) : Option qO :=
  qbind (f_X7_runScript  s0) (qvI (fun r1 s1 =>
  qlet (qu s1 38 0 0 r1) (fun s2 =>
  (some (.inl (some (qI (0 : Int32))), s2))))) (fun E s1 => (if E = qIAE then (some (.inl (some (qI (1 : Int32))), s1)) else
  (if E = qISE then (some (.inl (some (qI (2 : Int32))), s1)) else
  none)))
def f_L_errorPosition  (s0 : qS) : Option qO :=
  qbind (f_X7_errorPosition  s0) (qvI (fun r1 s1 =>
  qlet (qu s1 38 0 0 r1) (fun s2 =>
  (some (.inl (some (qI (0 : Int32))), s2))))) (fun E s1 => (if E = qNSE then (some (.inl (some (qI (1 : Int32))), s1)) else
  none))
def f_L_failedCommand  (s0 : qS) : Option qO :=
  qbind (f_X7_failedCommand  s0) (qvI (fun r1 s1 =>
  qlet (qu s1 38 0 0 r1) (fun s2 =>
  (some (.inl (some (qI (0 : Int32))), s2))))) (fun E s1 => (if E = qNSE then (some (.inl (some (qI (1 : Int32))), s1)) else
  none))
def f_L_failureReason  (s0 : qS) : Option qO :=
  qbind (f_X7_failureReason  s0) (qvI (fun r1 s1 =>
  qlet (qu s1 38 0 0 r1) (fun s2 =>
  (some (.inl (some (qI (0 : Int32))), s2))))) (fun E s1 => (if E = qNSE then (some (.inl (some (qI (1 : Int32))), s1)) else
  none))
def f_L_undo  (s0 : qS) : Option qO :=
  qbind (f_X7_undo  s0) (qvI (fun r1 s1 =>
  qlet (qu s1 38 0 0 r1) (fun s2 =>
  (some (.inl (some (qI (0 : Int32))), s2))))) (fun E s1 => (if E = qISE then (some (.inl (some (qI (1 : Int32))), s1)) else
  none))
def f_L_restore  (s0 : qS) : Option qO :=
  qbind (f_X7_restore  s0) (qvI (fun r1 s1 =>
  qlet (qu s1 38 0 0 r1) (fun s2 =>
  (some (.inl (some (qI (0 : Int32))), s2))))) (fun E s1 => (if E = qISE then (some (.inl (some (qI (1 : Int32))), s1)) else
  none))
def j_L_law_284 (LL : Nat) (xs : Nat → Int32) (rk28 : Int32 → qS → Option qO) (v5 : Int32) (s0 : qS) : Option qO :=
  (if qin (v5 + (1 : Int32)) LL then (if qin (v5 + (2 : Int32)) LL then (if qin (v5 + (3 : Int32)) LL then (if qin (v5 + (4 : Int32)) LL then qbind (f_L_addTask (xs ((v5 + (1 : Int32))).toNatClampNeg) (xs ((v5 + (2 : Int32))).toNatClampNeg) (xs ((v5 + (3 : Int32))).toNatClampNeg) (xs ((v5 + (4 : Int32))).toNatClampNeg) s0) (qvI (fun r1 s1 =>
  (if qin (v5 + (1 : Int32)) LL then (if qin (v5 + (2 : Int32)) LL then (if qin (v5 + (3 : Int32)) LL then (if qin (v5 + (4 : Int32)) LL then qbind (f_X8_addTask (xs ((v5 + (1 : Int32))).toNatClampNeg) (xs ((v5 + (2 : Int32))).toNatClampNeg) (xs ((v5 + (3 : Int32))).toNatClampNeg) (xs ((v5 + (4 : Int32))).toNatClampNeg) s1) (qvI (fun r2 s2 =>
  qbind (f_X8_thrown  s2) (qvI (fun r3 s3 =>
  (if r3 = r1 then (if r1 = 0 then (if (lg_cmp (((s3 38 0 0)).toInt64) ((r2).toInt64)) = 0 then rk28 (v5 + (5 : Int32)) s3 else
  (some (.inl (some (qI (0 : Int32))), s3))) else
  rk28 (v5 + (5 : Int32)) s3) else
  (some (.inl (some (qI (0 : Int32))), s3))))) qE0)) qE0 else none) else none) else none) else none))) qE0 else none) else none) else none) else none)
def j_L_law_376 (LL : Nat) (xs : Nat → Int32) (rk28 : Int32 → qS → Option qO) (v5 : Int32) (s0 : qS) : Option qO :=
  (if qin (v5 + (1 : Int32)) LL then qbind (f_L_removeTask (xs ((v5 + (1 : Int32))).toNatClampNeg) s0) (qvI (fun r4 s4 =>
  (if qin (v5 + (1 : Int32)) LL then qbind (f_X8_removeTask (xs ((v5 + (1 : Int32))).toNatClampNeg) s4) (qvI (fun r5 s5 =>
  qbind (f_X8_thrown  s5) (qvI (fun r6 s6 =>
  (if r6 = r4 then (if r4 = 0 then (if (lg_cmp (((s6 38 0 0)).toInt64) ((r5).toInt64)) = 0 then rk28 (v5 + (5 : Int32)) s6 else
  (some (.inl (some (qI (0 : Int32))), s6))) else
  rk28 (v5 + (5 : Int32)) s6) else
  (some (.inl (some (qI (0 : Int32))), s6))))) qE0)) qE0 else none))) qE0 else none)
def j_L_law_432 (LL : Nat) (xs : Nat → Int32) (rk28 : Int32 → qS → Option qO) (v5 : Int32) (s0 : qS) : Option qO :=
  (if qin (v5 + (1 : Int32)) LL then (if qin (v5 + (2 : Int32)) LL then qbind (f_L_addDependency (xs ((v5 + (1 : Int32))).toNatClampNeg) (xs ((v5 + (2 : Int32))).toNatClampNeg) s0) (qvI (fun r7 s7 =>
  (if qin (v5 + (1 : Int32)) LL then (if qin (v5 + (2 : Int32)) LL then qbind (f_X8_addDependency (xs ((v5 + (1 : Int32))).toNatClampNeg) (xs ((v5 + (2 : Int32))).toNatClampNeg) s7) (qvI (fun r8 s8 =>
  qbind (f_X8_thrown  s8) (qvI (fun r9 s9 =>
  (if r9 = r7 then (if r7 = 0 then (if r8 = 0 then (if (lg_cmp (((s9 38 0 0)).toInt64) ((0 : Int64))) = 0 then rk28 (v5 + (5 : Int32)) s9 else
  (some (.inl (some (qI (0 : Int32))), s9))) else
  (if (lg_cmp (((s9 38 0 0)).toInt64) ((1 : Int64))) = 0 then rk28 (v5 + (5 : Int32)) s9 else
  (some (.inl (some (qI (0 : Int32))), s9)))) else
  rk28 (v5 + (5 : Int32)) s9) else
  (some (.inl (some (qI (0 : Int32))), s9))))) qE0)) qE0 else none) else none))) qE0 else none) else none)
def j_L_law_507 (LL : Nat) (xs : Nat → Int32) (rk28 : Int32 → qS → Option qO) (v5 : Int32) (s0 : qS) : Option qO :=
  (if qin (v5 + (1 : Int32)) LL then (if qin (v5 + (2 : Int32)) LL then qbind (f_L_removeDependency (xs ((v5 + (1 : Int32))).toNatClampNeg) (xs ((v5 + (2 : Int32))).toNatClampNeg) s0) (qvI (fun r10 s10 =>
  (if qin (v5 + (1 : Int32)) LL then (if qin (v5 + (2 : Int32)) LL then qbind (f_X8_removeDependency (xs ((v5 + (1 : Int32))).toNatClampNeg) (xs ((v5 + (2 : Int32))).toNatClampNeg) s10) (qvI (fun r11 s11 =>
  qbind (f_X8_thrown  s11) (qvI (fun r12 s12 =>
  (if r12 = r10 then (if r10 = 0 then (if r11 = 0 then (if (lg_cmp (((s12 38 0 0)).toInt64) ((0 : Int64))) = 0 then rk28 (v5 + (5 : Int32)) s12 else
  (some (.inl (some (qI (0 : Int32))), s12))) else
  (if (lg_cmp (((s12 38 0 0)).toInt64) ((1 : Int64))) = 0 then rk28 (v5 + (5 : Int32)) s12 else
  (some (.inl (some (qI (0 : Int32))), s12)))) else
  rk28 (v5 + (5 : Int32)) s12) else
  (some (.inl (some (qI (0 : Int32))), s12))))) qE0)) qE0 else none) else none))) qE0 else none) else none)
def j_L_law_582 (LL : Nat) (xs : Nat → Int32) (rk28 : Int32 → qS → Option qO) (v5 : Int32) (s0 : qS) : Option qO :=
  (if qin (v5 + (1 : Int32)) LL then (if qin (v5 + (2 : Int32)) LL then qbind (f_L_setDuration (xs ((v5 + (1 : Int32))).toNatClampNeg) (xs ((v5 + (2 : Int32))).toNatClampNeg) s0) (qvI (fun r13 s13 =>
  (if qin (v5 + (1 : Int32)) LL then (if qin (v5 + (2 : Int32)) LL then qbind (f_X8_setDuration (xs ((v5 + (1 : Int32))).toNatClampNeg) (xs ((v5 + (2 : Int32))).toNatClampNeg) s13) (qvI (fun r14 s14 =>
  qbind (f_X8_thrown  s14) (qvI (fun r15 s15 =>
  (if r15 = r13 then (if r13 = 0 then (if (lg_cmp (((s15 38 0 0)).toInt64) ((r14).toInt64)) = 0 then rk28 (v5 + (5 : Int32)) s15 else
  (some (.inl (some (qI (0 : Int32))), s15))) else
  rk28 (v5 + (5 : Int32)) s15) else
  (some (.inl (some (qI (0 : Int32))), s15))))) qE0)) qE0 else none) else none))) qE0 else none) else none)
def j_L_law_650 (LL : Nat) (xs : Nat → Int32) (rk28 : Int32 → qS → Option qO) (v5 : Int32) (s0 : qS) : Option qO :=
  (if qin (v5 + (1 : Int32)) LL then (if qin (v5 + (2 : Int32)) LL then qbind (f_L_setRelease (xs ((v5 + (1 : Int32))).toNatClampNeg) (xs ((v5 + (2 : Int32))).toNatClampNeg) s0) (qvI (fun r16 s16 =>
  (if qin (v5 + (1 : Int32)) LL then (if qin (v5 + (2 : Int32)) LL then qbind (f_X8_setRelease (xs ((v5 + (1 : Int32))).toNatClampNeg) (xs ((v5 + (2 : Int32))).toNatClampNeg) s16) (qvI (fun r17 s17 =>
  qbind (f_X8_thrown  s17) (qvI (fun r18 s18 =>
  (if r18 = r16 then (if r16 = 0 then (if (lg_cmp (((s18 38 0 0)).toInt64) ((r17).toInt64)) = 0 then rk28 (v5 + (5 : Int32)) s18 else
  (some (.inl (some (qI (0 : Int32))), s18))) else
  rk28 (v5 + (5 : Int32)) s18) else
  (some (.inl (some (qI (0 : Int32))), s18))))) qE0)) qE0 else none) else none))) qE0 else none) else none)
def j_L_law_718 (LL : Nat) (xs : Nat → Int32) (rk28 : Int32 → qS → Option qO) (v5 : Int32) (s0 : qS) : Option qO :=
  (if qin (v5 + (1 : Int32)) LL then (if qin (v5 + (2 : Int32)) LL then qbind (f_L_setLimit (xs ((v5 + (1 : Int32))).toNatClampNeg) (xs ((v5 + (2 : Int32))).toNatClampNeg) s0) (qvI (fun r19 s19 =>
  (if qin (v5 + (1 : Int32)) LL then (if qin (v5 + (2 : Int32)) LL then qbind (f_X8_setLimit (xs ((v5 + (1 : Int32))).toNatClampNeg) (xs ((v5 + (2 : Int32))).toNatClampNeg) s19) (qvI (fun r20 s20 =>
  qbind (f_X8_thrown  s20) (qvI (fun r21 s21 =>
  (if r21 = r19 then (if r19 = 0 then (if (lg_cmp (((s21 38 0 0)).toInt64) ((r20).toInt64)) = 0 then rk28 (v5 + (5 : Int32)) s21 else
  (some (.inl (some (qI (0 : Int32))), s21))) else
  rk28 (v5 + (5 : Int32)) s21) else
  (some (.inl (some (qI (0 : Int32))), s21))))) qE0)) qE0 else none) else none))) qE0 else none) else none)
def j_L_law_786 (LL : Nat) (xs : Nat → Int32) (rk28 : Int32 → qS → Option qO) (v5 : Int32) (s0 : qS) : Option qO :=
  qbind (f_X7_takeBaseline  s0) (qvI (fun r22 s22 =>
  qbind (f_X8_takeBaseline  s22) (qvI (fun r23 s23 =>
  (if r22 = r23 then rk28 (v5 + (5 : Int32)) s23 else
  (some (.inl (some (qI (0 : Int32))), s23))))) qE0)) qE0
def j_L_law_799 (LL : Nat) (xs : Nat → Int32) (rk28 : Int32 → qS → Option qO) (v5 : Int32) (s0 : qS) : Option qO :=
  qbind (f_X7_taskCount  s0) (qvI (fun r24 s24 =>
  qbind (f_X8_taskCount  s24) (qvI (fun r25 s25 =>
  (if r24 = r25 then rk28 (v5 + (5 : Int32)) s25 else
  (some (.inl (some (qI (0 : Int32))), s25))))) qE0)) qE0
def j_L_law_812 (LL : Nat) (xs : Nat → Int32) (rk28 : Int32 → qS → Option qO) (v5 : Int32) (s0 : qS) : Option qO :=
  (if qin (v5 + (1 : Int32)) LL then qbind (f_L_duration (xs ((v5 + (1 : Int32))).toNatClampNeg) s0) (qvI (fun r26 s26 =>
  (if qin (v5 + (1 : Int32)) LL then qbind (f_X8_duration (xs ((v5 + (1 : Int32))).toNatClampNeg) s26) (qvI (fun r27 s27 =>
  qbind (f_X8_thrown  s27) (qvI (fun r28 s28 =>
  (if r28 = r26 then (if r26 = 0 then (if (lg_cmp (((s28 38 0 0)).toInt64) ((r27).toInt64)) = 0 then rk28 (v5 + (5 : Int32)) s28 else
  (some (.inl (some (qI (0 : Int32))), s28))) else
  rk28 (v5 + (5 : Int32)) s28) else
  (some (.inl (some (qI (0 : Int32))), s28))))) qE0)) qE0 else none))) qE0 else none)
def j_L_law_868 (LL : Nat) (xs : Nat → Int32) (rk28 : Int32 → qS → Option qO) (v5 : Int32) (s0 : qS) : Option qO :=
  (if qin (v5 + (1 : Int32)) LL then qbind (f_L_resource (xs ((v5 + (1 : Int32))).toNatClampNeg) s0) (qvI (fun r29 s29 =>
  (if qin (v5 + (1 : Int32)) LL then qbind (f_X8_resource (xs ((v5 + (1 : Int32))).toNatClampNeg) s29) (qvI (fun r30 s30 =>
  qbind (f_X8_thrown  s30) (qvI (fun r31 s31 =>
  (if r31 = r29 then (if r29 = 0 then (if (lg_cmp (((s31 38 0 0)).toInt64) ((r30).toInt64)) = 0 then rk28 (v5 + (5 : Int32)) s31 else
  (some (.inl (some (qI (0 : Int32))), s31))) else
  rk28 (v5 + (5 : Int32)) s31) else
  (some (.inl (some (qI (0 : Int32))), s31))))) qE0)) qE0 else none))) qE0 else none)
def j_L_law_924 (LL : Nat) (xs : Nat → Int32) (rk28 : Int32 → qS → Option qO) (v5 : Int32) (s0 : qS) : Option qO :=
  (if qin (v5 + (1 : Int32)) LL then qbind (f_L_demand (xs ((v5 + (1 : Int32))).toNatClampNeg) s0) (qvI (fun r32 s32 =>
  (if qin (v5 + (1 : Int32)) LL then qbind (f_X8_demand (xs ((v5 + (1 : Int32))).toNatClampNeg) s32) (qvI (fun r33 s33 =>
  qbind (f_X8_thrown  s33) (qvI (fun r34 s34 =>
  (if r34 = r32 then (if r32 = 0 then (if (lg_cmp (((s34 38 0 0)).toInt64) ((r33).toInt64)) = 0 then rk28 (v5 + (5 : Int32)) s34 else
  (some (.inl (some (qI (0 : Int32))), s34))) else
  rk28 (v5 + (5 : Int32)) s34) else
  (some (.inl (some (qI (0 : Int32))), s34))))) qE0)) qE0 else none))) qE0 else none)
def j_L_law_980 (LL : Nat) (xs : Nat → Int32) (rk28 : Int32 → qS → Option qO) (v5 : Int32) (s0 : qS) : Option qO :=
  (if qin (v5 + (1 : Int32)) LL then qbind (f_L_release (xs ((v5 + (1 : Int32))).toNatClampNeg) s0) (qvI (fun r35 s35 =>
  (if qin (v5 + (1 : Int32)) LL then qbind (f_X8_release (xs ((v5 + (1 : Int32))).toNatClampNeg) s35) (qvI (fun r36 s36 =>
  qbind (f_X8_thrown  s36) (qvI (fun r37 s37 =>
  (if r37 = r35 then (if r35 = 0 then (if (lg_cmp (((s37 38 0 0)).toInt64) ((r36).toInt64)) = 0 then rk28 (v5 + (5 : Int32)) s37 else
  (some (.inl (some (qI (0 : Int32))), s37))) else
  rk28 (v5 + (5 : Int32)) s37) else
  (some (.inl (some (qI (0 : Int32))), s37))))) qE0)) qE0 else none))) qE0 else none)
def j_L_law_1036 (LL : Nat) (xs : Nat → Int32) (rk28 : Int32 → qS → Option qO) (v5 : Int32) (s0 : qS) : Option qO :=
  (if qin (v5 + (1 : Int32)) LL then qbind (f_L_limit (xs ((v5 + (1 : Int32))).toNatClampNeg) s0) (qvI (fun r38 s38 =>
  (if qin (v5 + (1 : Int32)) LL then qbind (f_X8_limit (xs ((v5 + (1 : Int32))).toNatClampNeg) s38) (qvI (fun r39 s39 =>
  qbind (f_X8_thrown  s39) (qvI (fun r40 s40 =>
  (if r40 = r38 then (if r38 = 0 then (if (lg_cmp (((s40 38 0 0)).toInt64) ((r39).toInt64)) = 0 then rk28 (v5 + (5 : Int32)) s40 else
  (some (.inl (some (qI (0 : Int32))), s40))) else
  rk28 (v5 + (5 : Int32)) s40) else
  (some (.inl (some (qI (0 : Int32))), s40))))) qE0)) qE0 else none))) qE0 else none)
def j_L_law_1092 (LL : Nat) (xs : Nat → Int32) (rk28 : Int32 → qS → Option qO) (v5 : Int32) (s0 : qS) : Option qO :=
  (if qin (v5 + (1 : Int32)) LL then (if qin (v5 + (2 : Int32)) LL then qbind (f_L_dependsDirectly (xs ((v5 + (1 : Int32))).toNatClampNeg) (xs ((v5 + (2 : Int32))).toNatClampNeg) s0) (qvI (fun r41 s41 =>
  (if qin (v5 + (1 : Int32)) LL then (if qin (v5 + (2 : Int32)) LL then qbind (f_X8_dependsDirectly (xs ((v5 + (1 : Int32))).toNatClampNeg) (xs ((v5 + (2 : Int32))).toNatClampNeg) s41) (qvI (fun r42 s42 =>
  qbind (f_X8_thrown  s42) (qvI (fun r43 s43 =>
  (if r43 = r41 then (if r41 = 0 then (if r42 = 0 then (if (lg_cmp (((s43 38 0 0)).toInt64) ((0 : Int64))) = 0 then rk28 (v5 + (5 : Int32)) s43 else
  (some (.inl (some (qI (0 : Int32))), s43))) else
  (if (lg_cmp (((s43 38 0 0)).toInt64) ((1 : Int64))) = 0 then rk28 (v5 + (5 : Int32)) s43 else
  (some (.inl (some (qI (0 : Int32))), s43)))) else
  rk28 (v5 + (5 : Int32)) s43) else
  (some (.inl (some (qI (0 : Int32))), s43))))) qE0)) qE0 else none) else none))) qE0 else none) else none)
def j_L_law_1167 (LL : Nat) (xs : Nat → Int32) (rk28 : Int32 → qS → Option qO) (v5 : Int32) (s0 : qS) : Option qO :=
  (if qin (v5 + (1 : Int32)) LL then (if qin (v5 + (2 : Int32)) LL then qbind (f_L_depends (xs ((v5 + (1 : Int32))).toNatClampNeg) (xs ((v5 + (2 : Int32))).toNatClampNeg) s0) (qvI (fun r44 s44 =>
  (if qin (v5 + (1 : Int32)) LL then (if qin (v5 + (2 : Int32)) LL then qbind (f_X8_depends (xs ((v5 + (1 : Int32))).toNatClampNeg) (xs ((v5 + (2 : Int32))).toNatClampNeg) s44) (qvI (fun r45 s45 =>
  qbind (f_X8_thrown  s45) (qvI (fun r46 s46 =>
  (if r46 = r44 then (if r44 = 0 then (if r45 = 0 then (if (lg_cmp (((s46 38 0 0)).toInt64) ((0 : Int64))) = 0 then rk28 (v5 + (5 : Int32)) s46 else
  (some (.inl (some (qI (0 : Int32))), s46))) else
  (if (lg_cmp (((s46 38 0 0)).toInt64) ((1 : Int64))) = 0 then rk28 (v5 + (5 : Int32)) s46 else
  (some (.inl (some (qI (0 : Int32))), s46)))) else
  rk28 (v5 + (5 : Int32)) s46) else
  (some (.inl (some (qI (0 : Int32))), s46))))) qE0)) qE0 else none) else none))) qE0 else none) else none)
def j_L_law_1242 (LL : Nat) (xs : Nat → Int32) (rk28 : Int32 → qS → Option qO) (v5 : Int32) (s0 : qS) : Option qO :=
  (if qin (v5 + (1 : Int32)) LL then (if qin (v5 + (2 : Int32)) LL then qbind (f_L_dependsByClosure (xs ((v5 + (1 : Int32))).toNatClampNeg) (xs ((v5 + (2 : Int32))).toNatClampNeg) s0) (qvI (fun r47 s47 =>
  (if qin (v5 + (1 : Int32)) LL then (if qin (v5 + (2 : Int32)) LL then qbind (f_X8_dependsByClosure (xs ((v5 + (1 : Int32))).toNatClampNeg) (xs ((v5 + (2 : Int32))).toNatClampNeg) s47) (qvI (fun r48 s48 =>
  qbind (f_X8_thrown  s48) (qvI (fun r49 s49 =>
  (if r49 = r47 then (if r47 = 0 then (if r48 = 0 then (if (lg_cmp (((s49 38 0 0)).toInt64) ((0 : Int64))) = 0 then rk28 (v5 + (5 : Int32)) s49 else
  (some (.inl (some (qI (0 : Int32))), s49))) else
  (if (lg_cmp (((s49 38 0 0)).toInt64) ((1 : Int64))) = 0 then rk28 (v5 + (5 : Int32)) s49 else
  (some (.inl (some (qI (0 : Int32))), s49)))) else
  rk28 (v5 + (5 : Int32)) s49) else
  (some (.inl (some (qI (0 : Int32))), s49))))) qE0)) qE0 else none) else none))) qE0 else none) else none)
def j_L_law_1317 (LL : Nat) (xs : Nat → Int32) (rk28 : Int32 → qS → Option qO) (v5 : Int32) (s0 : qS) : Option qO :=
  (if qin (v5 + (1 : Int32)) LL then qbind (f_L_neededCount (xs ((v5 + (1 : Int32))).toNatClampNeg) s0) (qvI (fun r50 s50 =>
  (if qin (v5 + (1 : Int32)) LL then qbind (f_X8_neededCount (xs ((v5 + (1 : Int32))).toNatClampNeg) s50) (qvI (fun r51 s51 =>
  qbind (f_X8_thrown  s51) (qvI (fun r52 s52 =>
  (if r52 = r50 then (if r50 = 0 then (if (lg_cmp (((s52 38 0 0)).toInt64) ((r51).toInt64)) = 0 then rk28 (v5 + (5 : Int32)) s52 else
  (some (.inl (some (qI (0 : Int32))), s52))) else
  rk28 (v5 + (5 : Int32)) s52) else
  (some (.inl (some (qI (0 : Int32))), s52))))) qE0)) qE0 else none))) qE0 else none)
def j_L_law_1373 (LL : Nat) (xs : Nat → Int32) (rk28 : Int32 → qS → Option qO) (v5 : Int32) (s0 : qS) : Option qO :=
  (if qin (v5 + (1 : Int32)) LL then qbind (f_L_dependentCount (xs ((v5 + (1 : Int32))).toNatClampNeg) s0) (qvI (fun r53 s53 =>
  (if qin (v5 + (1 : Int32)) LL then qbind (f_X8_dependentCount (xs ((v5 + (1 : Int32))).toNatClampNeg) s53) (qvI (fun r54 s54 =>
  qbind (f_X8_thrown  s54) (qvI (fun r55 s55 =>
  (if r55 = r53 then (if r53 = 0 then (if (lg_cmp (((s55 38 0 0)).toInt64) ((r54).toInt64)) = 0 then rk28 (v5 + (5 : Int32)) s55 else
  (some (.inl (some (qI (0 : Int32))), s55))) else
  rk28 (v5 + (5 : Int32)) s55) else
  (some (.inl (some (qI (0 : Int32))), s55))))) qE0)) qE0 else none))) qE0 else none)
def j_L_law_1429 (LL : Nat) (xs : Nat → Int32) (rk28 : Int32 → qS → Option qO) (v5 : Int32) (s0 : qS) : Option qO :=
  (if qin (v5 + (1 : Int32)) LL then qbind (f_L_taskInOrder (xs ((v5 + (1 : Int32))).toNatClampNeg) s0) (qvI (fun r56 s56 =>
  (if qin (v5 + (1 : Int32)) LL then qbind (f_X8_taskInOrder (xs ((v5 + (1 : Int32))).toNatClampNeg) s56) (qvI (fun r57 s57 =>
  qbind (f_X8_thrown  s57) (qvI (fun r58 s58 =>
  (if r58 = r56 then (if r56 = 0 then (if (lg_cmp (((s58 38 0 0)).toInt64) ((r57).toInt64)) = 0 then rk28 (v5 + (5 : Int32)) s58 else
  (some (.inl (some (qI (0 : Int32))), s58))) else
  rk28 (v5 + (5 : Int32)) s58) else
  (some (.inl (some (qI (0 : Int32))), s58))))) qE0)) qE0 else none))) qE0 else none)
def j_L_law_1485 (LL : Nat) (xs : Nat → Int32) (rk28 : Int32 → qS → Option qO) (v5 : Int32) (s0 : qS) : Option qO :=
  (if qin (v5 + (1 : Int32)) LL then qbind (f_L_earliestStart (xs ((v5 + (1 : Int32))).toNatClampNeg) s0) (qvI (fun r59 s59 =>
  (if qin (v5 + (1 : Int32)) LL then qbind (f_X8_earliestStart (xs ((v5 + (1 : Int32))).toNatClampNeg) s59) (qvI (fun r60 s60 =>
  qbind (f_X8_thrown  s60) (qvI (fun r61 s61 =>
  (if r61 = r59 then (if r59 = 0 then (if (lg_cmp (((s61 38 0 0)).toInt64) ((r60).toInt64)) = 0 then rk28 (v5 + (5 : Int32)) s61 else
  (some (.inl (some (qI (0 : Int32))), s61))) else
  rk28 (v5 + (5 : Int32)) s61) else
  (some (.inl (some (qI (0 : Int32))), s61))))) qE0)) qE0 else none))) qE0 else none)
def j_L_law_1541 (LL : Nat) (xs : Nat → Int32) (rk28 : Int32 → qS → Option qO) (v5 : Int32) (s0 : qS) : Option qO :=
  (if qin (v5 + (1 : Int32)) LL then qbind (f_L_earliestStartByRounds (xs ((v5 + (1 : Int32))).toNatClampNeg) s0) (qvI (fun r62 s62 =>
  (if qin (v5 + (1 : Int32)) LL then qbind (f_X8_earliestStartByRounds (xs ((v5 + (1 : Int32))).toNatClampNeg) s62) (qvI (fun r63 s63 =>
  qbind (f_X8_thrown  s63) (qvI (fun r64 s64 =>
  (if r64 = r62 then (if r62 = 0 then (if (lg_cmp (((s64 38 0 0)).toInt64) ((r63).toInt64)) = 0 then rk28 (v5 + (5 : Int32)) s64 else
  (some (.inl (some (qI (0 : Int32))), s64))) else
  rk28 (v5 + (5 : Int32)) s64) else
  (some (.inl (some (qI (0 : Int32))), s64))))) qE0)) qE0 else none))) qE0 else none)
def j_L_law_1597 (LL : Nat) (xs : Nat → Int32) (rk28 : Int32 → qS → Option qO) (v5 : Int32) (s0 : qS) : Option qO :=
  (if qin (v5 + (1 : Int32)) LL then qbind (f_L_latestStart (xs ((v5 + (1 : Int32))).toNatClampNeg) s0) (qvI (fun r65 s65 =>
  (if qin (v5 + (1 : Int32)) LL then qbind (f_X8_latestStart (xs ((v5 + (1 : Int32))).toNatClampNeg) s65) (qvI (fun r66 s66 =>
  qbind (f_X8_thrown  s66) (qvI (fun r67 s67 =>
  (if r67 = r65 then (if r65 = 0 then (if (lg_cmp (((s67 38 0 0)).toInt64) ((r66).toInt64)) = 0 then rk28 (v5 + (5 : Int32)) s67 else
  (some (.inl (some (qI (0 : Int32))), s67))) else
  rk28 (v5 + (5 : Int32)) s67) else
  (some (.inl (some (qI (0 : Int32))), s67))))) qE0)) qE0 else none))) qE0 else none)
def j_L_law_1653 (LL : Nat) (xs : Nat → Int32) (rk28 : Int32 → qS → Option qO) (v5 : Int32) (s0 : qS) : Option qO :=
  (if qin (v5 + (1 : Int32)) LL then qbind (f_L_slack (xs ((v5 + (1 : Int32))).toNatClampNeg) s0) (qvI (fun r68 s68 =>
  (if qin (v5 + (1 : Int32)) LL then qbind (f_X8_slack (xs ((v5 + (1 : Int32))).toNatClampNeg) s68) (qvI (fun r69 s69 =>
  qbind (f_X8_thrown  s69) (qvI (fun r70 s70 =>
  (if r70 = r68 then (if r68 = 0 then (if (lg_cmp (((s70 38 0 0)).toInt64) ((r69).toInt64)) = 0 then rk28 (v5 + (5 : Int32)) s70 else
  (some (.inl (some (qI (0 : Int32))), s70))) else
  rk28 (v5 + (5 : Int32)) s70) else
  (some (.inl (some (qI (0 : Int32))), s70))))) qE0)) qE0 else none))) qE0 else none)
def j_L_law_1709 (LL : Nat) (xs : Nat → Int32) (rk28 : Int32 → qS → Option qO) (v5 : Int32) (s0 : qS) : Option qO :=
  (if qin (v5 + (1 : Int32)) LL then qbind (f_L_isCritical (xs ((v5 + (1 : Int32))).toNatClampNeg) s0) (qvI (fun r71 s71 =>
  (if qin (v5 + (1 : Int32)) LL then qbind (f_X8_isCritical (xs ((v5 + (1 : Int32))).toNatClampNeg) s71) (qvI (fun r72 s72 =>
  qbind (f_X8_thrown  s72) (qvI (fun r73 s73 =>
  (if r73 = r71 then (if r71 = 0 then (if r72 = 0 then (if (lg_cmp (((s73 38 0 0)).toInt64) ((0 : Int64))) = 0 then rk28 (v5 + (5 : Int32)) s73 else
  (some (.inl (some (qI (0 : Int32))), s73))) else
  (if (lg_cmp (((s73 38 0 0)).toInt64) ((1 : Int64))) = 0 then rk28 (v5 + (5 : Int32)) s73 else
  (some (.inl (some (qI (0 : Int32))), s73)))) else
  rk28 (v5 + (5 : Int32)) s73) else
  (some (.inl (some (qI (0 : Int32))), s73))))) qE0)) qE0 else none))) qE0 else none)
def j_L_law_1772 (LL : Nat) (xs : Nat → Int32) (rk28 : Int32 → qS → Option qO) (v5 : Int32) (s0 : qS) : Option qO :=
  qbind (f_X7_projectLength  s0) (qvI (fun r74 s74 =>
  qbind (f_X8_projectLength  s74) (qvI (fun r75 s75 =>
  (if r74 = r75 then rk28 (v5 + (5 : Int32)) s75 else
  (some (.inl (some (qI (0 : Int32))), s75))))) qE0)) qE0
def j_L_law_1785 (LL : Nat) (xs : Nat → Int32) (rk28 : Int32 → qS → Option qO) (v5 : Int32) (s0 : qS) : Option qO :=
  qbind (f_X7_criticalCount  s0) (qvI (fun r76 s76 =>
  qbind (f_X8_criticalCount  s76) (qvI (fun r77 s77 =>
  (if r76 = r77 then rk28 (v5 + (5 : Int32)) s77 else
  (some (.inl (some (qI (0 : Int32))), s77))))) qE0)) qE0
def j_L_law_1798 (LL : Nat) (xs : Nat → Int32) (rk28 : Int32 → qS → Option qO) (v5 : Int32) (s0 : qS) : Option qO :=
  qbind (f_L_lastTask  s0) (qvI (fun r78 s78 =>
  qbind (f_X8_lastTask  s78) (qvI (fun r79 s79 =>
  qbind (f_X8_thrown  s79) (qvI (fun r80 s80 =>
  (if r80 = r78 then (if r78 = 0 then (if (lg_cmp (((s80 38 0 0)).toInt64) ((r79).toInt64)) = 0 then rk28 (v5 + (5 : Int32)) s80 else
  (some (.inl (some (qI (0 : Int32))), s80))) else
  rk28 (v5 + (5 : Int32)) s80) else
  (some (.inl (some (qI (0 : Int32))), s80))))) qE0)) qE0)) qE0
def j_L_law_1842 (LL : Nat) (xs : Nat → Int32) (rk28 : Int32 → qS → Option qO) (v5 : Int32) (s0 : qS) : Option qO :=
  (if qin (v5 + (1 : Int32)) LL then qbind (f_L_levelledStart (xs ((v5 + (1 : Int32))).toNatClampNeg) s0) (qvI (fun r81 s81 =>
  (if qin (v5 + (1 : Int32)) LL then qbind (f_X8_levelledStart (xs ((v5 + (1 : Int32))).toNatClampNeg) s81) (qvI (fun r82 s82 =>
  qbind (f_X8_thrown  s82) (qvI (fun r83 s83 =>
  (if r83 = r81 then (if r81 = 0 then (if (lg_cmp (((s83 38 0 0)).toInt64) ((r82).toInt64)) = 0 then rk28 (v5 + (5 : Int32)) s83 else
  (some (.inl (some (qI (0 : Int32))), s83))) else
  rk28 (v5 + (5 : Int32)) s83) else
  (some (.inl (some (qI (0 : Int32))), s83))))) qE0)) qE0 else none))) qE0 else none)
def j_L_law_1898 (LL : Nat) (xs : Nat → Int32) (rk28 : Int32 → qS → Option qO) (v5 : Int32) (s0 : qS) : Option qO :=
  qbind (f_X7_levelledLength  s0) (qvI (fun r84 s84 =>
  qbind (f_X8_levelledLength  s84) (qvI (fun r85 s85 =>
  (if r84 = r85 then rk28 (v5 + (5 : Int32)) s85 else
  (some (.inl (some (qI (0 : Int32))), s85))))) qE0)) qE0
def j_L_law_1911 (LL : Nat) (xs : Nat → Int32) (rk28 : Int32 → qS → Option qO) (v5 : Int32) (s0 : qS) : Option qO :=
  (if qin (v5 + (1 : Int32)) LL then (if qin (v5 + (2 : Int32)) LL then qbind (f_L_usage (xs ((v5 + (1 : Int32))).toNatClampNeg) (xs ((v5 + (2 : Int32))).toNatClampNeg) s0) (qvI (fun r86 s86 =>
  (if qin (v5 + (1 : Int32)) LL then (if qin (v5 + (2 : Int32)) LL then qbind (f_X8_usage (xs ((v5 + (1 : Int32))).toNatClampNeg) (xs ((v5 + (2 : Int32))).toNatClampNeg) s86) (qvI (fun r87 s87 =>
  qbind (f_X8_thrown  s87) (qvI (fun r88 s88 =>
  (if r88 = r86 then (if r86 = 0 then (if (lg_cmp (((s88 38 0 0)).toInt64) ((r87).toInt64)) = 0 then rk28 (v5 + (5 : Int32)) s88 else
  (some (.inl (some (qI (0 : Int32))), s88))) else
  rk28 (v5 + (5 : Int32)) s88) else
  (some (.inl (some (qI (0 : Int32))), s88))))) qE0)) qE0 else none) else none))) qE0 else none) else none)
def j_L_law_1979 (LL : Nat) (xs : Nat → Int32) (rk28 : Int32 → qS → Option qO) (v5 : Int32) (s0 : qS) : Option qO :=
  (if qin (v5 + (1 : Int32)) LL then (if qin (v5 + (2 : Int32)) LL then qbind (f_L_usageByTasks (xs ((v5 + (1 : Int32))).toNatClampNeg) (xs ((v5 + (2 : Int32))).toNatClampNeg) s0) (qvI (fun r89 s89 =>
  (if qin (v5 + (1 : Int32)) LL then (if qin (v5 + (2 : Int32)) LL then qbind (f_X8_usageByTasks (xs ((v5 + (1 : Int32))).toNatClampNeg) (xs ((v5 + (2 : Int32))).toNatClampNeg) s89) (qvI (fun r90 s90 =>
  qbind (f_X8_thrown  s90) (qvI (fun r91 s91 =>
  (if r91 = r89 then (if r89 = 0 then (if (lg_cmp (((s91 38 0 0)).toInt64) ((r90).toInt64)) = 0 then rk28 (v5 + (5 : Int32)) s91 else
  (some (.inl (some (qI (0 : Int32))), s91))) else
  rk28 (v5 + (5 : Int32)) s91) else
  (some (.inl (some (qI (0 : Int32))), s91))))) qE0)) qE0 else none) else none))) qE0 else none) else none)
def j_L_law_2047 (LL : Nat) (xs : Nat → Int32) (rk28 : Int32 → qS → Option qO) (v5 : Int32) (s0 : qS) : Option qO :=
  (if qin (v5 + (1 : Int32)) LL then qbind (f_L_peakUsage (xs ((v5 + (1 : Int32))).toNatClampNeg) s0) (qvI (fun r92 s92 =>
  (if qin (v5 + (1 : Int32)) LL then qbind (f_X8_peakUsage (xs ((v5 + (1 : Int32))).toNatClampNeg) s92) (qvI (fun r93 s93 =>
  qbind (f_X8_thrown  s93) (qvI (fun r94 s94 =>
  (if r94 = r92 then (if r92 = 0 then (if (lg_cmp (((s94 38 0 0)).toInt64) ((r93).toInt64)) = 0 then rk28 (v5 + (5 : Int32)) s94 else
  (some (.inl (some (qI (0 : Int32))), s94))) else
  rk28 (v5 + (5 : Int32)) s94) else
  (some (.inl (some (qI (0 : Int32))), s94))))) qE0)) qE0 else none))) qE0 else none)
def j_L_law_2103 (LL : Nat) (xs : Nat → Int32) (rk28 : Int32 → qS → Option qO) (v5 : Int32) (s0 : qS) : Option qO :=
  (if qin (v5 + (1 : Int32)) LL then qbind (f_L_tasksOn (xs ((v5 + (1 : Int32))).toNatClampNeg) s0) (qvI (fun r95 s95 =>
  (if qin (v5 + (1 : Int32)) LL then qbind (f_X8_tasksOn (xs ((v5 + (1 : Int32))).toNatClampNeg) s95) (qvI (fun r96 s96 =>
  qbind (f_X8_thrown  s96) (qvI (fun r97 s97 =>
  (if r97 = r95 then (if r95 = 0 then (if (lg_cmp (((s97 38 0 0)).toInt64) ((r96).toInt64)) = 0 then rk28 (v5 + (5 : Int32)) s97 else
  (some (.inl (some (qI (0 : Int32))), s97))) else
  rk28 (v5 + (5 : Int32)) s97) else
  (some (.inl (some (qI (0 : Int32))), s97))))) qE0)) qE0 else none))) qE0 else none)
def j_L_law_2159 (LL : Nat) (xs : Nat → Int32) (rk28 : Int32 → qS → Option qO) (v5 : Int32) (s0 : qS) : Option qO :=
  (if qin (v5 + (1 : Int32)) LL then qbind (f_L_workload (xs ((v5 + (1 : Int32))).toNatClampNeg) s0) (qvI (fun r98 s98 =>
  (if qin (v5 + (1 : Int32)) LL then qbind (f_X8_workload (xs ((v5 + (1 : Int32))).toNatClampNeg) s98) (qvI (fun r99 s99 =>
  qbind (f_X8_thrown  s99) (qvI (fun r100 s100 =>
  (if r100 = r98 then (if r98 = 0 then (if (lg_cmp (((s100 38 0 0)).toInt64) ((r99).toInt64)) = 0 then rk28 (v5 + (5 : Int32)) s100 else
  (some (.inl (some (qI (0 : Int32))), s100))) else
  rk28 (v5 + (5 : Int32)) s100) else
  (some (.inl (some (qI (0 : Int32))), s100))))) qE0)) qE0 else none))) qE0 else none)
def j_L_law_2215 (LL : Nat) (xs : Nat → Int32) (rk28 : Int32 → qS → Option qO) (v5 : Int32) (s0 : qS) : Option qO :=
  (if qin (v5 + (1 : Int32)) LL then qbind (f_L_workloadByDays (xs ((v5 + (1 : Int32))).toNatClampNeg) s0) (qvI (fun r101 s101 =>
  (if qin (v5 + (1 : Int32)) LL then qbind (f_X8_workloadByDays (xs ((v5 + (1 : Int32))).toNatClampNeg) s101) (qvI (fun r102 s102 =>
  qbind (f_X8_thrown  s102) (qvI (fun r103 s103 =>
  (if r103 = r101 then (if r101 = 0 then (if (lg_cmp (((s103 38 0 0)).toInt64) ((r102).toInt64)) = 0 then rk28 (v5 + (5 : Int32)) s103 else
  (some (.inl (some (qI (0 : Int32))), s103))) else
  rk28 (v5 + (5 : Int32)) s103) else
  (some (.inl (some (qI (0 : Int32))), s103))))) qE0)) qE0 else none))) qE0 else none)
def j_L_law_2271 (LL : Nat) (xs : Nat → Int32) (rk28 : Int32 → qS → Option qO) (v5 : Int32) (s0 : qS) : Option qO :=
  qbind (f_X7_hasBaseline  s0) (qvI (fun r104 s104 =>
  qbind (f_X8_hasBaseline  s104) (qvI (fun r105 s105 =>
  (if r104 = r105 then rk28 (v5 + (5 : Int32)) s105 else
  (some (.inl (some (qI (0 : Int32))), s105))))) qE0)) qE0
def j_L_law_2284 (LL : Nat) (xs : Nat → Int32) (rk28 : Int32 → qS → Option qO) (v5 : Int32) (s0 : qS) : Option qO :=
  (if qin (v5 + (1 : Int32)) LL then qbind (f_L_baselineStart (xs ((v5 + (1 : Int32))).toNatClampNeg) s0) (qvI (fun r106 s106 =>
  (if qin (v5 + (1 : Int32)) LL then qbind (f_X8_baselineStart (xs ((v5 + (1 : Int32))).toNatClampNeg) s106) (qvI (fun r107 s107 =>
  qbind (f_X8_thrown  s107) (qvI (fun r108 s108 =>
  (if r108 = r106 then (if r106 = 0 then (if (lg_cmp (((s108 38 0 0)).toInt64) ((r107).toInt64)) = 0 then rk28 (v5 + (5 : Int32)) s108 else
  (some (.inl (some (qI (0 : Int32))), s108))) else
  rk28 (v5 + (5 : Int32)) s108) else
  (some (.inl (some (qI (0 : Int32))), s108))))) qE0)) qE0 else none))) qE0 else none)
def j_L_law_2340 (LL : Nat) (xs : Nat → Int32) (rk28 : Int32 → qS → Option qO) (v5 : Int32) (s0 : qS) : Option qO :=
  (if qin (v5 + (1 : Int32)) LL then qbind (f_L_drift (xs ((v5 + (1 : Int32))).toNatClampNeg) s0) (qvI (fun r109 s109 =>
  (if qin (v5 + (1 : Int32)) LL then qbind (f_X8_drift (xs ((v5 + (1 : Int32))).toNatClampNeg) s109) (qvI (fun r110 s110 =>
  qbind (f_X8_thrown  s110) (qvI (fun r111 s111 =>
  (if r111 = r109 then (if r109 = 0 then (if (lg_cmp (((s111 38 0 0)).toInt64) ((r110).toInt64)) = 0 then rk28 (v5 + (5 : Int32)) s111 else
  (some (.inl (some (qI (0 : Int32))), s111))) else
  rk28 (v5 + (5 : Int32)) s111) else
  (some (.inl (some (qI (0 : Int32))), s111))))) qE0)) qE0 else none))) qE0 else none)
def j_L_law_2396 (LL : Nat) (xs : Nat → Int32) (rk28 : Int32 → qS → Option qO) (v5 : Int32) (s0 : qS) : Option qO :=
  qbind (f_L_totalDrift  s0) (qvI (fun r112 s112 =>
  qbind (f_X8_totalDrift  s112) (qvI (fun r113 s113 =>
  qbind (f_X8_thrown  s113) (qvI (fun r114 s114 =>
  (if r114 = r112 then (if r112 = 0 then (if (lg_cmp (((s114 38 0 0)).toInt64) ((r113).toInt64)) = 0 then rk28 (v5 + (5 : Int32)) s114 else
  (some (.inl (some (qI (0 : Int32))), s114))) else
  rk28 (v5 + (5 : Int32)) s114) else
  (some (.inl (some (qI (0 : Int32))), s114))))) qE0)) qE0)) qE0
def j_L_law_2440 (LL : Nat) (xs : Nat → Int32) (rk28 : Int32 → qS → Option qO) (v5 : Int32) (s0 : qS) : Option qO :=
  (if qin (v5 + (1 : Int32)) LL then qbind (f_L_taskBySlack (xs ((v5 + (1 : Int32))).toNatClampNeg) s0) (qvI (fun r115 s115 =>
  (if qin (v5 + (1 : Int32)) LL then qbind (f_X8_taskBySlack (xs ((v5 + (1 : Int32))).toNatClampNeg) s115) (qvI (fun r116 s116 =>
  qbind (f_X8_thrown  s116) (qvI (fun r117 s117 =>
  (if r117 = r115 then (if r115 = 0 then (if (lg_cmp (((s117 38 0 0)).toInt64) ((r116).toInt64)) = 0 then rk28 (v5 + (5 : Int32)) s117 else
  (some (.inl (some (qI (0 : Int32))), s117))) else
  rk28 (v5 + (5 : Int32)) s117) else
  (some (.inl (some (qI (0 : Int32))), s117))))) qE0)) qE0 else none))) qE0 else none)
def j_L_law_2496 (LL : Nat) (xs : Nat → Int32) (rk28 : Int32 → qS → Option qO) (v5 : Int32) (s0 : qS) : Option qO :=
  (if qin (v5 + (1 : Int32)) LL then qbind (f_L_taskByStart (xs ((v5 + (1 : Int32))).toNatClampNeg) s0) (qvI (fun r118 s118 =>
  (if qin (v5 + (1 : Int32)) LL then qbind (f_X8_taskByStart (xs ((v5 + (1 : Int32))).toNatClampNeg) s118) (qvI (fun r119 s119 =>
  qbind (f_X8_thrown  s119) (qvI (fun r120 s120 =>
  (if r120 = r118 then (if r118 = 0 then (if (lg_cmp (((s120 38 0 0)).toInt64) ((r119).toInt64)) = 0 then rk28 (v5 + (5 : Int32)) s120 else
  (some (.inl (some (qI (0 : Int32))), s120))) else
  rk28 (v5 + (5 : Int32)) s120) else
  (some (.inl (some (qI (0 : Int32))), s120))))) qE0)) qE0 else none))) qE0 else none)
def j_L_law_2552 (LL : Nat) (xs : Nat → Int32) (rk28 : Int32 → qS → Option qO) (v5 : Int32) (s0 : qS) : Option qO :=
  qbind (f_L_meanSlack  s0) (qvI (fun r121 s121 =>
  qbind (f_X8_meanSlack  s121) (qvD (fun r122 s122 =>
  qbind (f_X8_thrown  s122) (qvI (fun r123 s123 =>
  (if r123 = r121 then (if r121 = 0 then (if (Op.cmpValue (FP.dcmp (qdb (s123 39 0 0) (s123 39 0 1)) r122) .l) = 0 then rk28 (v5 + (5 : Int32)) s123 else
  (if (Op.cmpValue (FP.dcmp (qdb (s123 39 0 0) (s123 39 0 1)) (qdb (s123 39 0 0) (s123 39 0 1))) .l) = 0 then (some (.inl (some (qI (0 : Int32))), s123)) else
  (if (Op.cmpValue (FP.dcmp r122 r122) .l) = 0 then (some (.inl (some (qI (0 : Int32))), s123)) else
  rk28 (v5 + (5 : Int32)) s123))) else
  rk28 (v5 + (5 : Int32)) s123) else
  (some (.inl (some (qI (0 : Int32))), s123))))) qE0)) qE0)) qE0
def j_L_law_2617 (LL : Nat) (xs : Nat → Int32) (rk28 : Int32 → qS → Option qO) (v5 : Int32) (s0 : qS) : Option qO :=
  (if qin (v5 + (1 : Int32)) LL then qbind (f_L_utilization (xs ((v5 + (1 : Int32))).toNatClampNeg) s0) (qvI (fun r124 s124 =>
  (if qin (v5 + (1 : Int32)) LL then qbind (f_X8_utilization (xs ((v5 + (1 : Int32))).toNatClampNeg) s124) (qvF (fun r125 s125 =>
  qbind (f_X8_thrown  s125) (qvI (fun r126 s126 =>
  (if r126 = r124 then (if r124 = 0 then (if qn64 (FP.f2d r125) then (if (Op.cmpValue (FP.dcmp (qdb (s126 39 0 0) (s126 39 0 1)) (FP.f2d r125)) .l) = 0 then rk28 (v5 + (5 : Int32)) s126 else
  (if (Op.cmpValue (FP.dcmp (qdb (s126 39 0 0) (s126 39 0 1)) (qdb (s126 39 0 0) (s126 39 0 1))) .l) = 0 then (some (.inl (some (qI (0 : Int32))), s126)) else
  (if (Op.cmpValue (FP.fcmp r125 r125) .l) = 0 then (some (.inl (some (qI (0 : Int32))), s126)) else
  rk28 (v5 + (5 : Int32)) s126))) else none) else
  rk28 (v5 + (5 : Int32)) s126) else
  (some (.inl (some (qI (0 : Int32))), s126))))) qE0)) qE0 else none))) qE0 else none)
def j_L_law_2695 (LL : Nat) (xs : Nat → Int32) (rk28 : Int32 → qS → Option qO) (v5 : Int32) (s0 : qS) : Option qO :=
  qbind (f_X7_isConsistent  s0) (qvI (fun r127 s127 =>
  qbind (f_X8_isConsistent  s127) (qvI (fun r128 s128 =>
  (if r127 = r128 then rk28 (v5 + (5 : Int32)) s128 else
  (some (.inl (some (qI (0 : Int32))), s128))))) qE0)) qE0
def j_L_law_2708 (LL : Nat) (xs : Nat → Int32) (rk28 : Int32 → qS → Option qO) (v5 : Int32) (s0 : qS) : Option qO :=
  (if qin (v5 + (1 : Int32)) LL then qbind (f_L_renderTask (xs ((v5 + (1 : Int32))).toNatClampNeg) s0) (qvI (fun r129 s129 =>
  (if qin (v5 + (1 : Int32)) LL then qbind (f_X8_renderTask (xs ((v5 + (1 : Int32))).toNatClampNeg) s129) (qvI (fun r130 s130 =>
  qbind (f_X8_thrown  s130) (qvI (fun r131 s131 =>
  (if r131 = r129 then (if r129 = 0 then (if (lg_cmp (((s131 38 0 0)).toInt64) ((r130).toInt64)) = 0 then rk28 (v5 + (5 : Int32)) s131 else
  (some (.inl (some (qI (0 : Int32))), s131))) else
  rk28 (v5 + (5 : Int32)) s131) else
  (some (.inl (some (qI (0 : Int32))), s131))))) qE0)) qE0 else none))) qE0 else none)
def j_L_law_2764 (LL : Nat) (xs : Nat → Int32) (rk28 : Int32 → qS → Option qO) (v5 : Int32) (s0 : qS) : Option qO :=
  (if qin (v5 + (1 : Int32)) LL then qbind (f_L_renderUsage (xs ((v5 + (1 : Int32))).toNatClampNeg) s0) (qvI (fun r132 s132 =>
  (if qin (v5 + (1 : Int32)) LL then qbind (f_X8_renderUsage (xs ((v5 + (1 : Int32))).toNatClampNeg) s132) (qvI (fun r133 s133 =>
  qbind (f_X8_thrown  s133) (qvI (fun r134 s134 =>
  (if r134 = r132 then (if r132 = 0 then (if (lg_cmp (((s134 38 0 0)).toInt64) ((r133).toInt64)) = 0 then rk28 (v5 + (5 : Int32)) s134 else
  (some (.inl (some (qI (0 : Int32))), s134))) else
  rk28 (v5 + (5 : Int32)) s134) else
  (some (.inl (some (qI (0 : Int32))), s134))))) qE0)) qE0 else none))) qE0 else none)
def j_L_law_2820 (LL : Nat) (xs : Nat → Int32) (rk28 : Int32 → qS → Option qO) (v5 : Int32) (s0 : qS) : Option qO :=
  (if qin (v5 + (1 : Int32)) LL then qbind (f_L_outputAt (xs ((v5 + (1 : Int32))).toNatClampNeg) s0) (qvI (fun r135 s135 =>
  (if qin (v5 + (1 : Int32)) LL then qbind (f_X8_outputAt (xs ((v5 + (1 : Int32))).toNatClampNeg) s135) (qvI (fun r136 s136 =>
  qbind (f_X8_thrown  s136) (qvI (fun r137 s137 =>
  (if r137 = r135 then (if r135 = 0 then (if (lg_cmp (((s137 38 0 0)).toInt64) ((r136).toInt64)) = 0 then rk28 (v5 + (5 : Int32)) s137 else
  (some (.inl (some (qI (0 : Int32))), s137))) else
  rk28 (v5 + (5 : Int32)) s137) else
  (some (.inl (some (qI (0 : Int32))), s137))))) qE0)) qE0 else none))) qE0 else none)
def j_L_law_2876 (LL : Nat) (xs : Nat → Int32) (rk28 : Int32 → qS → Option qO) (v5 : Int32) (s0 : qS) : Option qO :=
  (if qin (v5 + (1 : Int32)) LL then qbind (f_L_type (((xs ((v5 + (1 : Int32))).toNatClampNeg).toUInt32 % 65536).toInt32) s0) (qvI (fun r138 s138 =>
  (if qin (v5 + (1 : Int32)) LL then qbind (f_X8_type (((xs ((v5 + (1 : Int32))).toNatClampNeg).toUInt32 % 65536).toInt32) s138) (qvI (fun r139 s139 =>
  qbind (f_X8_thrown  s139) (qvI (fun r140 s140 =>
  (if r140 = r138 then (if r138 = 0 then (if (lg_cmp (((s140 38 0 0)).toInt64) ((r139).toInt64)) = 0 then rk28 (v5 + (5 : Int32)) s140 else
  (some (.inl (some (qI (0 : Int32))), s140))) else
  rk28 (v5 + (5 : Int32)) s140) else
  (some (.inl (some (qI (0 : Int32))), s140))))) qE0)) qE0 else none))) qE0 else none)
def j_L_law_2934 (LL : Nat) (xs : Nat → Int32) (rk28 : Int32 → qS → Option qO) (v5 : Int32) (s0 : qS) : Option qO :=
  qbind (f_L_runScript  s0) (qvI (fun r141 s141 =>
  qbind (f_X8_runScript  s141) (qvI (fun r142 s142 =>
  qbind (f_X8_thrown  s142) (qvI (fun r143 s143 =>
  (if r143 = r141 then (if r141 = 0 then (if (lg_cmp (((s143 38 0 0)).toInt64) ((r142).toInt64)) = 0 then rk28 (v5 + (5 : Int32)) s143 else
  (some (.inl (some (qI (0 : Int32))), s143))) else
  rk28 (v5 + (5 : Int32)) s143) else
  (some (.inl (some (qI (0 : Int32))), s143))))) qE0)) qE0)) qE0
def j_L_law_2978 (LL : Nat) (xs : Nat → Int32) (rk28 : Int32 → qS → Option qO) (v5 : Int32) (s0 : qS) : Option qO :=
  qbind (f_L_errorPosition  s0) (qvI (fun r144 s144 =>
  qbind (f_X8_errorPosition  s144) (qvI (fun r145 s145 =>
  qbind (f_X8_thrown  s145) (qvI (fun r146 s146 =>
  (if r146 = r144 then (if r144 = 0 then (if (lg_cmp (((s146 38 0 0)).toInt64) ((r145).toInt64)) = 0 then rk28 (v5 + (5 : Int32)) s146 else
  (some (.inl (some (qI (0 : Int32))), s146))) else
  rk28 (v5 + (5 : Int32)) s146) else
  (some (.inl (some (qI (0 : Int32))), s146))))) qE0)) qE0)) qE0
def j_L_law_3022 (LL : Nat) (xs : Nat → Int32) (rk28 : Int32 → qS → Option qO) (v5 : Int32) (s0 : qS) : Option qO :=
  qbind (f_L_failedCommand  s0) (qvI (fun r147 s147 =>
  qbind (f_X8_failedCommand  s147) (qvI (fun r148 s148 =>
  qbind (f_X8_thrown  s148) (qvI (fun r149 s149 =>
  (if r149 = r147 then (if r147 = 0 then (if (lg_cmp (((s149 38 0 0)).toInt64) ((r148).toInt64)) = 0 then rk28 (v5 + (5 : Int32)) s149 else
  (some (.inl (some (qI (0 : Int32))), s149))) else
  rk28 (v5 + (5 : Int32)) s149) else
  (some (.inl (some (qI (0 : Int32))), s149))))) qE0)) qE0)) qE0
def j_L_law_3066 (LL : Nat) (xs : Nat → Int32) (rk28 : Int32 → qS → Option qO) (v5 : Int32) (s0 : qS) : Option qO :=
  qbind (f_L_failureReason  s0) (qvI (fun r150 s150 =>
  qbind (f_X8_failureReason  s150) (qvI (fun r151 s151 =>
  qbind (f_X8_thrown  s151) (qvI (fun r152 s152 =>
  (if r152 = r150 then (if r150 = 0 then (if (lg_cmp (((s152 38 0 0)).toInt64) ((r151).toInt64)) = 0 then rk28 (v5 + (5 : Int32)) s152 else
  (some (.inl (some (qI (0 : Int32))), s152))) else
  rk28 (v5 + (5 : Int32)) s152) else
  (some (.inl (some (qI (0 : Int32))), s152))))) qE0)) qE0)) qE0
def j_L_law_3110 (LL : Nat) (xs : Nat → Int32) (rk28 : Int32 → qS → Option qO) (v5 : Int32) (s0 : qS) : Option qO :=
  qbind (f_L_undo  s0) (qvI (fun r153 s153 =>
  qbind (f_X8_undo  s153) (qvI (fun r154 s154 =>
  qbind (f_X8_thrown  s154) (qvI (fun r155 s155 =>
  (if r155 = r153 then (if r153 = 0 then (if (lg_cmp (((s155 38 0 0)).toInt64) ((r154).toInt64)) = 0 then rk28 (v5 + (5 : Int32)) s155 else
  (some (.inl (some (qI (0 : Int32))), s155))) else
  rk28 (v5 + (5 : Int32)) s155) else
  (some (.inl (some (qI (0 : Int32))), s155))))) qE0)) qE0)) qE0
def j_L_law_3154 (LL : Nat) (xs : Nat → Int32) (rk28 : Int32 → qS → Option qO) (v5 : Int32) (s0 : qS) : Option qO :=
  qbind (f_X7_save  s0) (qvI (fun r156 s156 =>
  qbind (f_X8_save  s156) (qvI (fun r157 s157 =>
  (if r156 = r157 then rk28 (v5 + (5 : Int32)) s157 else
  (some (.inl (some (qI (0 : Int32))), s157))))) qE0)) qE0
def j_L_law_3167 (LL : Nat) (xs : Nat → Int32) (rk28 : Int32 → qS → Option qO) (v5 : Int32) (s0 : qS) : Option qO :=
  qbind (f_L_restore  s0) (qvI (fun r158 s158 =>
  qbind (f_X8_restore  s158) (qvI (fun r159 s159 =>
  qbind (f_X8_thrown  s159) (qvI (fun r160 s160 =>
  (if r160 = r158 then (if r158 = 0 then (if (lg_cmp (((s160 38 0 0)).toInt64) ((r159).toInt64)) = 0 then rk28 (v5 + (5 : Int32)) s160 else
  (some (.inl (some (qI (0 : Int32))), s160))) else
  rk28 (v5 + (5 : Int32)) s160) else
  (some (.inl (some (qI (0 : Int32))), s160))))) qE0)) qE0)) qE0
def b_L_law_28 (LL : Nat) (xs : Nat → Int32) (rk28 : Int32 → qS → Option qO) (v5 : Int32) (s0 : qS) : Option qO :=
  (if ((Int32.ofNat LL) - (5 : Int32)) < v5 then (some (.inl (some (qI (1 : Int32))), s0)) else
  (if qin v5 LL then (qsw ((xs (v5).toNatClampNeg) &&& (63 : Int32)) 0 [j_L_law_284 LL xs  rk28 v5 s0,
  j_L_law_376 LL xs  rk28 v5 s0,
  j_L_law_432 LL xs  rk28 v5 s0,
  j_L_law_507 LL xs  rk28 v5 s0,
  j_L_law_582 LL xs  rk28 v5 s0,
  j_L_law_650 LL xs  rk28 v5 s0,
  j_L_law_718 LL xs  rk28 v5 s0,
  j_L_law_786 LL xs  rk28 v5 s0,
  j_L_law_799 LL xs  rk28 v5 s0,
  j_L_law_812 LL xs  rk28 v5 s0,
  j_L_law_868 LL xs  rk28 v5 s0,
  j_L_law_924 LL xs  rk28 v5 s0,
  j_L_law_980 LL xs  rk28 v5 s0,
  j_L_law_1036 LL xs  rk28 v5 s0,
  j_L_law_1092 LL xs  rk28 v5 s0,
  j_L_law_1167 LL xs  rk28 v5 s0,
  j_L_law_1242 LL xs  rk28 v5 s0,
  j_L_law_1317 LL xs  rk28 v5 s0,
  j_L_law_1373 LL xs  rk28 v5 s0,
  j_L_law_1429 LL xs  rk28 v5 s0,
  j_L_law_1485 LL xs  rk28 v5 s0,
  j_L_law_1541 LL xs  rk28 v5 s0,
  j_L_law_1597 LL xs  rk28 v5 s0,
  j_L_law_1653 LL xs  rk28 v5 s0,
  j_L_law_1709 LL xs  rk28 v5 s0,
  j_L_law_1772 LL xs  rk28 v5 s0,
  j_L_law_1785 LL xs  rk28 v5 s0,
  j_L_law_1798 LL xs  rk28 v5 s0,
  j_L_law_1842 LL xs  rk28 v5 s0,
  j_L_law_1898 LL xs  rk28 v5 s0,
  j_L_law_1911 LL xs  rk28 v5 s0,
  j_L_law_1979 LL xs  rk28 v5 s0,
  j_L_law_2047 LL xs  rk28 v5 s0,
  j_L_law_2103 LL xs  rk28 v5 s0,
  j_L_law_2159 LL xs  rk28 v5 s0,
  j_L_law_2215 LL xs  rk28 v5 s0,
  j_L_law_2271 LL xs  rk28 v5 s0,
  j_L_law_2284 LL xs  rk28 v5 s0,
  j_L_law_2340 LL xs  rk28 v5 s0,
  j_L_law_2396 LL xs  rk28 v5 s0,
  j_L_law_2440 LL xs  rk28 v5 s0,
  j_L_law_2496 LL xs  rk28 v5 s0,
  j_L_law_2552 LL xs  rk28 v5 s0,
  j_L_law_2617 LL xs  rk28 v5 s0,
  j_L_law_2695 LL xs  rk28 v5 s0,
  j_L_law_2708 LL xs  rk28 v5 s0,
  j_L_law_2764 LL xs  rk28 v5 s0,
  j_L_law_2820 LL xs  rk28 v5 s0,
  j_L_law_2876 LL xs  rk28 v5 s0,
  j_L_law_2934 LL xs  rk28 v5 s0,
  j_L_law_2978 LL xs  rk28 v5 s0,
  j_L_law_3022 LL xs  rk28 v5 s0,
  j_L_law_3066 LL xs  rk28 v5 s0,
  j_L_law_3110 LL xs  rk28 v5 s0,
  j_L_law_3154 LL xs  rk28 v5 s0,
  j_L_law_3167 LL xs  rk28 v5 s0] (rk28 (v5 + (5 : Int32)) s0)) else none))
def l_L_law_28 (LL : Nat) (xs : Nat → Int32) : Nat → Int32 → qS → Option qO
  | 0, _, _ => none
  | n + 1, v5, s0 => b_L_law_28 LL xs (l_L_law_28 LL xs n) v5 s0
