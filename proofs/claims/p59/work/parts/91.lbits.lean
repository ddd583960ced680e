/-! how many bits a row of needs has -/
def bcs (x : Int32) (k : UInt32) : Int32 := (x.toUInt32 >>> (k &&& Int32.toUInt32 31)).toInt32
def bc1 (x : Int32) : Int32 := x - (bcs x 1 &&& (1431655765 : Int32))
def bc2 (x : Int32) : Int32 := (x &&& (858993459 : Int32)) + (bcs x 2 &&& (858993459 : Int32))
def bc3 (x : Int32) : Int32 := (x + bcs x 4) &&& (252645135 : Int32)
def bc4 (x : Int32) : Int32 := x + bcs x 8
def bc5 (x : Int32) : Int32 := (x + bcs x 16) &&& (63 : Int32)
theorem bc_eq (x : Int32) (s : qS) : f_J6_bitCount_0f7a4 x s = qan (bc5 (bc4 (bc3 (bc2 (bc1 x))))) s := rfl
theorem bc_key : ∀ a : Fin 64, ∀ b : Fin 64, bc5 (bc4 (bc3 (bc2 (bc1 (nI (64 * a.val + b.val)))))) = nI (gcnt (fun i => Nat.testBit (64 * a.val + b.val) i) 12) := by decide +kernel
