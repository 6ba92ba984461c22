/-! Layer 2, 31: volumes and prices as floats -/
def vzp (d w : Nat) : UInt32 := FP.fmul (FP.i2f (nI d + 1)) (FP.i2f (nI w))
def vz (d w : Nat) : UInt32 := FP.fdiv (vzp d w) (1092616192 : UInt32)
def vzc (x : UInt32) : Bool := match FP.Core.decode FP.Core.b32 x.toNat with
  | .fin false c q => decide (0 < c) && decide (c < 2 ^ 24) && decide (-149 ≤ q) && decide (q ≤ -17)
  | _ => false
def okV (k : Nat) : Bool := n32 (vzp (k / 99) (k % 99 + 1)) && n32 (vz (k / 99) (k % 99 + 1)) && vzc (vz (k / 99) (k % 99 + 1))
theorem okV_all : (List.range 1188).all okV = true := by decide +kernel
