/-! who is taken along: tried at all numbers -/
def chd (n k i j : Nat) : Bool := (decide (k = i) && decide (sec n k = j)) || (decide (k = j) && decide (sec n k = i))
def ms1 (n i B A j k : Nat) : Option Nat := if (A.testBit j && chd n k i j && B.testBit k) = true then some j else none
def msr (n i B A j m : Nat) : List Nat := (List.range m).filterMap (ms1 n i B A j)
def msl (n c i B A m : Nat) : List Nat := (List.range m).flatMap (fun j => msr n i B A j c)
def nrm : List Nat → Nat
  | [] => 0
  | [o] => o + 1
  | _ => 9
theorem nrm_fin : alN 5 (fun n => alN 2 fun r => alN n fun i => alN 16 fun B => alN 16 fun A => decide (nrm (slv n (chn n (decide (r = 1))) i B A) = nrm (msl n (chn n (decide (r = 1))) i B A n) ∧ nrm (slv n (chn n (decide (r = 1))) i B A) ≠ i + 1)) = true := by decide +kernel
