/-! every call on a fresh object: both sides answer alike -/
def ab_both (iC iM : Nat) (as : List ab_V) : Bool := match ab_ec shC mciC mlC cdC 300 7 iC (.inl 29 :: as) gC, ab_ec shM mciM mlM cdM 300 7 iM (.inl 0 :: as) gM with
  | some (some p, _), some (some q, _) => Nat.beq p.1 p.2 && Nat.beq q.1 q.2 && Nat.beq p.1 q.1
  | _, _ => false
def ab_b1 (P : List (Nat × Nat)) (f : List ab_V → Bool) : Bool := P.all fun p => f [.inr (some p)]
def ab_b2 (P Q : List (Nat × Nat)) (f : List ab_V → Bool) : Bool := P.all fun p => Q.all fun q => f [.inr (some p), .inr (some q)]
def ab_b3 (P Q R : List (Nat × Nat)) (f : List ab_V → Bool) : Bool := P.all fun p => Q.all fun q => R.all fun r => f [.inr (some p), .inr (some q), .inr (some r)]
def ab_bj (P : List (Nat × Nat)) (f : List ab_V → Bool) : Bool := P.all fun p => f [.inr (some p), .inr none]
def bx_0 : List (Nat × Nat) := [(0, 2147483647), (2147483648, 2147483648), (2147483649, 2147483649), (2147483650, 2147483650), (2147483651, 4294967295)]
def bx_1 : List (Nat × Nat) := [(0, 2147483647), (2147483648, 2147483648), (2147483649, 2147483649), (2147483650, 2147483650), (2147483651, 2147483651), (2147483652, 4294967295)]
def bx_2 : List (Nat × Nat) := [(0, 2147483646), (2147483647, 2147483647), (2147483648, 2147483648), (2147483649, 4294967295)]
theorem bo_0 : ab_b3 bx_0 bx_1 bx_2 (ab_both 78 32) = true := by decide +kernel
def bx_3 : List (Nat × Nat) := [(0, 2147483647), (2147483648, 2147483648), (2147483649, 4294967295)]
def bx_4 : List (Nat × Nat) := [(0, 2147483647), (2147483648, 4294967295)]
theorem bo_1 : ab_b2 bx_3 bx_4 (ab_both 79 33) = true := by decide +kernel
def bx_5 : List (Nat × Nat) := [(0, 4294967295)]
theorem bo_2 : ab_b3 bx_3 bx_4 bx_5 (ab_both 80 35) = true := by decide +kernel
theorem bo_3 : ab_b2 bx_3 bx_5 (ab_both 81 37) = true := by decide +kernel
def bx_6 : List (Nat × Nat) := [(0, 2147483647), (2147483648, 2147483648), (2147483649, 2147483649), (2147483650, 2147483650), (2147483651, 2147483651), (2147483652, 2147483652), (2147483653, 2147483653), (2147483654, 2147483654), (2147483655, 2147483655), (2147483656, 2147483656), (2147483657, 2147483657), (2147483658, 2147483658), (2147483659, 4294967295)]
theorem bo_4 : ab_b2 bx_1 bx_6 (ab_both 82 38) = true := by decide +kernel
def bx_7 : List (Nat × Nat) := [(0, 2147483646), (2147483647, 2147483647), (2147483648, 2147483648), (2147483649, 2147483649), (2147483650, 2147483650), (2147483651, 2147483651), (2147483652, 2147483652), (2147483653, 2147483653), (2147483654, 2147483654), (2147483655, 2147483655), (2147483656, 2147483656), (2147483657, 2147483657), (2147483658, 2147483658), (2147483659, 4294967295)]
theorem bo_5 : ab_b2 bx_3 bx_7 (ab_both 83 40) = true := by decide +kernel
theorem bo_6 : ab_b1 bx_6 (ab_both 84 41) = true := by decide +kernel
def bx_8 : List (Nat × Nat) := [(0, 2147483647), (2147483648, 2147483648), (2147483649, 2147483649), (2147483650, 2147483650), (2147483651, 2147483651), (2147483652, 2147483652), (2147483653, 2147483653), (2147483654, 2147483654), (2147483655, 2147483655), (2147483656, 2147483656), (2147483657, 2147483657), (2147483658, 2147483658), (2147483659, 2147483659), (2147483660, 2147483660), (2147483661, 4294967295)]
theorem bo_7 : ab_b2 bx_6 bx_8 (ab_both 85 42) = true := by decide +kernel
theorem bo_8 : ab_b2 bx_6 bx_6 (ab_both 86 43) = true := by decide +kernel
theorem bo_9 : ab_b1 bx_6 (ab_both 87 44) = true := by decide +kernel
theorem bo_10 : ab_b1 bx_6 (ab_both 88 45) = true := by decide +kernel
theorem bo_11 : ab_b2 bx_6 bx_3 (ab_both 89 46) = true := by decide +kernel
theorem bo_12 : ab_b2 bx_6 bx_6 (ab_both 90 47) = true := by decide +kernel
def bx_9 : List (Nat × Nat) := [(0, 2147483648), (2147483649, 2147483649), (2147483650, 2147483650), (2147483651, 2147483651), (2147483652, 2147483652), (2147483653, 2147483653), (2147483654, 2147483654), (2147483655, 2147483655), (2147483656, 2147483656), (2147483657, 4294967295)]
theorem bo_13 : ab_bj bx_9 (ab_both 91 48) = true := by decide +kernel
theorem bo_14 : ab_both 92 59 [] = true := by decide +kernel
theorem bo_15 : ab_b1 bx_6 (ab_both 93 62) = true := by decide +kernel
theorem bo_16 : ab_b1 bx_4 (ab_both 94 63) = true := by decide +kernel
def bx_10 : List (Nat × Nat) := [(0, 2147483647), (2147483648, 2147483648), (2147483649, 2147483649), (2147483650, 2147483650), (2147483651, 2147483651), (2147483652, 2147483652), (2147483653, 2147483653), (2147483654, 2147483667), (2147483668, 2147483668), (2147483669, 4294967295)]
theorem bo_17 : ab_b1 bx_10 (ab_both 95 64) = true := by decide +kernel
