/-! SETS OF GOAL CELLS as bits -/
def pop (S : Nat) : Nat := cnt (fun g => S.testBit g) 10
theorem bits_cnt : ((List.range 1024).all fun S => bcE (nI S) == nI (pop S)) = true := by decide +kernel
theorem bits_get : ((List.range 1024).all fun S => (List.range 10).all fun g => (nI S >>> (nI g &&& 31)) &&& 1 == bi (S.testBit g)) = true := by decide +kernel
theorem bits_shl : ((List.range 10).all fun g => (1 : Int32) <<< (nI g &&& 31) == nI (2 ^ g)) = true := by decide +kernel
theorem bits_le : ((List.range 1024).all fun S => (List.range 10).all fun g => if S.testBit g then decide (2 ^ g ≤ S) && decide (S ^^^ 2 ^ g = S - 2 ^ g) else decide (S + 2 ^ g ≤ 1023)) = true := by decide +kernel
theorem bits_rm : ((List.range 1024).all fun S => (List.range 10).all fun g => (List.range 10).all fun h => !(S.testBit g) || ((S - 2 ^ g).testBit h == (S.testBit h && !decide (h = g)))) = true := by decide +kernel
theorem bits_co : ((List.range 1024).all fun S => (List.range 10).all fun g => (List.range 10).all fun h => S.testBit g || ((1023 - S - 2 ^ g).testBit h == (!(S.testBit h) && !decide (h = g)))) = true := by decide +kernel
theorem bits_10 : ((List.range 1024).all fun S => decide (pop S ≤ 10)) = true := by decide +kernel
theorem bits_ex : ((List.range 10).all fun m => (List.range 10).all fun g => (List.range 1023).any fun S => decide (pop S = m) && !(S.testBit g)) = true := by decide +kernel
