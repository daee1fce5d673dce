section
-- bytes of a number
theorem og_bit_rg (op : Int32 → Int32 → Int32) (x y : Int) : og_i32 (og_bit op x y) := og_ri _
theorem and255 {y : Int} : og_bit og_oand y 255 = y % 256 := by
  unfold og_bit og_oand
  show (Int32.ofInt y &&& Int32.ofInt 255).toBitVec.toInt = _
  rw [Int32.toBitVec_and, Int32.toBitVec_ofInt, Int32.toBitVec_ofInt]
  have e1 : (BitVec.ofInt 32 y).toNat = (y % 4294967296).toNat := by rw [BitVec.toNat_ofInt]; rfl
  have e2 : (BitVec.ofInt 32 255).toNat = 255 := by decide
  have e3 : (BitVec.ofInt 32 y &&& BitVec.ofInt 32 255).toNat = (y % 4294967296).toNat % 256 := by
    rw [BitVec.toNat_and, e1, e2]; exact Nat.and_two_pow_sub_one_eq_mod _ 8
  rw [BitVec.toInt_eq_toNat_of_lt (by rw [e3]; omega), e3]
  omega
theorem shrE {x : Int} {s : Nat} (hx : og_i32 x) (hs : s = 0 ∨ s = 8 ∨ s = 16 ∨ s = 24) : og_bit og_oshr x (s : Int) = x / ((2 ^ s : Nat) : Int) := by
  unfold og_bit og_oshr
  show (Int32.ofInt x >>> (Int32.ofInt (s : Int) &&& 31)).toBitVec.toInt = _
  rw [Int32.toBitVec_shiftRight, BitVec.toInt_sshiftRight']
  have e1 : ((Int32.ofInt (s : Int) &&& 31).toBitVec.smod 32).toNat = s := by
    rcases hs with rfl | rfl | rfl | rfl <;> decide
  have e2 : (Int32.ofInt x).toBitVec.toInt = x := og_ti hx.1 hx.2
  rw [e1, e2, Int.shiftRight_eq_div_pow]
theorem ushrE {x : Int} {s : Nat} (hs : s = 0 ∨ s = 8 ∨ s = 16 ∨ s = 24) : ((og_oushr (Int32.ofInt x) (Int32.ofInt (s : Int))).toBitVec.toNat : Int) = (x % 4294967296) / ((2 ^ s : Nat) : Int) := by
  unfold og_oushr
  rw [UInt32.toBitVec_toInt32, UInt32.toBitVec_shiftRight]
  have e1 : (((Int32.ofInt (s : Int)).toUInt32 &&& Int32.toUInt32 31).toBitVec % 32).toNat = s := by
    rcases hs with rfl | rfl | rfl | rfl <;> decide
  have e2 : (Int32.ofInt x).toUInt32.toBitVec.toNat = (x % 4294967296).toNat := by
    show (BitVec.ofInt 32 x).toNat = _
    rw [BitVec.toNat_ofInt]; rfl
  rw [BitVec.ushiftRight_eq', e1, BitVec.toNat_ushiftRight, Nat.shiftRight_eq_div_pow, e2]
  rcases hs with rfl | rfl | rfl | rfl <;> simp only [Nat.reducePow, Int.cast_ofNat_Int] <;> omega
theorem feedB {x : Int} {s : Nat} (hx : og_i32 x) (hs : s = 0 ∨ s = 8 ∨ s = 16 ∨ s = 24) : og_bit og_oand (og_bit og_oushr x (s : Int)) 255 = og_bit og_oand (og_bit og_oshr x (s : Int)) 255 := by
  rw [and255, and255, shrE hx hs]
  have e := ushrE (x := x) hs
  unfold og_bit
  show (og_oushr (Int32.ofInt x) (Int32.ofInt (s : Int))).toBitVec.toInt % 256 = _
  rw [BitVec.toInt_eq_toNat_bmod]
  have e2 : ((og_oushr (Int32.ofInt x) (Int32.ofInt (s : Int))).toBitVec.toNat : Int).bmod (2 ^ 32) % 256 = ((og_oushr (Int32.ofInt x) (Int32.ofInt (s : Int))).toBitVec.toNat : Int) % 256 := by
    unfold Int.bmod
    generalize ((og_oushr (Int32.ofInt x) (Int32.ofInt (s : Int))).toBitVec.toNat : Int) = y
    simp only [Nat.reducePow, Int.cast_ofNat_Int]
    split <;> omega
  rw [e2, e]
  rcases hs with rfl | rfl | rfl | rfl <;> simp only [Nat.reducePow, Int.cast_ofNat_Int] <;> omega
end
