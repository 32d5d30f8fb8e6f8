/-! SHIFTS AND MASKS OF NUMBERS; written by wip/whole/mdl.py from bits.txt -/
section Bits
theorem nI_bv {x : Nat} : (nI x).toBitVec = BitVec.ofNat 32 x := rfl
theorem bx_31 : ∀ o : Nat, o < 32 → (nI o &&& 31) = nI o := by decide +kernel
theorem bx_sm : ∀ o : Nat, o < 32 → ((nI o).toBitVec.smod 32).toNat = o := by decide +kernel
theorem bx_ext {a c : Int32} (h : a.toBitVec.toNat = c.toBitVec.toNat) : a = c := by
  have : a.toBitVec = c.toBitVec := BitVec.eq_of_toNat_eq h
  exact Int32.toBitVec_inj.mp this
theorem nI_bvn {x : Nat} (hx : x < 2 ^ 32) : (nI x).toBitVec.toNat = x := by
  rw [nI_bv, BitVec.toNat_ofNat]
  exact Nat.mod_eq_of_lt hx
theorem sh_r {x o : Nat} (hx : x < 2 ^ 31) (ho : o < 32) : (nI x >>> (nI o &&& 31)) = nI (x / 2 ^ o) := by
  rw [bx_31 o ho]
  have hle : x / 2 ^ o ≤ x := Nat.div_le_self _ _
  refine bx_ext ?_
  rw [Int32.toBitVec_shiftRight, nI_bvn (x := x / 2 ^ o) (by omega), BitVec.sshiftRight', bx_sm o ho]
  rw [BitVec.sshiftRight_eq_of_msb_false, BitVec.toNat_ushiftRight, nI_bvn (by omega), Nat.shiftRight_eq_div_pow]
  rw [BitVec.msb_eq_decide, nI_bvn (by omega)]
  exact decide_eq_false (by omega)
theorem sh_l {x o : Nat} (hx : x * 2 ^ o < 2 ^ 32) (ho : o < 32) : (nI x <<< (nI o &&& 31)) = nI (x * 2 ^ o) := by
  rw [bx_31 o ho]
  have hp : 0 < 2 ^ o := Nat.two_pow_pos o
  have hle : x ≤ x * 2 ^ o := Nat.le_mul_of_pos_right x hp
  refine bx_ext ?_
  rw [Int32.toBitVec_shiftLeft, nI_bvn (x := x * 2 ^ o) hx, BitVec.shiftLeft_eq', bx_sm o ho, BitVec.toNat_shiftLeft, nI_bvn (by omega), Nat.shiftLeft_eq]
  exact Nat.mod_eq_of_lt hx
theorem an_nI {x y : Nat} (hx : x < 2 ^ 32) (hy : y < 2 ^ 32) : (nI x &&& nI y) = nI (x &&& y) := by
  refine bx_ext ?_
  have : x &&& y ≤ x := Nat.and_le_left
  rw [Int32.toBitVec_and, BitVec.toNat_and, nI_bvn hx, nI_bvn hy, nI_bvn (by omega)]
theorem or_nI {x y : Nat} (hx : x < 2 ^ 31) (hy : y < 2 ^ 31) : (nI x ||| nI y) = nI (x ||| y) := by
  refine bx_ext ?_
  have := Nat.or_lt_two_pow hx hy
  rw [Int32.toBitVec_or, BitVec.toNat_or, nI_bvn (by omega), nI_bvn (by omega), nI_bvn (by omega)]
theorem bit_nI {x o : Nat} (hx : x < 2 ^ 31) (ho : o < 32) : ((nI x >>> (nI o &&& 31)) &&& 1) = nI (if x.testBit o then 1 else 0) := by
  rw [sh_r hx ho, show (1 : Int32) = nI 1 from rfl, an_nI (by have : x / 2 ^ o ≤ x := Nat.div_le_self _ _; omega) (by decide), Nat.and_one_is_mod]
  congr 1
  rw [Nat.testBit_eq_decide_div_mod_eq]
  by_cases h : x / 2 ^ o % 2 = 1
  · rw [decide_eq_true h, h]; rfl
  · rw [decide_eq_false h]
    have : x / 2 ^ o % 2 = 0 := by omega
    rw [this]; rfl
theorem bit_0 {x o : Nat} (hx : x < 2 ^ 31) (ho : o < 32) : (((nI x >>> (nI o &&& 31)) &&& 1) = 0) ↔ x.testBit o = false := by
  rw [bit_nI hx ho]
  cases x.testBit o <;> decide
theorem bit_1 {x o : Nat} (hx : x < 2 ^ 31) (ho : o < 32) : (((nI x >>> (nI o &&& 31)) &&& 1) = 1) ↔ x.testBit o = true := by
  rw [bit_nI hx ho]
  cases x.testBit o <;> decide
theorem pw_nI {m : Nat} (hm : m < 31) : ((1 : Int32) <<< (nI m &&& 31)) = nI (2 ^ m) := by
  have h : 2 ^ m < 2 ^ 31 := Nat.pow_lt_pow_right (by decide) hm
  have k := sh_l (x := 1) (o := m) (by omega) (by omega)
  rw [Nat.one_mul] at k
  exact k
end Bits
