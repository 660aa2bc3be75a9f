/-! PURE: four bytes in an int, and out again -/
section P95
variable {n k b s a c d m : Nat}
theorem sar_n (hn : n < 2147483648) (hk : k = 24 ∨ k = 16 ∨ k = 8 ∨ k = 0) : Int32.ofNat n >>> Int32.ofNat k = Int32.ofNat (n / 2 ^ k) := by
  rw [← Int32.toBitVec_inj, Int32.toBitVec_shiftRight]
  have e : (Int32.ofNat k).toBitVec.smod 32 = BitVec.ofNat 32 k := by rcases hk with rfl | rfl | rfl | rfl <;> decide
  have hk2 : k < 32 := by omega
  rw [e]
  show (BitVec.ofNat 32 n).sshiftRight' (BitVec.ofNat 32 k) = BitVec.ofNat 32 (n / 2 ^ k)
  have hm : (BitVec.ofNat 32 n).msb = false := by
    rw [BitVec.msb_eq_false_iff_two_mul_lt, BitVec.toNat_ofNat, Nat.mod_eq_of_lt (by omega)]
    omega
  have e2 : (BitVec.ofNat 32 k).toNat = k := by rw [BitVec.toNat_ofNat, Nat.mod_eq_of_lt (by omega)]
  rw [BitVec.sshiftRight_eq', BitVec.sshiftRight_eq_of_msb_false hm, e2]
  refine BitVec.eq_of_toNat_eq ?_
  have h2 : n / 2 ^ k < 2 ^ 32 := Nat.lt_of_le_of_lt (Nat.div_le_self _ _) (by omega)
  rw [BitVec.toNat_ushiftRight, BitVec.toNat_ofNat, BitVec.toNat_ofNat, Nat.mod_eq_of_lt (by omega), Nat.mod_eq_of_lt h2, Nat.shiftRight_eq_div_pow]
theorem or_n (hs : s = 24 ∨ s = 16 ∨ s = 8 ∨ s = 0) (hb : b < 128) (hm : m * 2 ^ (s + 8) + b * 2 ^ s < 2147483648) : Int32.ofNat (m * 2 ^ (s + 8)) ||| (Int32.ofNat b <<< (Int32.ofNat s &&& 31)) = Int32.ofNat (m * 2 ^ (s + 8) + b * 2 ^ s) := by
  have e0 : Int32.ofNat s &&& 31 = Int32.ofNat s := by rcases hs with rfl | rfl | rfl | rfl <;> decide
  rw [e0, ← Int32.toBitVec_inj, Int32.toBitVec_or, Int32.toBitVec_shiftLeft]
  have e : (Int32.ofNat s).toBitVec.smod 32 = BitVec.ofNat 32 s := by rcases hs with rfl | rfl | rfl | rfl <;> decide
  rw [e]
  refine BitVec.eq_of_toNat_eq ?_
  rw [BitVec.toNat_or]
  show (BitVec.ofNat 32 (m * 2 ^ (s + 8))).toNat ||| (BitVec.ofNat 32 b <<< BitVec.ofNat 32 s).toNat = (BitVec.ofNat 32 (m * 2 ^ (s + 8) + b * 2 ^ s)).toNat
  have e2 : (BitVec.ofNat 32 s).toNat = s := by rw [BitVec.toNat_ofNat, Nat.mod_eq_of_lt (by omega)]
  rw [BitVec.shiftLeft_eq', BitVec.toNat_shiftLeft, e2]
  simp only [BitVec.toNat_ofNat]
  rw [Nat.mod_eq_of_lt (show b < 2 ^ 32 by omega), Nat.mod_eq_of_lt (show m * 2 ^ (s + 8) < 2 ^ 32 by omega), Nat.mod_eq_of_lt (show m * 2 ^ (s + 8) + b * 2 ^ s < 2 ^ 32 by omega), Nat.shiftLeft_eq, Nat.mod_eq_of_lt (show b * 2 ^ s < 2 ^ 32 by omega)]
  have hlt : b * 2 ^ s < 2 ^ (s + 8) := by
    rw [Nat.pow_add, Nat.mul_comm]
    exact Nat.mul_lt_mul_of_pos_left (by omega) (Nat.pow_pos (by decide))
  have := Nat.shiftLeft_add_eq_or_of_lt hlt m
  rw [Nat.shiftLeft_eq] at this
  rw [← this]
theorem sx_n (n : Nat) : sx (Int32.ofNat n) = sx (Int32.ofNat (n % 256)) := by
  have h : (Int32.ofNat n).toInt8 = (Int32.ofNat (n % 256)).toInt8 := by
    rw [Int32.toInt8_ofNat', Int32.toInt8_ofNat']
    refine Int8.toBitVec_inj.mp (BitVec.eq_of_toNat_eq ?_)
    show (BitVec.ofNat 8 n).toNat = (BitVec.ofNat 8 (n % 256)).toNat
    rw [BitVec.toNat_ofNat, BitVec.toNat_ofNat]
    omega
  unfold sx
  rw [h]
/-- the int of four bytes, as the law packs them -/
def pk4 (f : Nat → Nat) : Int32 := ((((0 : Int32) ||| (Int32.ofNat (f 0) <<< (24 : Int32))) ||| (Int32.ofNat (f 1) <<< (16 : Int32))) ||| (Int32.ofNat (f 2) <<< (8 : Int32))) ||| (Int32.ofNat (f 3) <<< (0 : Int32))
theorem pk4_n {f : Nat → Nat} (hf : ∀ i, i < 4 → f i < 128) : pk4 f = Int32.ofNat (f 0 * 16777216 + f 1 * 65536 + f 2 * 256 + f 3) := by
  have h0 := hf 0 (by decide)
  have h1 := hf 1 (by decide)
  have h2 := hf 2 (by decide)
  have h3 := hf 3 (by decide)
  have a0 := or_n (s := 24) (m := 0) (Or.inl rfl) h0 (by omega)
  have a1 := or_n (s := 16) (m := f 0) (Or.inr (Or.inl rfl)) h1 (by omega)
  have a2 := or_n (s := 8) (m := f 0 * 256 + f 1) (Or.inr (Or.inr (Or.inl rfl))) h2 (by omega)
  have a3 := or_n (s := 0) (m := (f 0 * 256 + f 1) * 256 + f 2) (Or.inr (Or.inr (Or.inr rfl))) h3 (by omega)
  unfold pk4
  rw [show (0 : Int32) ||| (Int32.ofNat (f 0) <<< (24 : Int32)) = Int32.ofNat (f 0 * 2 ^ (16 + 8)) by rw [show (16 : Nat) + 8 = 24 from rfl]; rw [Nat.zero_mul, Nat.zero_add] at a0; exact a0]
  rw [show Int32.ofNat (f 0 * 2 ^ (16 + 8)) ||| (Int32.ofNat (f 1) <<< (16 : Int32)) = Int32.ofNat ((f 0 * 256 + f 1) * 2 ^ (8 + 8)) by rw [show (f 0 * 256 + f 1) * 2 ^ (8 + 8) = f 0 * 2 ^ (16 + 8) + f 1 * 2 ^ 16 by omega]; exact a1]
  rw [show Int32.ofNat ((f 0 * 256 + f 1) * 2 ^ (8 + 8)) ||| (Int32.ofNat (f 2) <<< (8 : Int32)) = Int32.ofNat (((f 0 * 256 + f 1) * 256 + f 2) * 2 ^ (0 + 8)) by rw [show ((f 0 * 256 + f 1) * 256 + f 2) * 2 ^ (0 + 8) = (f 0 * 256 + f 1) * 2 ^ (8 + 8) + f 2 * 2 ^ 8 by omega]; exact a2]
  rw [show f 0 * 16777216 + f 1 * 65536 + f 2 * 256 + f 3 = ((f 0 * 256 + f 1) * 256 + f 2) * 2 ^ (0 + 8) + f 3 * 2 ^ 0 by omega]
  exact a3
theorem pk4_sx {f : Nat → Nat} (hf : ∀ i, i < 4 → f i < 128) {r : Nat} (hr : r < 4) : sx (pk4 f >>> sh r) = sx (Int32.ofNat (f r)) := by
  have h0 := hf 0 (by decide)
  have h1 := hf 1 (by decide)
  have h2 := hf 2 (by decide)
  have h3 := hf 3 (by decide)
  rw [pk4_n hf]
  rcases (show r = 0 ∨ r = 1 ∨ r = 2 ∨ r = 3 by omega) with rfl | rfl | rfl | rfl
  · rw [show sh 0 = Int32.ofNat 24 from rfl, sar_n (by omega) (Or.inl rfl)]
    congr 2
    omega
  · rw [show sh 1 = Int32.ofNat 16 from rfl, sar_n (by omega) (Or.inr (Or.inl rfl)), sx_n]
    congr 2
    omega
  · rw [show sh 2 = Int32.ofNat 8 from rfl, sar_n (by omega) (Or.inr (Or.inr (Or.inl rfl))), sx_n]
    congr 2
    omega
  · rw [show sh 3 = Int32.ofNat 0 from rfl, sar_n (by omega) (Or.inr (Or.inr (Or.inr rfl))), sx_n]
    congr 2
    omega
end P95
