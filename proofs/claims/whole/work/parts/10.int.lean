/-! Ints as values of whole numbers -/
theorem zI_toInt {a : Int} (h1 : -2147483648 ≤ a) (h2 : a ≤ 2147483647) : (Int32.ofInt a).toInt = a := Int32.toInt_ofInt_of_le (by omega) (by omega)
theorem zI_lt {a b : Int} (h1 : -2147483648 ≤ a ∧ a ≤ 2147483647) (h2 : -2147483648 ≤ b ∧ b ≤ 2147483647) : (Int32.ofInt a < Int32.ofInt b) ↔ a < b := by
  rw [Int32.lt_iff_toInt_lt, zI_toInt h1.1 h1.2, zI_toInt h2.1 h2.2]
theorem zI_le {a b : Int} (h1 : -2147483648 ≤ a ∧ a ≤ 2147483647) (h2 : -2147483648 ≤ b ∧ b ≤ 2147483647) : (Int32.ofInt a ≤ Int32.ofInt b) ↔ a ≤ b := by
  rw [Int32.le_iff_toInt_le, zI_toInt h1.1 h1.2, zI_toInt h2.1 h2.2]
theorem zI_eq {a b : Int} (h1 : -2147483648 ≤ a ∧ a ≤ 2147483647) (h2 : -2147483648 ≤ b ∧ b ≤ 2147483647) : (Int32.ofInt a = Int32.ofInt b) ↔ a = b := by
  constructor
  · intro h
    have := congrArg Int32.toInt h
    rwa [zI_toInt h1.1 h1.2, zI_toInt h2.1 h2.2] at this
  · rintro rfl; rfl
theorem zI_add (a b : Int) : Int32.ofInt a + Int32.ofInt b = Int32.ofInt (a + b) := (Int32.ofInt_add a b).symm
theorem zI_sub (a b : Int) : Int32.ofInt a - Int32.ofInt b = Int32.ofInt (a - b) := (Int32.ofInt_sub a b).symm
theorem zI_mul (a b : Int) : Int32.ofInt a * Int32.ofInt b = Int32.ofInt (a * b) := (Int32.ofInt_mul a b).symm
theorem zI_neg (a : Int) : -Int32.ofInt a = Int32.ofInt (-a) := (Int32.ofInt_neg a).symm
theorem zI_0 : (0 : Int32) = Int32.ofInt 0 := rfl
theorem zI_1 : (1 : Int32) = Int32.ofInt 1 := rfl
theorem zI_n (n : Nat) : nI n = Int32.ofInt n := rfl
theorem zI_nI {a : Int} (h : 0 ≤ a) : Int32.ofInt a = nI a.toNat := by
  rw [zI_n, Int.toNat_of_nonneg h]
theorem zI_nat (n : Nat) : Int32.ofInt (n : Int) = nI n := rfl
theorem zI_self (a : Int32) : Int32.ofInt a.toInt = a := Int32.ofInt_toInt a
theorem zI_rng (a : Int32) : -2147483648 ≤ a.toInt ∧ a.toInt ≤ 2147483647 := ⟨Int32.le_toInt a, Int32.toInt_le a⟩

theorem zB_k31 {k : Nat} (h : k < 32) : Int32.ofInt (k : Int) &&& 31 = Int32.ofInt (k : Int) := by
  have : ∀ k : Fin 32, Int32.ofInt (k.val : Int) &&& 31 = Int32.ofInt (k.val : Int) := by decide +kernel
  exact this ⟨k, h⟩
theorem zB_bv (n : Nat) : (Int32.ofInt (n : Int)).toBitVec = BitVec.ofNat 32 n := by
  rw [Int32.toBitVec_ofInt, BitVec.ofInt_natCast]
theorem zB_and (a b : Nat) : Int32.ofInt (a : Int) &&& Int32.ofInt (b : Int) = Int32.ofInt ((a &&& b : Nat) : Int) := by
  apply Int32.toBitVec_inj.mp
  rw [Int32.toBitVec_and, zB_bv, zB_bv, zB_bv, BitVec.ofNat_and]
theorem zB_or (a b : Nat) : Int32.ofInt (a : Int) ||| Int32.ofInt (b : Int) = Int32.ofInt ((a ||| b : Nat) : Int) := by
  apply Int32.toBitVec_inj.mp
  rw [Int32.toBitVec_or, zB_bv, zB_bv, zB_bv, BitVec.ofNat_or]
theorem zB_shl {k : Nat} (a : Nat) (h : k < 32) : Int32.ofInt (a : Int) <<< (Int32.ofInt (k : Int) &&& 31) = Int32.ofInt ((a <<< k : Nat) : Int) := by
  rw [zB_k31 h]
  apply Int32.toBitVec_inj.mp
  rw [Int32.toBitVec_shiftLeft, zB_bv, zB_bv, zB_bv]
  have : ∀ k : Fin 32, (BitVec.ofNat 32 k.val).smod 32 = BitVec.ofNat 32 k.val := by decide +kernel
  rw [this ⟨k, h⟩]
  apply BitVec.eq_of_toNat_eq
  simp [BitVec.toNat_shiftLeft, Nat.shiftLeft_eq, Nat.mod_eq_of_lt (show k < 4294967296 by omega)]
theorem zB_shr {k a : Nat} (ha : a < 2147483648) (h : k < 32) : Int32.ofInt (a : Int) >>> (Int32.ofInt (k : Int) &&& 31) = Int32.ofInt ((a >>> k : Nat) : Int) := by
  rw [zB_k31 h]
  apply Int32.toBitVec_inj.mp
  rw [Int32.toBitVec_shiftRight, zB_bv, zB_bv, zB_bv]
  have : ∀ k : Fin 32, (BitVec.ofNat 32 k.val).smod 32 = BitVec.ofNat 32 k.val := by decide +kernel
  rw [this ⟨k, h⟩]
  have hm : (BitVec.ofNat 32 a).msb = false := by
    rw [BitVec.msb_eq_decide]
    simp
    omega
  show BitVec.sshiftRight _ (BitVec.ofNat 32 k).toNat = _
  rw [BitVec.sshiftRight_eq_of_msb_false hm]
  apply BitVec.eq_of_toNat_eq
  have h3 : a >>> k ≤ a := by rw [Nat.shiftRight_eq_div_pow]; exact Nat.div_le_self _ _
  simp [Nat.mod_eq_of_lt (show k < 4294967296 by omega), Nat.mod_eq_of_lt (show a < 4294967296 by omega), Nat.mod_eq_of_lt (show a >>> k < 4294967296 by omega)]
theorem zB_ushr {k a : Nat} (ha : a < 4294967296) (h : k < 32) : ((Int32.ofInt (a : Int)).toUInt32 >>> ((Int32.ofInt (k : Int)).toUInt32 &&& Int32.toUInt32 31)).toInt32 = Int32.ofInt ((a >>> k : Nat) : Int) := by
  apply Int32.toBitVec_inj.mp
  rw [zB_bv]
  have h1 : (Int32.ofInt (k : Int)).toUInt32 &&& Int32.toUInt32 31 = UInt32.ofNat k := by
    have : ∀ k : Fin 32, (Int32.ofInt (k.val : Int)).toUInt32 &&& Int32.toUInt32 31 = UInt32.ofNat k.val := by decide +kernel
    exact this ⟨k, h⟩
  rw [h1]
  show ((Int32.ofInt (a : Int)).toUInt32 >>> UInt32.ofNat k).toBitVec = _
  rw [UInt32.toBitVec_shiftRight]
  have h2 : (Int32.ofInt (a : Int)).toUInt32.toBitVec = BitVec.ofNat 32 a := zB_bv a
  have h3 : (UInt32.ofNat k).toBitVec % 32 = BitVec.ofNat 32 k := by
    have : ∀ k : Fin 32, (UInt32.ofNat k.val).toBitVec % 32 = BitVec.ofNat 32 k.val := by decide +kernel
    exact this ⟨k, h⟩
  rw [h2, h3]
  apply BitVec.eq_of_toNat_eq
  have h3 : a >>> k ≤ a := by rw [Nat.shiftRight_eq_div_pow]; exact Nat.div_le_self _ _
  simp [Nat.mod_eq_of_lt (show k < 4294967296 by omega), Nat.mod_eq_of_lt (show a < 4294967296 by omega), Nat.mod_eq_of_lt (show a >>> k < 4294967296 by omega)]
theorem zB_not (a : Int) : Int32.ofInt a ^^^ Int32.ofInt (-1) = Int32.ofInt (-1 - a) := by
  apply Int32.toBitVec_inj.mp
  rw [Int32.toBitVec_xor, Int32.toBitVec_ofInt, Int32.toBitVec_ofInt, Int32.toBitVec_ofInt]
  have : BitVec.ofInt 32 (-1) = BitVec.allOnes 32 := by decide
  rw [this, BitVec.xor_allOnes]
  rw [BitVec.not_eq_neg_add, ← BitVec.ofInt_neg, BitVec.sub_eq_add_neg]
  have h2 : -(1#32) = BitVec.ofInt 32 (-1) := by decide
  rw [h2, ← BitVec.ofInt_add]
  congr 1
  omega
theorem zB_shln {a b : Int32} {k n : Nat} (h1 : a = nI n) (h2 : b = nI k) (h : k < 32) : a <<< (b &&& 31) = nI (n <<< k) := by
  rw [h1, h2]; exact zB_shl n h
/-- the gaps of a row as bits -/
theorem zB_gap {len st : Nat} (hl : len ≤ 24) (hs : st < 2 ^ len) : (Int32.ofInt (st : Int) ^^^ Int32.ofInt (-1)) &&& ((Int32.ofInt 1 <<< (Int32.ofInt (len : Int) &&& 31)) - Int32.ofInt 1) = Int32.ofInt ((2 ^ len - 1 - st : Nat) : Int) := by
  have h1 : Int32.ofInt 1 <<< (Int32.ofInt (len : Int) &&& 31) = Int32.ofInt ((2 ^ len : Nat) : Int) := by
    have := zB_shl 1 (show len < 32 by omega)
    rw [Nat.shiftLeft_eq, Nat.one_mul] at this
    exact this
  have hp : 0 < 2 ^ len := Nat.two_pow_pos len
  rw [h1, zI_sub, show ((2 ^ len : Nat) : Int) - 1 = ((2 ^ len - 1 : Nat) : Int) by omega]
  apply Int32.toBitVec_inj.mp
  rw [Int32.toBitVec_and, Int32.toBitVec_xor, zB_bv, zB_bv, zB_bv, Int32.toBitVec_ofInt]
  have : BitVec.ofInt 32 (-1) = BitVec.allOnes 32 := by decide
  rw [this, BitVec.xor_allOnes]
  apply BitVec.eq_of_getLsbD_eq
  intro i hi
  rw [BitVec.getLsbD_and, BitVec.getLsbD_not, BitVec.getLsbD_ofNat, BitVec.getLsbD_ofNat, BitVec.getLsbD_ofNat]
  rw [show 2 ^ len - 1 - st = 2 ^ len - (st + 1) by omega, Nat.testBit_two_pow_sub_succ hs, Nat.testBit_two_pow_sub_one]
  simp [hi, Bool.and_comm]
