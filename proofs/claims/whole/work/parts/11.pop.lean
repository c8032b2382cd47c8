/-! Bits counted -/
def zpc : Nat → Nat → Nat
  | 0, _ => 0
  | k + 1, n => n % 2 + zpc k (n / 2)
theorem zpc_add (k n : Nat) : ∀ j, zpc (j + k) n = zpc j n + zpc k (n / 2 ^ j) := by
  intro j
  induction j generalizing n with
  | zero => simp [zpc]
  | succ j ih =>
    rw [show j + 1 + k = (j + k) + 1 by omega]
    simp only [zpc]
    rw [ih, Nat.div_div_eq_div_mul, Nat.pow_succ, Nat.mul_comm 2]
    omega
theorem zpc_le (k n : Nat) : zpc k n ≤ k := by
  induction k generalizing n with
  | zero => simp [zpc]
  | succ k ih => simp only [zpc]; have := ih (n / 2); omega
theorem zb_and8 {x y m M : Nat} (hx : x < 256) (hm : m < 256) : (x + 256 * y) &&& (m + 256 * M) = (x &&& m) + 256 * (y &&& M) := by
  have h1 : (x &&& m) < 2 ^ 8 := Nat.lt_of_le_of_lt Nat.and_le_left hx
  apply Nat.eq_of_testBit_eq
  intro i
  rw [Nat.testBit_and, show x + 256 * y = y * 2 ^ 8 + x by omega, show m + 256 * M = M * 2 ^ 8 + m by omega, show (x &&& m) + 256 * (y &&& M) = (y &&& M) * 2 ^ 8 + (x &&& m) by omega]
  rw [Nat.mul_comm y, Nat.mul_comm M, Nat.mul_comm (y &&& M), Nat.testBit_two_pow_mul_add _ (show x < 2 ^ 8 from hx), Nat.testBit_two_pow_mul_add _ (show m < 2 ^ 8 from hm), Nat.testBit_two_pow_mul_add _ h1]
  split <;> simp
def zf1 (n : Nat) := n - ((n >>> 1) &&& 1431655765)
def zf2 (n : Nat) := (n &&& 858993459) + ((n >>> 2) &&& 858993459)
def zf3 (n : Nat) := (n + (n >>> 4)) &&& 252645135
def zf4 (n : Nat) := n + (n >>> 8)
def zf5 (n : Nat) := (n + (n >>> 16)) &&& 63
def zg1 (n : Nat) := n - ((n >>> 1) &&& 85)
def zg2 (n : Nat) := (n &&& 51) + ((n >>> 2) &&& 51)
theorem zg_all : ∀ a : Fin 256, ((a.val >>> 1) &&& 85) ≤ a.val ∧ (∀ t : Fin 2, ((a.val >>> 1) + 128 * t.val) &&& 85 = (a.val >>> 1) &&& 85) ∧ (∀ t : Fin 4, ((a.val >>> 2) + 64 * t.val) &&& 51 = (a.val >>> 2) &&& 51) ∧ zg2 (zg1 a.val) ≤ 68 ∧ (zg2 (zg1 a.val)) % 16 ≤ 4 ∧ (∀ t : Fin 5, (zg2 (zg1 a.val) + ((zg2 (zg1 a.val)) >>> 4) + 16 * t.val) &&& 15 = zpc 8 a.val) := by decide +kernel
theorem zg1_lt {a : Nat} (h : a < 256) : zg1 a < 256 := by unfold zg1; omega
theorem zf1_eq {a b c : Nat} (ha : a < 256) (hb : b < 256) (hc : c < 256) : zf1 (a + 256 * (b + 256 * c)) = zg1 a + 256 * (zg1 b + 256 * zg1 c) := by
  have A := zg_all ⟨a, ha⟩; have B := zg_all ⟨b, hb⟩; have C := zg_all ⟨c, hc⟩
  dsimp only at A B C
  have ka := A.2.1 ⟨b % 2, by omega⟩
  have kb := B.2.1 ⟨c % 2, by omega⟩
  dsimp only at ka kb
  have h1 : (a + 256 * (b + 256 * c)) >>> 1 = (a >>> 1 + 128 * (b % 2)) + 256 * ((b >>> 1 + 128 * (c % 2)) + 256 * (c >>> 1)) := by
    simp only [Nat.shiftRight_eq_div_pow]; omega
  have h2 : 1431655765 = 85 + 256 * (85 + 256 * 21845) := rfl
  have e1 : a >>> 1 < 128 := by rw [Nat.shiftRight_eq_div_pow]; omega
  have e2 : b >>> 1 < 128 := by rw [Nat.shiftRight_eq_div_pow]; omega
  have e3 : c >>> 1 < 128 := by rw [Nat.shiftRight_eq_div_pow]; omega
  have h3 : c >>> 1 &&& 21845 = c >>> 1 &&& 85 := by
    have := zb_and8 (x := c >>> 1) (y := 0) (m := 85) (M := 85) (by omega) (by omega)
    simpa using this
  unfold zf1
  rw [h1, h2, zb_and8 (by omega) (by omega), zb_and8 (by omega) (by omega), ka, kb, h3]
  unfold zg1
  omega
theorem zf2_eq {a b c : Nat} (ha : a < 256) (hb : b < 256) (hc : c < 256) : zf2 (a + 256 * (b + 256 * c)) = zg2 a + 256 * (zg2 b + 256 * zg2 c) := by
  have A := zg_all ⟨a, ha⟩; have B := zg_all ⟨b, hb⟩; have C := zg_all ⟨c, hc⟩
  dsimp only at A B C
  have ka := A.2.2.1 ⟨b % 4, by omega⟩
  have kb := B.2.2.1 ⟨c % 4, by omega⟩
  dsimp only at ka kb
  have h1 : (a + 256 * (b + 256 * c)) >>> 2 = (a >>> 2 + 64 * (b % 4)) + 256 * ((b >>> 2 + 64 * (c % 4)) + 256 * (c >>> 2)) := by
    simp only [Nat.shiftRight_eq_div_pow]; omega
  have h2 : 858993459 = 51 + 256 * (51 + 256 * 13107) := rfl
  have e1 : a >>> 2 < 64 := by rw [Nat.shiftRight_eq_div_pow]; omega
  have e2 : b >>> 2 < 64 := by rw [Nat.shiftRight_eq_div_pow]; omega
  have e3 : c >>> 2 < 64 := by rw [Nat.shiftRight_eq_div_pow]; omega
  have h3 : ∀ v : Nat, v < 256 → v &&& 13107 = v &&& 51 := by
    intro v hv
    have := zb_and8 (x := v) (y := 0) (m := 51) (M := 51) hv (by omega)
    simpa using this
  unfold zf2
  rw [h1, h2, zb_and8 ha (by omega), zb_and8 hb (by omega), zb_and8 (by omega) (by omega), zb_and8 (by omega) (by omega), ka, kb, h3 _ hc, h3 _ (show c >>> 2 < 256 by omega)]
  unfold zg2
  omega
theorem zf_all {n : Nat} (hn : n < 16777216) : zf5 (zf4 (zf3 (zf2 (zf1 n)))) = zpc 24 n := by
  obtain ⟨a, b, c, ha, hb, hc, rfl⟩ : ∃ a b c, a < 256 ∧ b < 256 ∧ c < 256 ∧ n = a + 256 * (b + 256 * c) := ⟨n % 256, n / 256 % 256, n / 65536, by omega, by omega, by omega, by omega⟩
  have A := zg_all ⟨a, ha⟩; have B := zg_all ⟨b, hb⟩; have C := zg_all ⟨c, hc⟩
  dsimp only at A B C
  obtain ⟨-, -, -, A1, A2, A3⟩ := A
  obtain ⟨-, -, -, B1, B2, B3⟩ := B
  obtain ⟨-, -, -, C1, C2, C3⟩ := C
  rw [zf1_eq ha hb hc, zf2_eq (zg1_lt ha) (zg1_lt hb) (zg1_lt hc)]
  have A4 := A3 ⟨zg2 (zg1 b) % 16, by omega⟩
  have B4 := B3 ⟨zg2 (zg1 c) % 16, by omega⟩
  have C4 := C3 ⟨0, by omega⟩
  dsimp only at A4 B4 C4
  revert A1 A2 A4 B1 B2 B4 C1 C2 C4
  generalize zg2 (zg1 a) = p
  generalize zg2 (zg1 b) = q
  generalize zg2 (zg1 c) = r
  intro A1 A2 B1 B2 C1 C2 A4 B4 C4
  have hp : zpc 24 (a + 256 * (b + 256 * c)) = zpc 8 a + (zpc 8 b + zpc 8 c) := by
    rw [show (24 : Nat) = 8 + 16 from rfl, zpc_add, show (16 : Nat) = 8 + 8 from rfl, zpc_add 8 _ 8]
    have t : ∀ u v : Nat, u < 256 → zpc 8 (u + 256 * v) = zpc 8 u := by
      intro u v hu
      simp only [zpc]
      omega
    rw [show (a + 256 * (b + 256 * c)) / 2 ^ 8 = b + 256 * c by omega, show (b + 256 * c) / 2 ^ 8 = c by omega, t _ _ ha, t _ _ hb]
  have h1 : (p + 256 * (q + 256 * r)) + (p + 256 * (q + 256 * r)) >>> 4 = (p + p >>> 4 + 16 * (q % 16)) + 256 * ((q + q >>> 4 + 16 * (r % 16)) + 256 * (r + r >>> 4 + 16 * 0)) := by
    simp only [Nat.shiftRight_eq_div_pow]; omega
  have h2 : 252645135 = 15 + 256 * (15 + 256 * 3855) := rfl
  have h3 : ∀ v : Nat, v < 256 → v &&& 3855 = v &&& 15 := by
    intro v hv
    have := zb_and8 (x := v) (y := 0) (m := 15) (M := 15) hv (by omega)
    simpa using this
  have e1 : p >>> 4 < 16 := by rw [Nat.shiftRight_eq_div_pow]; omega
  have e2 : q >>> 4 < 16 := by rw [Nat.shiftRight_eq_div_pow]; omega
  have e3 : r >>> 4 < 16 := by rw [Nat.shiftRight_eq_div_pow]; omega
  have h5 : zf3 (p + 256 * (q + 256 * r)) = zpc 8 a + 256 * (zpc 8 b + 256 * zpc 8 c) := by
    unfold zf3
    rw [h1, h2, zb_and8 (by omega) (by omega), zb_and8 (by omega) (by omega), A4, B4, h3 _ (by omega), C4]
  have l1 := zpc_le 8 a
  have l2 := zpc_le 8 b
  have l3 := zpc_le 8 c
  rw [h5, hp]
  unfold zf5 zf4
  rw [show (63 : Nat) = 2 ^ 6 - 1 from rfl, Nat.and_two_pow_sub_one_eq_mod]
  clear h5 hp h1 A4 B4 C4
  generalize zpc 8 a = P at *
  generalize zpc 8 b = Q at *
  generalize zpc 8 c = R at *
  simp only [Nat.shiftRight_eq_div_pow]
  rw [show (P + 256 * (Q + 256 * R)) / 2 ^ 8 = Q + 256 * R by omega]
  rw [show (P + 256 * (Q + 256 * R) + (Q + 256 * R)) / 2 ^ 16 = R by omega]
  omega
def zw1 (v : Int32) : Int32 := v - (((v.toUInt32 >>> ((Int32.ofInt 1).toUInt32 &&& Int32.toUInt32 31)).toInt32) &&& (1431655765 : Int32))
def zw2 (v : Int32) : Int32 := (v &&& (858993459 : Int32)) + (((v.toUInt32 >>> ((Int32.ofInt 2).toUInt32 &&& Int32.toUInt32 31)).toInt32) &&& (858993459 : Int32))
def zw3 (v : Int32) : Int32 := (v + (v.toUInt32 >>> ((Int32.ofInt 4).toUInt32 &&& Int32.toUInt32 31)).toInt32) &&& (252645135 : Int32)
def zw4 (v : Int32) : Int32 := v + (v.toUInt32 >>> ((Int32.ofInt 8).toUInt32 &&& Int32.toUInt32 31)).toInt32
def zw5 (v : Int32) : Int32 := (v + (v.toUInt32 >>> ((Int32.ofInt 16).toUInt32 &&& Int32.toUInt32 31)).toInt32) &&& (Int32.ofInt 63)
theorem zw_ushr {a : Nat} (k : Nat) (ha : a < 4294967296) (h : k < 32) : ((nI a).toUInt32 >>> ((Int32.ofInt (k : Int)).toUInt32 &&& Int32.toUInt32 31)).toInt32 = nI (a >>> k) := zB_ushr ha h
theorem zw_and (a b : Nat) : nI a &&& nI b = nI (a &&& b) := zB_and a b
theorem zw_add (a b : Nat) : nI a + nI b = nI (a + b) := zI_add a b
theorem zw_sub {a b : Nat} (h : b ≤ a) : nI a - nI b = nI (a - b) := by
  rw [zI_n, zI_n, zI_sub, zI_n, Int.ofNat_sub h]
theorem zf1_le (n : Nat) : zf1 n ≤ n := by unfold zf1; omega
theorem zf2_le {n : Nat} (h : n < 16777216) : zf2 n < 33554432 := by
  have h1 : n &&& 858993459 ≤ n := Nat.and_le_left
  have h2 : (n >>> 2) &&& 858993459 ≤ n >>> 2 := Nat.and_le_left
  have h3 : n >>> 2 ≤ n := by rw [Nat.shiftRight_eq_div_pow]; exact Nat.div_le_self _ _
  unfold zf2; omega
theorem zf3_le {n : Nat} (h : n < 33554432) : zf3 n < 67108864 := by
  have h1 : (n + n >>> 4) &&& 252645135 ≤ n + n >>> 4 := Nat.and_le_left
  have h3 : n >>> 4 ≤ n := by rw [Nat.shiftRight_eq_div_pow]; exact Nat.div_le_self _ _
  unfold zf3; omega
theorem zf4_le {n : Nat} (h : n < 67108864) : zf4 n < 134217728 := by
  have h3 : n >>> 8 ≤ n := by rw [Nat.shiftRight_eq_div_pow]; exact Nat.div_le_self _ _
  unfold zf4; omega
theorem zw1_eq {n : Nat} (h : n < 16777216) : zw1 (nI n) = nI (zf1 n) := by
  have h2 : (n >>> 1) &&& 1431655765 ≤ n := Nat.le_trans Nat.and_le_left (by rw [Nat.shiftRight_eq_div_pow]; exact Nat.div_le_self _ _)
  unfold zw1
  rw [show (Int32.ofInt 1) = Int32.ofInt ((1 : Nat) : Int) from rfl, zw_ushr 1 (by omega) (by omega), show (1431655765 : Int32) = nI 1431655765 from rfl, zw_and, zw_sub h2]
  rfl
theorem zw2_eq {n : Nat} (h : n < 16777216) : zw2 (nI n) = nI (zf2 n) := by
  unfold zw2
  rw [show (Int32.ofInt 2) = Int32.ofInt ((2 : Nat) : Int) from rfl, zw_ushr 2 (by omega) (by omega), show (858993459 : Int32) = nI 858993459 from rfl, zw_and, zw_and, zw_add]
  rfl
theorem zw3_eq {n : Nat} (h : n < 33554432) : zw3 (nI n) = nI (zf3 n) := by
  unfold zw3
  rw [show (Int32.ofInt 4) = Int32.ofInt ((4 : Nat) : Int) from rfl, zw_ushr 4 (by omega) (by omega), show (252645135 : Int32) = nI 252645135 from rfl, zw_add, zw_and]
  rfl
theorem zw4_eq {n : Nat} (h : n < 67108864) : zw4 (nI n) = nI (zf4 n) := by
  unfold zw4
  rw [show (Int32.ofInt 8) = Int32.ofInt ((8 : Nat) : Int) from rfl, zw_ushr 8 (by omega) (by omega), zw_add]
  rfl
theorem zw5_eq {n : Nat} (h : n < 134217728) : zw5 (nI n) = nI (zf5 n) := by
  unfold zw5
  rw [show (Int32.ofInt 16) = Int32.ofInt ((16 : Nat) : Int) from rfl, zw_ushr 16 (by omega) (by omega), show (Int32.ofInt 63) = nI 63 from rfl, zw_add, zw_and]
  rfl
theorem zw_all {n : Nat} (h : n < 16777216) : zw5 (zw4 (zw3 (zw2 (zw1 (nI n))))) = nI (zpc 24 n) := by
  have h1 := zf1_le n
  have h2 := zf2_le (n := zf1 n) (by omega)
  have h3 := zf3_le h2
  have h4 := zf4_le h3
  rw [zw1_eq h, zw2_eq (by omega), zw3_eq h2, zw4_eq h3, zw5_eq h4, zf_all h]
theorem s15 {x : zXs} {F : zF} (hF : zSh F) {d : Nat} {V : Nat → Nat → Int32} {T : Nat → Nat → Int64} {Q : Option Value → zG → Prop} {n : Nat} (h : n < 16777216) (k : Q (some (.int (nI (zpc 24 n)))) (V, T)) : E x F d 15 0 [some (.int (nI n))] [] (V, T) Q := by
  apply b15_0 hF
  rw [← zw_all h] at k
  exact k
