/-! The reference: rows -/
theorem zpc_kern : ∀ (k n : Nat), 0 < n → n < 2 ^ k → zpc k (n &&& (n - 1)) + 1 = zpc k n := by
  intro k
  induction k with
  | zero => intro n h1 h2; simp at h2; omega
  | succ k ih =>
    intro n h1 h2
    simp only [zpc]
    rw [Nat.and_div_two]
    have hm : (n &&& (n - 1)) % 2 = 0 := by
      have h := Nat.and_mod_two_pow (n := 1) (a := n) (b := n - 1)
      simp only [Nat.pow_one] at h
      rw [h]
      rcases Nat.mod_two_eq_zero_or_one n with h0 | h0
      · rw [h0]; simp
      · rw [show (n - 1) % 2 = 0 by omega]; simp
    rw [hm]
    rcases Nat.mod_two_eq_zero_or_one n with h0 | h0
    · have h3 := ih (n / 2) (by omega) (by rw [Nat.pow_succ] at h2; omega)
      rw [show (n - 1) / 2 = n / 2 - 1 by omega, h0]
      omega
    · rw [show (n - 1) / 2 = n / 2 by omega, Nat.and_self, h0]
      omega
theorem zpc_pos : ∀ (k n : Nat), 0 < n → n < 2 ^ k → 0 < zpc k n := by
  intro k n h1 h2
  have := zpc_kern k n h1 h2
  omega
theorem zpc_zero : ∀ k, zpc k 0 = 0 := by
  intro k
  induction k with
  | zero => rfl
  | succ k ih => simp [zpc, ih]
theorem zB_pred {v : Nat} (h : 0 < v) : Int32.ofInt (v : Int) &&& (Int32.ofInt (v : Int) - Int32.ofInt 1) = Int32.ofInt ((v &&& (v - 1) : Nat) : Int) := by
  rw [zI_sub, show (v : Int) - 1 = ((v - 1 : Nat) : Int) by omega, zB_and]
theorem s134l {x : zXs} {F : zF} (hF : zSh F) {d : Nat} {V : Nat → Nat → Int32} {T : Nat → Nat → Int64} {Q : Option Value → zG → Prop} {n : Nat} (k : Q (some (.int (Int32.ofInt (zpc 24 n : Int)))) (V, T)) : ∀ (m v : Nat) (C : Int), zpc 24 v = m → v < 16777216 → C + m = zpc 24 n → ∀ o0 : Option Value, E x F d 134 4 [o0, some (.int (Int32.ofInt C)), some (.int (Int32.ofInt (v : Int)))] [] (V, T) Q := by
  intro m
  induction m with
  | zero =>
    intro v C hv hv2 hC o0
    have h0 : v = 0 := by
      rcases Nat.eq_zero_or_pos v with h | h
      · exact h
      · have := zpc_pos 24 v h hv2
        omega
    subst h0
    have hC2 : C = zpc 24 n := by omega
    subst hC2
    apply b134_4 hF
    · intro _
      exact b134_20 hF k
    · intro c; exact absurd rfl c
  | succ m ih =>
    intro v C hv hv2 hC o0
    have h0 : 0 < v := by
      rcases Nat.eq_zero_or_pos v with h | h
      · subst h; rw [zpc_zero] at hv; omega
      · exact h
    have hk := zpc_kern 24 v h0 hv2
    apply b134_4 hF
    · intro c
      simp (disch := omega) only [zI_eq, zI_0] at c
      exfalso; omega
    · intro _
      apply b134_8 hF
      rw [zB_pred h0, zI_add]
      have : v &&& (v - 1) ≤ v := Nat.and_le_left
      exact ih _ _ (by omega) (by omega) (by omega) _
theorem s134 {x : zXs} {F : zF} (hF : zSh F) {d : Nat} {V : Nat → Nat → Int32} {T : Nat → Nat → Int64} {Q : Option Value → zG → Prop} {n : Nat} (h : n < 16777216) {o1 o2 : Option Value} (k : Q (some (.int (Int32.ofInt (zpc 24 n : Int)))) (V, T)) : E x F d 134 0 [some (.int (Int32.ofInt (n : Int))), o1, o2] [] (V, T) Q := by
  apply b134_0 hF
  exact s134l hF k (zpc 24 n) n 0 rfl h (by omega) _
theorem zpc_gap {L B : Nat} (hB : B < 2 ^ L) : ∀ k, zpc k (2 ^ L - 1 - B) + zpc k B = if k < L then k else L := by
  have hg : ∀ i, (2 ^ L - 1 - B).testBit i = (decide (i < L) && !B.testBit i) := by
    intro i
    rw [show 2 ^ L - 1 - B = 2 ^ L - (B + 1) by omega, Nat.testBit_two_pow_sub_succ hB]
  intro k
  induction k with
  | zero => simp only [zpc]; split <;> omega
  | succ k ih =>
    rw [zpc_succ, zpc_succ, hg]
    by_cases hk : k < L
    · rw [if_pos hk] at ih
      have : (decide (k < L) && !B.testBit k).toNat + (B.testBit k).toNat = 1 := by
        cases B.testBit k <;> simp [hk]
      split <;> omega
    · rw [if_neg hk] at ih
      have h1 : B.testBit k = false := Nat.testBit_lt_two_pow (Nat.lt_of_lt_of_le hB (Nat.pow_le_pow_right (by omega) (by omega)))
      rw [h1]
      simp only [hk, decide_false, Bool.false_and, Bool.toNat_false]
      split <;> omega
/-- the gaps of a row as bits -/
def ygb (L B : Nat) : Nat := 2 ^ L - 1 - B
theorem ygb_bit {L B : Nat} (hB : B < 2 ^ L) (i : Nat) : (ygb L B).testBit i = (decide (i < L) && !B.testBit i) := by
  unfold ygb
  rw [show 2 ^ L - 1 - B = 2 ^ L - (B + 1) by omega, Nat.testBit_two_pow_sub_succ hB]
theorem s133 {x : zXs} {F : zF} (hF : zSh F) {d : Nat} {V : Nat → Nat → Int32} {T : Nat → Nat → Int64} {Q : Option Value → zG → Prop} {r L B : Nat} (hr : r < 5) (hL : V 64 r = Int32.ofInt (L : Int)) (hB : V 63 r = Int32.ofInt (B : Int)) (h1 : L ≤ 24) (h2 : B < 2 ^ L) (k : Q (some (.int (Int32.ofInt (zpc 24 (ygb L B) : Int)))) (V, T)) : E x F (d + 1) 133 0 [some (.ref 59), some (.int (Int32.ofInt (r : Int)))] [] (V, T) Q := by
  have h3 : 2 ^ L ≤ 2 ^ 24 := Nat.pow_le_pow_right (by omega) h1
  have h4 := zpc_gap h2 24
  apply b133_0 hF (i1 := r) (zI_nat r) hr (i2 := r) (zI_nat r) hr
  rw [hL, hB]
  apply s134 hF (by omega)
  apply b133_15 hF
  rw [zI_sub]
  have e : (L : Int) - zpc 24 B = zpc 24 (ygb L B) := by
    unfold ygb
    split at h4 <;> omega
  rw [e]
  exact k
theorem s159 {x : zXs} {F : zF} (hF : zSh F) {d : Nat} {V : Nat → Nat → Int32} {T : Nat → Nat → Int64} {Q : Option Value → zG → Prop} {r p L B : Nat} (hr : r < 5) (hL : V 64 r = Int32.ofInt (L : Int)) (hB : V 63 r = Int32.ofInt (B : Int)) (h1 : L ≤ 24) (h2 : B < 2 ^ L) (hp : p < 32) (k1 : (ygb L B).testBit p = true → Q (some (.int (Int32.ofInt 1))) (V, T)) (k0 : (ygb L B).testBit p = false → Q (some (.int (Int32.ofInt 0))) (V, T)) : E x F d 159 0 [some (.ref 59), some (.int (Int32.ofInt (r : Int))), some (.int (Int32.ofInt (p : Int)))] [] (V, T) Q := by
  have h3 : 2 ^ L ≤ 2 ^ 24 := Nat.pow_le_pow_right (by omega) h1
  have hg := ygb_bit h2 p
  apply b159_0 hF (i1 := r) (zI_nat r) hr
  · rw [hL]
    intro c
    simp (disch := omega) only [zI_le] at c
    apply b159_27 hF
    apply b159_28 hF zNb0
    apply k0
    rw [hg]
    simp; omega
  · rw [hL]
    intro c
    simp (disch := omega) only [zI_le] at c
    apply b159_10 hF (i1 := r) (zI_nat r) hr
    · rw [hB, zbit_zero (by omega) hp]
      intro c2
      apply b159_27 hF
      apply b159_28 hF zNb0
      apply k0
      rw [hg]
      have : B.testBit p = true := by simpa using c2
      rw [this]; simp
    · rw [hB, zbit_zero (by omega) hp]
      intro c2
      apply b159_23 hF
      apply b159_28 hF zNb1
      apply k1
      rw [hg]
      have : B.testBit p = false := by simpa using c2
      rw [this]
      simp; omega
