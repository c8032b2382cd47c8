/-! The state, as whole numbers; small methods of the class -/
/-- the class's state at a base holds S: fields 0 length, 1 stalks, 2 kind, 3 number, 4 apron; 5: crew, night, rule -/
def zCS (b : Nat) (V : Nat → Nat → Int32) (S : Nat → Nat → Nat) : Prop := (∀ i, i < 4 → V (b + 1) i = Int32.ofInt (S 0 i)) ∧ (∀ i, i < 4 → V (b + 2) i = Int32.ofInt (S 1 i)) ∧ (∀ i, i < 5 → V (b + 3) i = Int32.ofInt (S 2 i)) ∧ (∀ i, i < 5 → V (b + 4) i = Int32.ofInt (S 3 i)) ∧ (∀ i, i < 5 → V (b + 5) i = Int32.ofInt (S 4 i)) ∧ V b 5 = Int32.ofInt (S 5 0) ∧ V b 6 = Int32.ofInt (S 5 1) ∧ V b 7 = Int32.ofInt (S 5 2)
/-- the bounds of the gleaners -/
def zWg (S : Nat → Nat → Nat) : Prop := ∀ i, i < 5 → S 2 i ≤ 5 ∧ S 3 i ≤ 9 ∧ S 4 i ≤ 999
/-- the bounds of a state -/
def zWf (S : Nat → Nat → Nat) : Prop := (∀ i, i < 4 → S 0 i ≤ 24 ∧ S 1 i < 2 ^ S 0 i) ∧ zWg S ∧ S 5 0 ≤ 5 ∧ S 5 1 ≤ 1000000 ∧ S 5 2 < 6
/-- the gaps of a row as bits -/
def zgb (S : Nat → Nat → Nat) (r : Nat) : Nat := 2 ^ S 0 r - 1 - S 1 r
theorem zNb1 : narrow .boolean (.int (Int32.ofInt 1)) = .int (Int32.ofInt 1) := by decide +kernel
theorem zNb0 : narrow .boolean (.int (Int32.ofInt 0)) = .int (Int32.ofInt 0) := by decide +kernel
theorem s7 {x : zXs} {F : zF} (hF : zSh F) {d : Nat} {V : Nat → Nat → Int32} {T : Nat → Nat → Int64} {Q : Option Value → zG → Prop} {v lo hi : Int} (hv : -2147483648 ≤ v ∧ v ≤ 2147483647) (h1 : -2147483648 ≤ lo ∧ lo ≤ 2147483647) (h2 : -2147483648 ≤ hi ∧ hi ≤ 2147483647) (k1 : lo ≤ v ∧ v ≤ hi → Q (some (.int (Int32.ofInt 1))) (V, T)) (k0 : ¬ (lo ≤ v ∧ v ≤ hi) → Q (some (.int (Int32.ofInt 0))) (V, T)) : E x F d 7 0 [some (.int (Int32.ofInt v)), some (.int (Int32.ofInt lo)), some (.int (Int32.ofInt hi))] [] (V, T) Q := by
  repeat' (first
    | (intro c; (try simp (disch := omega) only [zI_lt, zI_le, zI_eq, zI_0, zI_add, zI_sub, zI_mul, zI_neg, Int.reduceNeg, Int.reduceAdd, Int.reduceSub, Int.reduceMul, Decidable.not_not, Int.not_lt, Int.not_le, not_true_eq_false, not_false_eq_true] at c); (try (exfalso; omega)))
    | simp only [zI_add, zI_sub, zI_mul, zI_neg]
    | apply b7_0 hF
    | apply b7_5 hF
    | apply b7_10 hF
    | apply b7_14 hF
    | apply b7_15 hF
    | exact k1 (by omega)
    | exact k0 (by omega)
    | with_reducible assumption
    | exact zI_nat _
    | exact zNb1
    | exact zNb0
    | omega
    | with_reducible rfl
    | exact zI_nI (by omega))
theorem s30 {x : zXs} {F : zF} (hF : zSh F) {d : Nat} {V : Nat → Nat → Int32} {T : Nat → Nat → Int64} {Q : Option Value → zG → Prop} {v lo hi : Int} (hv : -2147483648 ≤ v ∧ v ≤ 2147483647) (h1 : -2147483648 ≤ lo ∧ lo ≤ 2147483647) (h2 : -2147483648 ≤ hi ∧ hi ≤ 2147483647) (k : Q (some (.int (Int32.ofInt (if v < lo then lo else if hi < v then hi else v)))) (V, T)) : E x F d 30 0 [some (.int (Int32.ofInt v)), some (.int (Int32.ofInt lo)), some (.int (Int32.ofInt hi))] [] (V, T) Q := by
  repeat' (first
    | (intro c; (try simp (disch := omega) only [zI_lt, zI_le, zI_eq, zI_0, zI_add, zI_sub, zI_mul, zI_neg, Int.reduceNeg, Int.reduceAdd, Int.reduceSub, Int.reduceMul, Decidable.not_not, Int.not_lt, Int.not_le, not_true_eq_false, not_false_eq_true] at c); (try (exfalso; omega)))
    | simp only [zI_add, zI_sub, zI_mul, zI_neg]
    | apply b30_0 hF
    | apply b30_5 hF
    | apply b30_9 hF
    | apply b30_14 hF
    | apply b30_18 hF
    | apply b30_19 hF
    | (have := k; split at this <;> first | assumption | (exfalso; omega) | (split at this <;> first | assumption | (exfalso; omega)))
    | with_reducible assumption
    | exact zI_nat _
    | exact zNb1
    | exact zNb0
    | omega
    | with_reducible rfl
    | exact zI_nI (by omega))
theorem s12 {x : zXs} {F : zF} (hF : zSh F) {d : Nat} {V : Nat → Nat → Int32} {T : Nat → Nat → Int64} {Q : Option Value → zG → Prop} {v : Int} (hv : -2147483648 ≤ v ∧ v ≤ 2147483647) {o : Option Value} (k1 : 0 ≤ v ∧ v ≤ 3 → Q (some (.int (Int32.ofInt 1))) (V, T)) (k0 : ¬ (0 ≤ v ∧ v ≤ 3) → Q (some (.int (Int32.ofInt 0))) (V, T)) : E x F (d + 1) 12 0 [o, some (.int (Int32.ofInt v))] [] (V, T) Q := by
  repeat' (first
    | (intro c; (try simp (disch := omega) only [zI_lt, zI_le, zI_eq, zI_0, zI_add, zI_sub, zI_mul, zI_neg, Int.reduceNeg, Int.reduceAdd, Int.reduceSub, Int.reduceMul, Decidable.not_not, Int.not_lt, Int.not_le, not_true_eq_false, not_false_eq_true] at c); (try (exfalso; omega)))
    | simp only [zI_add, zI_sub, zI_mul, zI_neg]
    | apply s7 hF
    | apply b12_0 hF
    | apply b12_6 hF
    | exact k1 (by omega)
    | exact k0 (by omega)
    | with_reducible assumption
    | exact zI_nat _
    | exact zNb1
    | exact zNb0
    | omega
    | with_reducible rfl
    | exact zI_nI (by omega))
theorem zpc_succ (k n : Nat) : zpc (k + 1) n = zpc k n + (n.testBit k).toNat := by
  rw [zpc_add 1 n k, Nat.toNat_testBit]
  simp [zpc]
/-- runs begun before a place -/
def zrn (g : Nat) : Nat → Nat
  | 0 => 0
  | k + 1 => zrn g k + (g.testBit k && !(decide (0 < k) && g.testBit (k - 1))).toNat
/-- the size of a run as told before a place -/
def zsz (g j : Nat) : Nat → Nat
  | 0 => 0
  | k + 1 => zsz g j k + (g.testBit k && zrn g (k + 1) == j + 1).toNat
/-- the first bits of the runs -/
def zfb (g : Nat) : Nat := g &&& ((g <<< 1) ^^^ 33554431)
theorem zfb_bit {g i : Nat} (hg : g < 16777216) : (zfb g).testBit i = (g.testBit i && !(decide (0 < i) && g.testBit (i - 1))) := by
  unfold zfb
  rw [Nat.testBit_and, Nat.testBit_xor, Nat.testBit_shiftLeft, show (33554431 : Nat) = 2 ^ 25 - 1 from rfl, Nat.testBit_two_pow_sub_one]
  by_cases hi : i < 24
  · have : i < 25 := by omega
    by_cases h0 : 0 < i
    · simp [this, h0, show 1 ≤ i from h0]
    · simp [this, h0, show ¬ 1 ≤ i from h0]
  · have : g.testBit i = false := Nat.testBit_lt_two_pow (Nat.lt_of_lt_of_le hg (Nat.pow_le_pow_right (n := 2) (by omega) (show 24 ≤ i by omega)))
    simp [this]
theorem zfb_pc {g : Nat} (hg : g < 16777216) (k : Nat) : zpc k (zfb g) = zrn g k := by
  induction k with
  | zero => rfl
  | succ k ih => rw [zpc_succ, ih, zfb_bit hg]; rfl
theorem zB_first {g : Nat} (hg : g < 16777216) : Int32.ofInt (g : Int) &&& ((Int32.ofInt (g : Int) <<< (Int32.ofInt 1 &&& 31)) ^^^ Int32.ofInt (-1)) = Int32.ofInt (zfb g : Int) := by
  have h1 : Int32.ofInt (g : Int) <<< (Int32.ofInt 1 &&& 31) = Int32.ofInt ((g <<< 1 : Nat) : Int) := zB_shl g (show 1 < 32 by omega)
  rw [h1]
  apply Int32.toBitVec_inj.mp
  rw [Int32.toBitVec_and, Int32.toBitVec_xor, zB_bv, zB_bv, zB_bv, Int32.toBitVec_ofInt]
  have : BitVec.ofInt 32 (-1) = BitVec.allOnes 32 := by decide
  rw [this, BitVec.xor_allOnes]
  apply BitVec.eq_of_getLsbD_eq
  intro i hi
  rw [BitVec.getLsbD_and, BitVec.getLsbD_not, BitVec.getLsbD_ofNat, BitVec.getLsbD_ofNat, BitVec.getLsbD_ofNat, zfb_bit hg, Nat.testBit_shiftLeft]
  by_cases h0 : 0 < i
  · simp [hi, h0, show 1 ≤ i from h0]
  · simp [hi, h0, show ¬ 1 ≤ i from h0]
theorem zbit_eq {g p : Nat} (hg : g < 2147483648) (hp : p < 32) : (Int32.ofInt (g : Int) >>> (Int32.ofInt (p : Int) &&& 31)) &&& Int32.ofInt 1 = Int32.ofInt ((g.testBit p).toNat : Int) := by
  rw [zB_shr hg hp, show Int32.ofInt 1 = Int32.ofInt ((1 : Nat) : Int) from rfl, zB_and]
  congr 2
  rw [Nat.testBit, Nat.and_comm]
  have : 1 &&& g >>> p = 0 ∨ 1 &&& g >>> p = 1 := by
    rw [Nat.and_comm, Nat.and_one_is_mod]; omega
  rcases this with h | h <;> rw [h] <;> rfl
theorem zbit_one {g p : Nat} (hg : g < 2147483648) (hp : p < 32) : ((Int32.ofInt (g : Int) >>> (Int32.ofInt (p : Int) &&& 31)) &&& Int32.ofInt 1 = Int32.ofInt 1) ↔ g.testBit p = true := by
  rw [zbit_eq hg hp]
  cases g.testBit p <;> decide
theorem zgb_lt {S : Nat → Nat → Nat} (hW : zWf S) {r : Nat} (hr : r < 4) : zgb S r < 16777216 := by
  have h := hW.1 r hr
  have : 2 ^ S 0 r ≤ 2 ^ 24 := Nat.pow_le_pow_right (by omega) h.1
  unfold zgb; omega
theorem s14 {x : zXs} {F : zF} (hF : zSh F) {d : Nat} {V : Nat → Nat → Int32} {T : Nat → Nat → Int64} {Q : Option Value → zG → Prop} {b : Nat} (hb : zSt b) {S : Nat → Nat → Nat} (hS : zCS b V S) (hW : zWf S) {r : Nat} (hr : r < 4) (k : Q (some (.int (Int32.ofInt (zgb S r : Int)))) (V, T)) : E x F d 14 0 [some (.ref b), some (.int (Int32.ofInt (r : Int)))] [] (V, T) Q := by
  apply b14_0 hF hb (i1 := r) rfl hr (i2 := r) rfl hr
  rw [hS.2.1 r hr, hS.1 r hr, zB_gap (hW.1 r hr).1 (hW.1 r hr).2]
  exact k
theorem s15i {x : zXs} {F : zF} (hF : zSh F) {d : Nat} {V : Nat → Nat → Int32} {T : Nat → Nat → Int64} {Q : Option Value → zG → Prop} {n : Nat} (h : n < 16777216) (k : Q (some (.int (Int32.ofInt (zpc 24 n : Int)))) (V, T)) : E x F d 15 0 [some (.int (Int32.ofInt (n : Int)))] [] (V, T) Q := s15 hF h k
theorem s13 {x : zXs} {F : zF} (hF : zSh F) {d : Nat} {V : Nat → Nat → Int32} {T : Nat → Nat → Int64} {Q : Option Value → zG → Prop} {b : Nat} (hb : zSt b) {S : Nat → Nat → Nat} (hS : zCS b V S) (hW : zWf S) {r : Nat} (hr : r < 4) (k : Q (some (.int (Int32.ofInt (zpc 24 (zgb S r) : Int)))) (V, T)) : E x F (d + 1) 13 0 [some (.ref b), some (.int (Int32.ofInt (r : Int)))] [] (V, T) Q := by
  have hg := zgb_lt hW hr
  repeat' (first
    | (intro c; (try simp (disch := omega) only [zI_lt, zI_le, zI_eq, zI_0, zI_add, zI_sub, zI_mul, zI_neg, Int.reduceNeg, Int.reduceAdd, Int.reduceSub, Int.reduceMul, Decidable.not_not, Int.not_lt, Int.not_le, not_true_eq_false, not_false_eq_true] at c); (try (exfalso; omega)))
    | simp only [zI_add, zI_sub, zI_mul, zI_neg]
    | apply s14 hF hb hS hW hr
    | apply s15i hF hg
    | apply b13_0 hF
    | apply b13_5 hF
    | apply b13_8 hF
    | with_reducible assumption
    | exact zI_nat _
    | exact zNb1
    | exact zNb0
    | omega
    | with_reducible rfl
    | exact zI_nI (by omega))
theorem s19 {x : zXs} {F : zF} (hF : zSh F) {d : Nat} {V : Nat → Nat → Int32} {T : Nat → Nat → Int64} {Q : Option Value → zG → Prop} {b : Nat} (hb : zSt b) {S : Nat → Nat → Nat} (hS : zCS b V S) (hW : zWf S) {v : Int} (hv : -2147483648 ≤ v ∧ v ≤ 2147483647) (k1 : 0 ≤ v ∧ v < S 5 0 → Q (some (.int (Int32.ofInt 1))) (V, T)) (k0 : ¬ (0 ≤ v ∧ v < S 5 0) → Q (some (.int (Int32.ofInt 0))) (V, T)) : E x F (d + 1) 19 0 [some (.ref b), some (.int (Int32.ofInt v))] [] (V, T) Q := by
  have h5 := hW.2.2.1
  apply b19_0 hF hb
  rw [hS.2.2.2.2.2.1, zI_sub]
  repeat' (first
    | (intro c; (try simp (disch := omega) only [zI_lt, zI_le, zI_eq, zI_0, zI_add, zI_sub, zI_mul, zI_neg, Int.reduceNeg, Int.reduceAdd, Int.reduceSub, Int.reduceMul, Decidable.not_not, Int.not_lt, Int.not_le, not_true_eq_false, not_false_eq_true] at c); (try (exfalso; omega)))
    | simp only [zI_add, zI_sub, zI_mul, zI_neg]
    | apply s7 hF
    | apply b19_0 hF
    | apply b19_11 hF
    | exact k1 (by omega)
    | exact k0 (by omega)
    | with_reducible assumption
    | exact zI_nat _
    | exact zNb1
    | exact zNb0
    | omega
    | with_reducible rfl
    | exact zI_nI (by omega))
theorem s32 {x : zXs} {F : zF} (hF : zSh F) {d : Nat} {V : Nat → Nat → Int32} {T : Nat → Nat → Int64} {Q : Option Value → zG → Prop} {b : Nat} (hb : zSt b) {S : Nat → Nat → Nat} (hS : zCS b V S) (hW : zWf S) {r : Nat} (hr : r < 4) {o2 o3 : Option Value} (k : Q (some (.int (Int32.ofInt (zrn (zgb S r) 24 : Int)))) (V, T)) : E x F (d + 1) 32 0 [some (.ref b), some (.int (Int32.ofInt (r : Int))), o2, o3] [] (V, T) Q := by
  have hg := zgb_lt hW hr
  apply b32_0 hF hb
  apply s14 hF hb hS hW hr
  apply b32_5 hF
  rw [zB_first hg]
  apply s15i hF (by have : zfb (zgb S r) ≤ zgb S r := Nat.and_le_left
                    omega)
  rw [zfb_pc hg]
  apply b32_18 hF
  exact k
theorem zbit_prev {g p : Nat} (hg : g < 2147483648) (hp : p < 32) (h0 : 0 < p) : ((Int32.ofInt (g : Int) >>> (Int32.ofInt ((p : Int) - 1) &&& 31)) &&& Int32.ofInt 1 = Int32.ofInt 1) ↔ g.testBit (p - 1) = true := by
  rw [show (p : Int) - 1 = ((p - 1 : Nat) : Int) by omega]
  exact zbit_one hg (by omega)
theorem zrn_le (g : Nat) : ∀ q, zrn g q ≤ q := by
  intro q
  induction q with
  | zero => exact Nat.le_refl 0
  | succ q ihq =>
    have := Bool.toNat_le (g.testBit q && !(decide (0 < q) && g.testBit (q - 1)))
    simp only [zrn]
    omega
theorem zrn_s0 {g p : Nat} (h : g.testBit p = false) : zrn g (p + 1) = zrn g p := by
  simp [zrn, h]
theorem zrn_s1 {g p : Nat} (h : g.testBit p = true) (h0 : 0 < p) (h1 : g.testBit (p - 1) = true) : zrn g (p + 1) = zrn g p := by
  simp [zrn, h, h0, h1]
theorem zrn_s2 {g p : Nat} (h : g.testBit p = true) (h1 : 0 < p → g.testBit (p - 1) = false) : zrn g (p + 1) = zrn g p + 1 := by
  by_cases h0 : 0 < p
  · simp [zrn, h, h0, h1 h0]
  · simp [zrn, h, h0]
theorem zsz_s0 {g j p : Nat} (h : g.testBit p = false) : zsz g j (p + 1) = zsz g j p := by
  simp [zsz, h]
theorem zsz_s1 {g j p : Nat} (h : g.testBit p = true) (h1 : zrn g (p + 1) = j + 1) : zsz g j (p + 1) = zsz g j p + 1 := by
  simp [zsz, h, h1]
theorem zsz_s2 {g j p : Nat} (h1 : ¬ zrn g (p + 1) = j + 1) : zsz g j (p + 1) = zsz g j p := by
  simp [zsz, h1]
theorem zsz_le (g j : Nat) : ∀ q, zsz g j q ≤ q := by
  intro q
  induction q with
  | zero => exact Nat.le_refl 0
  | succ q ihq =>
    have := Bool.toNat_le (g.testBit q && zrn g (q + 1) == j + 1)
    simp only [zsz]
    omega
theorem s34l {x : zXs} {F : zF} (hF : zSh F) {d : Nat} {V : Nat → Nat → Int32} {T : Nat → Nat → Int64} {Q : Option Value → zG → Prop} {g j : Nat} (hg : g < 2147483648) (hj : j < 1000) (k : Q (some (.int (Int32.ofInt (zsz g j 24 : Int)))) (V, T)) : ∀ n p (R Z P : Int), R = zrn g p - 1 → Z = zsz g j p → P = p → p + n = 24 → ∀ o0 o1 o7 o8 : Option Value, E x F d 34 15 [o0, o1, some (.int (Int32.ofInt (j : Int))), some (.int (Int32.ofInt (g : Int))), some (.int (Int32.ofInt R)), some (.int (Int32.ofInt Z)), some (.int (Int32.ofInt P)), o7, o8] [] (V, T) Q := by
  intro n
  induction n with
  | zero =>
    intro p R Z P hR hZ hP hp o0 o1 o7 o8
    subst hP
    have hp24 : p = 24 := by omega
    subst hp24
    subst hZ
    apply b34_15 hF
    · intro c
      apply b34_96 hF
      exact k
    · intro c
      exact absurd (show Int32.ofInt 24 ≤ Int32.ofInt ((24 : Nat) : Int) by decide) c
  | succ n ih =>
    intro p R Z P hR hZ hP hp o0 o1 o7 o8
    subst hP
    have hlep := zrn_le g p
    have hles := zrn_le g (p + 1)
    have hlez := zsz_le g j p
    apply b34_15 hF
    · intro c
      simp (disch := omega) only [zI_le] at c
      exfalso; omega
    · intro c0
      clear c0
      cases hb : g.testBit p with
      | false =>
        have hr := zrn_s0 hb
        have hz := zsz_s0 (j := j) hb
        repeat' (first
          | (intro c; (try simp (disch := omega) only [zI_lt, zI_le, zI_eq, zI_0, zI_add, zI_sub, zI_mul, zI_neg, Int.reduceNeg, Int.reduceAdd, Int.reduceSub, Int.reduceMul, Decidable.not_not, Int.not_lt, Int.not_le, not_true_eq_false, not_false_eq_true, zbit_one, zbit_prev, hb, Bool.false_eq_true, not_true_eq_false, not_false_eq_true] at c); (try (exfalso; omega)))
          | simp only [zI_add, zI_sub, zI_mul, zI_neg]
          | apply ih (p + 1)
          | apply b34_22 hF
          | apply b34_32 hF
          | apply b34_36 hF
          | apply b34_37 hF
          | apply b34_44 hF
          | apply b34_56 hF
          | apply b34_60 hF
          | apply b34_61 hF
          | apply b34_68 hF
          | apply b34_73 hF
          | apply b34_76 hF
          | apply b34_81 hF
          | apply b34_87 hF
          | apply b34_90 hF
          | apply b34_96 hF
          | with_reducible assumption
          | exact zI_nat _
          | exact zNb1
          | exact zNb0
          | omega
          | with_reducible rfl
          | exact zI_nI (by omega))
      | true =>
        by_cases hq : 0 < p ∧ g.testBit (p - 1) = true
        · have hr := zrn_s1 hb hq.1 hq.2
          have hz := fun h => zsz_s1 (j := j) hb h
          have hz2 := fun h => zsz_s2 (g := g) (j := j) (p := p) h
          have hq2 := hq.2
          have hz3 : zrn g p = j + 1 ∧ zsz g j (p + 1) = zsz g j p + 1 ∨ ¬ zrn g p = j + 1 ∧ zsz g j (p + 1) = zsz g j p := by
            by_cases h : zrn g p = j + 1
            · exact Or.inl ⟨h, hz (by omega)⟩
            · exact Or.inr ⟨h, hz2 (by omega)⟩
          clear hz hz2
          repeat' (first
            | (intro c; (try simp (disch := omega) only [zI_lt, zI_le, zI_eq, zI_0, zI_add, zI_sub, zI_mul, zI_neg, Int.reduceNeg, Int.reduceAdd, Int.reduceSub, Int.reduceMul, Decidable.not_not, Int.not_lt, Int.not_le, not_true_eq_false, not_false_eq_true, zbit_one, zbit_prev, hb, hq2, Bool.false_eq_true, not_true_eq_false, not_false_eq_true] at c); (try (exfalso; omega)))
            | simp only [zI_add, zI_sub, zI_mul, zI_neg]
            | apply ih (p + 1)
            | apply b34_22 hF
            | apply b34_32 hF
            | apply b34_36 hF
            | apply b34_37 hF
            | apply b34_44 hF
            | apply b34_56 hF
            | apply b34_60 hF
            | apply b34_61 hF
            | apply b34_68 hF
            | apply b34_73 hF
            | apply b34_76 hF
            | apply b34_81 hF
            | apply b34_87 hF
            | apply b34_90 hF
            | apply b34_96 hF
            | with_reducible assumption
            | exact zI_nat _
            | exact zNb1
            | exact zNb0
            | omega
            | with_reducible rfl
            | exact zI_nI (by omega))
        · have hq2 : 0 < p → g.testBit (p - 1) = false := by
            intro h; simpa [h] using hq
          have hr := zrn_s2 hb hq2
          have hz := fun h => zsz_s1 (j := j) hb h
          have hz2 := fun h => zsz_s2 (g := g) (j := j) (p := p) h
          have hz3 : zrn g p = j ∧ zsz g j (p + 1) = zsz g j p + 1 ∨ ¬ zrn g p = j ∧ zsz g j (p + 1) = zsz g j p := by
            by_cases h : zrn g p = j
            · exact Or.inl ⟨h, hz (by omega)⟩
            · exact Or.inr ⟨h, hz2 (by omega)⟩
          clear hz hz2
          by_cases h0 : 0 < p
          · have hq3 := hq2 h0
            repeat' (first
              | (intro c; (try simp (disch := omega) only [zI_lt, zI_le, zI_eq, zI_0, zI_add, zI_sub, zI_mul, zI_neg, Int.reduceNeg, Int.reduceAdd, Int.reduceSub, Int.reduceMul, Decidable.not_not, Int.not_lt, Int.not_le, not_true_eq_false, not_false_eq_true, zbit_one, zbit_prev, hb, hq3, Bool.false_eq_true, not_true_eq_false, not_false_eq_true] at c); (try (exfalso; omega)))
              | simp only [zI_add, zI_sub, zI_mul, zI_neg]
              | apply ih (p + 1)
              | apply b34_22 hF
              | apply b34_32 hF
              | apply b34_36 hF
              | apply b34_37 hF
              | apply b34_44 hF
              | apply b34_56 hF
              | apply b34_60 hF
              | apply b34_61 hF
              | apply b34_68 hF
              | apply b34_73 hF
              | apply b34_76 hF
              | apply b34_81 hF
              | apply b34_87 hF
              | apply b34_90 hF
              | apply b34_96 hF
              | with_reducible assumption
              | exact zI_nat _
              | exact zNb1
              | exact zNb0
              | omega
              | with_reducible rfl
              | exact zI_nI (by omega))
          · skip
            repeat' (first
              | (intro c; (try simp (disch := omega) only [zI_lt, zI_le, zI_eq, zI_0, zI_add, zI_sub, zI_mul, zI_neg, Int.reduceNeg, Int.reduceAdd, Int.reduceSub, Int.reduceMul, Decidable.not_not, Int.not_lt, Int.not_le, not_true_eq_false, not_false_eq_true, zbit_one, zbit_prev, hb, Bool.false_eq_true, not_true_eq_false, not_false_eq_true] at c); (try (exfalso; omega)))
              | simp only [zI_add, zI_sub, zI_mul, zI_neg]
              | apply ih (p + 1)
              | apply b34_22 hF
              | apply b34_32 hF
              | apply b34_36 hF
              | apply b34_37 hF
              | apply b34_44 hF
              | apply b34_56 hF
              | apply b34_60 hF
              | apply b34_61 hF
              | apply b34_68 hF
              | apply b34_73 hF
              | apply b34_76 hF
              | apply b34_81 hF
              | apply b34_87 hF
              | apply b34_90 hF
              | apply b34_96 hF
              | with_reducible assumption
              | exact zI_nat _
              | exact zNb1
              | exact zNb0
              | omega
              | with_reducible rfl
              | exact zI_nI (by omega))
