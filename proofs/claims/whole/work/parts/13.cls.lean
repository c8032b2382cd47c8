/-! The class's state: its methods -/
theorem zI_max {a b : Int} (h1 : -2147483648 ≤ a ∧ a ≤ 2147483647) (h2 : -2147483648 ≤ b ∧ b ≤ 2147483647) : (if Int32.ofInt a < Int32.ofInt b then Int32.ofInt b else Int32.ofInt a) = Int32.ofInt (if a < b then b else a) := by
  by_cases h : a < b
  · rw [if_pos ((zI_lt h1 h2).mpr h), if_pos h]
  · rw [if_neg (fun g => h ((zI_lt h1 h2).mp g)), if_neg h]
theorem zI_min {a b : Int} (h1 : -2147483648 ≤ a ∧ a ≤ 2147483647) (h2 : -2147483648 ≤ b ∧ b ≤ 2147483647) : (if Int32.ofInt b < Int32.ofInt a then Int32.ofInt b else Int32.ofInt a) = Int32.ofInt (if b < a then b else a) := by
  by_cases h : b < a
  · rw [if_pos ((zI_lt h2 h1).mpr h), if_pos h]
  · rw [if_neg (fun g => h ((zI_lt h2 h1).mp g)), if_neg h]
theorem s34 {x : zXs} {F : zF} (hF : zSh F) {d : Nat} {V : Nat → Nat → Int32} {T : Nat → Nat → Int64} {Q : Option Value → zG → Prop} {b : Nat} (hb : zSt b) {S : Nat → Nat → Nat} (hS : zCS b V S) (hW : zWf S) {r : Nat} (hr : r < 4) {j : Nat} (hj : j < 1000) {o3 o4 o5 o6 o7 o8 : Option Value} (k : Q (some (.int (Int32.ofInt (zsz (zgb S r) j 24 : Int)))) (V, T)) : E x F (d + 1) 34 0 [some (.ref b), some (.int (Int32.ofInt (r : Int))), some (.int (Int32.ofInt (j : Int))), o3, o4, o5, o6, o7, o8] [] (V, T) Q := by
  have hg := zgb_lt hW hr
  apply b34_0 hF hb
  apply s14 hF hb hS hW hr
  apply b34_5 hF
  apply s34l hF (by omega) hj k 24 0 (-1) 0 0 rfl rfl rfl rfl
/-- the greatest of the first runs -/
def ygr (g : Nat) : Nat → Nat
  | 0 => 0
  | k + 1 => if ygr g k < zsz g k 24 then zsz g k 24 else ygr g k
theorem ygr_le (g k : Nat) : ygr g k ≤ 24 := by
  induction k with
  | zero => exact Nat.zero_le _
  | succ k ih =>
    have := zsz_le g k 24
    simp only [ygr]
    split <;> omega
theorem s33l {x : zXs} {F : zF} (hF : zSh F) {d : Nat} {V : Nat → Nat → Int32} {T : Nat → Nat → Int64} {Q : Option Value → zG → Prop} {b : Nat} (hb : zSt b) {S : Nat → Nat → Nat} (hS : zCS b V S) (hW : zWf S) {r : Nat} (hr : r < 4) (k : Q (some (.int (Int32.ofInt (ygr (zgb S r) (zrn (zgb S r) 24) : Int)))) (V, T)) : ∀ (n p : Nat) (R P : Int), P = p → R = ygr (zgb S r) p → p + n = zrn (zgb S r) 24 → E x F (d + 2) 33 11 [some (.ref b), some (.int (Int32.ofInt (r : Int))), some (.int (Int32.ofInt R)), some (.int (Int32.ofInt (zrn (zgb S r) 24 : Int))), some (.int (Int32.ofInt P))] [] (V, T) Q := by
  have hn := zrn_le (zgb S r) 24
  intro n
  induction n with
  | zero =>
    intro p R P hP hR hp
    have hp2 : p = zrn (zgb S r) 24 := by omega
    subst hP
    subst hR
    subst hp2
    repeat' (first
      | (intro c; (try simp (disch := omega) only [zI_lt, zI_le, zI_eq, zI_0, zI_add, zI_sub, zI_mul, zI_neg, Int.reduceNeg, Int.reduceAdd, Int.reduceSub, Int.reduceMul, Decidable.not_not, Int.not_lt, Int.not_le, not_true_eq_false, not_false_eq_true] at c); (try (exfalso; omega)))
      | simp only [zI_add, zI_sub, zI_mul, zI_neg]
      | apply b33_11 hF
      | apply b33_17 hF
      | apply b33_25 hF
      | apply b33_35 hF
      | with_reducible assumption
      | exact zI_nat _
      | exact zNb1
      | exact zNb0
      | omega
      | with_reducible rfl
      | exact zI_nI (by omega))
  | succ n ih =>
    intro p R P hP hR hp
    subst hP
    subst hR
    have h1 := ygr_le (zgb S r) p
    have h2 := zsz_le (zgb S r) p 24
    have h3 : ygr (zgb S r) (p + 1) = if ygr (zgb S r) p < zsz (zgb S r) p 24 then zsz (zgb S r) p 24 else ygr (zgb S r) p := rfl
    apply b33_11 hF
    · intro c
      simp (disch := omega) only [zI_le] at c
      exfalso; omega
    · intro c
      clear c
      apply b33_17 hF hb
      apply s34 hF hb hS hW hr (by omega)
      apply b33_25 hF
      rw [zI_max (by omega) (by omega), zI_add]
      apply ih (p + 1) _ _ (by omega) _ (by omega)
      rw [h3]
      split <;> split <;> omega
theorem s33 {x : zXs} {F : zF} (hF : zSh F) {d : Nat} {V : Nat → Nat → Int32} {T : Nat → Nat → Int64} {Q : Option Value → zG → Prop} {b : Nat} (hb : zSt b) {S : Nat → Nat → Nat} (hS : zCS b V S) (hW : zWf S) {r : Nat} (hr : r < 4) {o2 o3 o4 : Option Value} (k : Q (some (.int (Int32.ofInt (ygr (zgb S r) (zrn (zgb S r) 24) : Int)))) (V, T)) : E x F (d + 2) 33 0 [some (.ref b), some (.int (Int32.ofInt (r : Int))), o2, o3, o4] [] (V, T) Q := by
  apply b33_0 hF hb
  apply s32 hF hb hS hW hr
  apply b33_7 hF
  exact s33l hF hb hS hW hr k _ 0 0 0 rfl rfl (Nat.zero_add _)
/-- gaps of the first rows -/
def zll (S : Nat → Nat → Nat) : Nat → Nat
  | 0 => 0
  | k + 1 => zll S k + zpc 24 (zgb S k)
theorem zll_le (S : Nat → Nat → Nat) (k : Nat) : zll S k ≤ 24 * k := by
  induction k with
  | zero => exact Nat.le_refl 0
  | succ k ih =>
    have := zpc_le 24 (zgb S k)
    simp only [zll]
    omega
theorem s81l {x : zXs} {F : zF} (hF : zSh F) {d : Nat} {V : Nat → Nat → Int32} {T : Nat → Nat → Int64} {Q : Option Value → zG → Prop} {b : Nat} (hb : zSt b) {S : Nat → Nat → Nat} (hS : zCS b V S) (hW : zWf S) (k : Q (some (.int (Int32.ofInt (zll S 4 : Int)))) (V, T)) : ∀ (n p : Nat) (R P : Int), P = p → R = zll S p → p + n = 4 → E x F (d + 2) 81 4 [some (.ref b), some (.int (Int32.ofInt R)), some (.int (Int32.ofInt P))] [] (V, T) Q := by
  intro n
  induction n with
  | zero =>
    intro p R P hP hR hp
    have hp2 : p = 4 := by omega
    subst hP
    subst hR
    subst hp2
    repeat' (first
      | (intro c; (try simp (disch := omega) only [zI_lt, zI_le, zI_eq, zI_0, zI_add, zI_sub, zI_mul, zI_neg, Int.reduceNeg, Int.reduceAdd, Int.reduceSub, Int.reduceMul, Decidable.not_not, Int.not_lt, Int.not_le, not_true_eq_false, not_false_eq_true] at c); (try (exfalso; omega)))
      | simp only [zI_add, zI_sub, zI_mul, zI_neg]
      | apply b81_4 hF
      | apply b81_9 hF
      | apply b81_15 hF
      | apply b81_23 hF
      | with_reducible assumption
      | exact zI_nat _
      | exact zNb1
      | exact zNb0
      | omega
      | with_reducible rfl
      | exact zI_nI (by omega))
  | succ n ih =>
    intro p R P hP hR hp
    subst hP
    subst hR
    have h3 : zll S (p + 1) = zll S p + zpc 24 (zgb S p) := rfl
    apply b81_4 hF
    repeat' (first
      | (intro c; (try simp (disch := omega) only [zI_lt, zI_le, zI_eq, zI_0, zI_add, zI_sub, zI_mul, zI_neg, Int.reduceNeg, Int.reduceAdd, Int.reduceSub, Int.reduceMul, Decidable.not_not, Int.not_lt, Int.not_le, not_true_eq_false, not_false_eq_true] at c); (try (exfalso; omega)))
      | simp only [zI_add, zI_sub, zI_mul, zI_neg]
      | apply ih (p + 1)
      | apply s13 hF hb hS hW (r := p) (by omega)
      | apply b81_9 hF
      | apply b81_15 hF
      | apply b81_23 hF
      | with_reducible assumption
      | exact zI_nat _
      | exact zNb1
      | exact zNb0
      | omega
      | with_reducible rfl
      | exact zI_nI (by omega))
theorem s81 {x : zXs} {F : zF} (hF : zSh F) {d : Nat} {V : Nat → Nat → Int32} {T : Nat → Nat → Int64} {Q : Option Value → zG → Prop} {b : Nat} (hb : zSt b) {S : Nat → Nat → Nat} (hS : zCS b V S) (hW : zWf S) {o1 o2 : Option Value} (k : Q (some (.int (Int32.ofInt (zll S 4 : Int)))) (V, T)) : E x F (d + 2) 81 0 [some (.ref b), o1, o2] [] (V, T) Q := by
  apply b81_0 hF
  exact s81l hF hb hS hW k _ 0 0 0 rfl rfl (Nat.zero_add _)
theorem s105 {x : zXs} {F : zF} (hF : zSh F) {d : Nat} {V : Nat → Nat → Int32} {T : Nat → Nat → Int64} {Q : Option Value → zG → Prop} {v : Nat} (hv : v < 31) {c : Prop} [Decidable c] {z : Int} (hz : z = if c then 1 else 0) (k : Q (some (.int (Int32.ofInt ((if c then 2 ^ v else 0 : Nat) : Int)))) (V, T)) : E x F d 105 0 [some (.int (Int32.ofInt z)), some (.int (Int32.ofInt (v : Int)))] [] (V, T) Q := by
  have h1 : Int32.ofInt 1 <<< (Int32.ofInt (v : Int) &&& 31) = Int32.ofInt ((2 ^ v : Nat) : Int) := by
    have := zB_shl 1 (show v < 32 by omega)
    rw [Nat.shiftLeft_eq, Nat.one_mul] at this
    exact this
  by_cases hc : c
  · rw [if_pos hc] at hz k
    subst hz
    apply b105_0 hF
    · intro c; exact absurd c (by decide)
    · intro _
      apply b105_4 hF
      apply b105_11 hF
      rw [h1]
      exact k
  · rw [if_neg hc] at hz k
    subst hz
    apply b105_0 hF
    · intro _
      apply b105_10 hF
      apply b105_11 hF
      exact k
    · intro c; exact absurd rfl c
theorem s101 {x : zXs} {F : zF} (hF : zSh F) {d : Nat} {V : Nat → Nat → Int32} {T : Nat → Nat → Int64} {Q : Option Value → zG → Prop} {v : Int} (hv : -2147483648 ≤ v ∧ v ≤ 2147483647) {o : Option Value} (k1 : 0 ≤ v ∧ v ≤ 3 → Q (some (.int (Int32.ofInt 1))) (V, T)) (k0 : ¬ (0 ≤ v ∧ v ≤ 3) → Q (some (.int (Int32.ofInt 0))) (V, T)) : E x F (d + 1) 101 0 [o, some (.int (Int32.ofInt v))] [] (V, T) Q := by
  repeat' (first
    | (intro c; (try simp (disch := omega) only [zI_lt, zI_le, zI_eq, zI_0, zI_add, zI_sub, zI_mul, zI_neg, Int.reduceNeg, Int.reduceAdd, Int.reduceSub, Int.reduceMul, Decidable.not_not, Int.not_lt, Int.not_le, not_true_eq_false, not_false_eq_true] at c); (try (exfalso; omega)))
    | simp only [zI_add, zI_sub, zI_mul, zI_neg]
    | apply s7 hF
    | apply b101_0 hF
    | apply b101_6 hF
    | exact k1 (by omega)
    | exact k0 (by omega)
    | with_reducible assumption
    | exact zI_nat _
    | exact zNb1
    | exact zNb0
    | omega
    | with_reducible rfl
    | exact zI_nI (by omega))
theorem zu_ne {α : Type} {V : Nat → Nat → α} {a k b : Nat} {v : α} (h : b ≠ a) : zu V a k v b = V b := by
  unfold zu; rw [if_neg h]
theorem zu_at {α : Type} {V : Nat → Nat → α} {a k j : Nat} {v : α} : zu V a k v a j = if j = k then v else V a j := by
  unfold zu; rw [if_pos rfl]
theorem zcpy_ne {V : Nat → Nat → Int32} {a b sp dp n c : Nat} (h : c ≠ b) : zcpy V a b sp dp n c = V c := by
  unfold zcpy zur; rw [if_neg h]
theorem zcpy_at {V : Nat → Nat → Int32} {a b n i : Nat} (h : i < n) : zcpy V a b 0 0 n b i = V a i := by
  unfold zcpy zur; rw [if_pos rfl]
  unfold va_cpy
  simp [h]
theorem s83 {x : zXs} {F : zF} (hF : zSh F) {d : Nat} {V : Nat → Nat → Int32} {T : Nat → Nat → Int64} {Q : Option Value → zG → Prop} {a b : Nat} (ha : zSt a) (hb : zSt b) (hab : a ≠ b) {S : Nat → Nat → Nat} (hS : zCS b V S) (k : ∀ V', zCS a V' S → (∀ c, (c < a ∨ a + 5 < c) → V' c = V c) → Q none (V', T)) : E x F d 83 0 [some (.ref a), some (.ref b)] [] (V, T) Q := by
  have hd : a + 5 < b ∨ b + 5 < a := by
    rcases ha with rfl | rfl | rfl <;> rcases hb with rfl | rfl | rfl <;> omega
  obtain ⟨h0, h1, h2, h3, h4, h5, h6, h7⟩ := hS
  apply b83_0 hF ha hb
  apply k
  · refine ⟨?_, ?_, ?_, ?_, ?_, ?_, ?_, ?_⟩
    · intro i hi
      rw [zu_ne (by omega), zu_ne (by omega), zu_ne (by omega), zcpy_ne (by omega), zcpy_ne (by omega), zcpy_ne (by omega), zcpy_ne (by omega), zcpy_at hi]
      exact h0 i hi
    · intro i hi
      rw [zu_ne (by omega), zu_ne (by omega), zu_ne (by omega), zcpy_ne (by omega), zcpy_ne (by omega), zcpy_ne (by omega), zcpy_at hi, zcpy_ne (by omega)]
      exact h1 i hi
    · intro i hi
      rw [zu_ne (by omega), zu_ne (by omega), zu_ne (by omega), zcpy_ne (by omega), zcpy_ne (by omega), zcpy_at hi, zcpy_ne (by omega), zcpy_ne (by omega)]
      exact h2 i hi
    · intro i hi
      rw [zu_ne (by omega), zu_ne (by omega), zu_ne (by omega), zcpy_ne (by omega), zcpy_at hi, zcpy_ne (by omega), zcpy_ne (by omega), zcpy_ne (by omega)]
      exact h3 i hi
    · intro i hi
      rw [zu_ne (by omega), zu_ne (by omega), zu_ne (by omega), zcpy_at hi, zcpy_ne (by omega), zcpy_ne (by omega), zcpy_ne (by omega), zcpy_ne (by omega)]
      exact h4 i hi
    · rw [zu_at, if_neg (by omega), zu_at, if_neg (by omega), zu_at, if_pos rfl, zcpy_ne (by omega), zcpy_ne (by omega), zcpy_ne (by omega), zcpy_ne (by omega), zcpy_ne (by omega)]
      exact h5
    · rw [zu_at, if_neg (by omega), zu_at, if_pos rfl, zu_ne (by omega), zcpy_ne (by omega), zcpy_ne (by omega), zcpy_ne (by omega), zcpy_ne (by omega), zcpy_ne (by omega)]
      exact h6
    · rw [zu_at, if_pos rfl, zu_ne (by omega), zu_ne (by omega), zcpy_ne (by omega), zcpy_ne (by omega), zcpy_ne (by omega), zcpy_ne (by omega), zcpy_ne (by omega)]
      exact h7
  · intro c hc
    rw [zu_ne (by omega), zu_ne (by omega), zu_ne (by omega), zcpy_ne (by omega), zcpy_ne (by omega), zcpy_ne (by omega), zcpy_ne (by omega), zcpy_ne (by omega)]
