/-! What a text's codes tell -/
def yOne (c : Nat) (a : Int32) : Int32 := if c = 6 then -a else if a = 0 then Int32.ofInt 1 else Int32.ofInt 0
def yTwo (c : Nat) (a b : Int32) : Int32 := if c = 8 then (if a = 0 ∧ b = 0 then Int32.ofInt 0 else Int32.ofInt 1) else if c = 9 then (if a = 0 ∨ b = 0 then Int32.ofInt 0 else Int32.ofInt 1) else if c = 10 then (if a < b then Int32.ofInt 1 else Int32.ofInt 0) else if c = 11 then (if a = b then Int32.ofInt 1 else Int32.ofInt 0) else if c = 12 then a + b else if c = 13 then a - b else a * b
theorem s28 {x : zXs} {F : zF} (hF : zSh F) {d : Nat} {V : Nat → Nat → Int32} {T : Nat → Nat → Int64} {Q : Option Value → zG → Prop} {c : Nat} (hc : c < 20000) {a : Int32} (k : Q (some (.int (yOne c a))) (V, T)) : E x F d 28 0 [some (.int (Int32.ofInt (c : Int))), some (.int a)] [] (V, T) Q := by
  unfold yOne at k
  apply b28_0 hF <;> intro c1
  · simp (disch := omega) only [zI_eq] at c1
    rw [if_neg (by omega)] at k
    apply b28_11 hF <;> intro c2
    · rw [if_neg c2] at k
      exact b28_19 hF (b28_20 hF k)
    · rw [if_pos (Decidable.not_not.mp c2)] at k
      exact b28_15 hF (b28_20 hF k)
  · simp (disch := omega) only [zI_eq] at c1
    rw [if_pos (by omega)] at k
    exact b28_6 hF (b28_20 hF k)
theorem s29 {x : zXs} {F : zF} (hF : zSh F) {d : Nat} {V : Nat → Nat → Int32} {T : Nat → Nat → Int64} {Q : Option Value → zG → Prop} {c : Nat} (hc : 8 ≤ c ∧ c ≤ 14) {a b : Int32} (k : Q (some (.int (yTwo c a b))) (V, T)) : E x F d 29 0 [some (.int (Int32.ofInt (c : Int))), some (.int a), some (.int b)] [] (V, T) Q := by
  unfold yTwo at k
  apply b29_0 hF <;> intro c1
  · simp (disch := omega) only [zI_eq] at c1
    rw [if_pos (by omega)] at k
    apply b29_40 hF <;> intro c2
    · rw [if_neg (fun h => c2 h.1)] at k
      exact b29_48 hF (b29_53 hF k)
    · apply b29_44 hF <;> intro c3
      · rw [if_pos ⟨Decidable.not_not.mp c2, c3⟩] at k
        exact b29_52 hF (b29_53 hF k)
      · rw [if_neg (fun h => c3 h.2)] at k
        exact b29_48 hF (b29_53 hF k)
  · simp (disch := omega) only [zI_eq] at c1
    rw [if_neg (by omega), if_pos (by omega)] at k
    apply b29_54 hF <;> intro c2
    · rw [if_pos (Or.inl c2)] at k
      exact b29_66 hF (b29_67 hF k)
    · apply b29_58 hF <;> intro c3
      · rw [if_pos (Or.inr c3)] at k
        exact b29_66 hF (b29_67 hF k)
      · rw [if_neg (fun h => h.elim c2 c3)] at k
        exact b29_62 hF (b29_67 hF k)
  · simp (disch := omega) only [zI_eq] at c1
    rw [if_neg (by omega), if_neg (by omega), if_pos (by omega)] at k
    apply b29_68 hF <;> intro c2
    · rw [if_neg (fun h => absurd h (by rw [Int32.lt_iff_toInt_lt]; rw [Int32.le_iff_toInt_le] at c2; omega))] at k
      exact b29_77 hF (b29_78 hF k)
    · rw [if_pos (by rw [Int32.lt_iff_toInt_lt]; rw [Int32.le_iff_toInt_le] at c2; omega)] at k
      exact b29_73 hF (b29_78 hF k)
  · simp (disch := omega) only [zI_eq] at c1
    rw [if_neg (by omega), if_neg (by omega), if_neg (by omega), if_pos (by omega)] at k
    apply b29_79 hF <;> intro c2
    · rw [if_neg c2] at k
      exact b29_88 hF (b29_89 hF k)
    · rw [if_pos (Decidable.not_not.mp c2)] at k
      exact b29_84 hF (b29_89 hF k)
  · simp (disch := omega) only [zI_eq] at c1
    rw [if_neg (by omega), if_neg (by omega), if_neg (by omega), if_neg (by omega), if_pos (by omega)] at k
    exact b29_90 hF k
  · simp (disch := omega) only [zI_eq] at c1
    rw [if_neg (by omega), if_neg (by omega), if_neg (by omega), if_neg (by omega), if_neg (by omega), if_pos (by omega)] at k
    exact b29_94 hF k
  · simp (disch := omega) only [zI_eq] at c1
    rw [if_neg (by omega), if_neg (by omega), if_neg (by omega), if_neg (by omega), if_neg (by omega), if_neg (by omega)] at k
    exact b29_98 hF k
/-- one code, on a stack -/
def yStep (e : Nat → Int32) (c : Nat) (p : Nat × (Nat → Int32)) : Nat × (Nat → Int32) :=
  if (c < 6 ∨ 100 ≤ c) ∧ p.1 < 160 then (p.1 + 1, fun j => if j = p.1 then (if c < 6 then e c else Int32.ofInt ((c : Int) - 100)) else p.2 j)
  else if (c = 6 ∨ c = 7) ∧ 1 ≤ p.1 then (p.1, fun j => if j = p.1 - 1 then yOne c (p.2 (p.1 - 1)) else p.2 j)
  else if (8 ≤ c ∧ c ≤ 14) ∧ 2 ≤ p.1 then (p.1 - 1, fun j => if j = p.1 - 2 then yTwo c (p.2 (p.1 - 2)) (p.2 (p.1 - 1)) else p.2 j)
  else p
/-- codes from a place on, so many -/
def yRn (e : Nat → Int32) (c : Nat → Nat) : Nat → Nat → Nat × (Nat → Int32) → Nat × (Nat → Int32)
  | _, 0, p => p
  | i, n + 1, p => yRn e c (i + 1) n (yStep e (c i) p)
theorem zu_eq {V : Nat → Nat → Int32} {a k : Nat} {v : Int32} : zu V a k v a = fun j => if j = k then v else V a j := by
  funext j; exact zu_at
theorem s27l {x : zXs} {F : zF} (hF : zSh F) {d : Nat} {V : Nat → Nat → Int32} {T : Nat → Nat → Int64} {Q : Option Value → zG → Prop} {t e p : Nat} {c : Nat → Nat} (ht : t < 6) (he : e ≤ 160) (hc : ∀ i, i < e → V (24 + 3 * t + 1) i = Int32.ofInt (c i : Int) ∧ c i < 20000) : ∀ (n i top : Nat) (P J : Int) (V' : Nat → Nat → Int32), P = top → J = i → top ≤ 160 → i + n = e → (∀ a, a ≠ 23 → V' a = V a) → (∀ V'', (∀ a, a ≠ 23 → V'' a = V a) → Q (some (.int ((yRn (V 22) c i n (top, V' 23)).2 0))) (V'', T)) → ∀ o7 o8 : Option Value, E x F (d + 1) 27 72 [some (.ref 20), some (.int (Int32.ofInt (t : Int))), some (.int (Int32.ofInt (p : Int))), some (.ref (24 + 3 * t + 1)), some (.int (Int32.ofInt (e : Int))), some (.int (Int32.ofInt P)), some (.int (Int32.ofInt J)), o7, o8] [] (V', T) Q := by
  intro n
  induction n with
  | zero =>
    intro i top P J V' hP hJ ht2 hi hfr k o7 o8
    subst hP
    subst hJ
    apply b27_72 hF
    · intro _
      exact b27_262 hF (k V' hfr)
    · intro c1
      simp (disch := omega) only [zI_le] at c1
      exfalso; omega
  | succ n ih =>
    intro i top P J V' hP hJ ht2 hi hfr k o7 o8
    subst hP
    subst hJ
    have hci := hc i (by omega)
    have hci1 : V' (24 + 3 * t + 1) i = Int32.ofInt (c i : Int) := by rw [hfr _ (by omega)]; exact hci.1
    have hci2 := hci.2
    have h22 : V' 22 = V 22 := hfr 22 (by omega)
    have hlen : zsh F (24 + 3 * t + 1) = 100 ∧ zln F (24 + 3 * t + 1) = 160 := zTx_a0 hF (zTxt_in ht)
    have hlen2 : zsh F 23 = 100 ∧ zln F 23 = 160 := zsh_at hF rfl
    apply b27_72 hF
    · intro c1
      simp (disch := omega) only [zI_le] at c1
      exfalso; omega
    · intro _
      apply b27_79 hF hlen (by omega) (i1 := i) (zI_nat i) (by omega)
      · rw [hci1]
        intro c1
        simp (disch := omega) only [zI_lt, zI_0] at c1
        exfalso; omega
      · rw [hci1]
        intro _
        by_cases h1 : (c i < 6 ∨ 100 ≤ c i) ∧ top < 160
        · have hs : yStep (V 22) (c i) (top, V' 23) = (top + 1, fun j => if j = top then (if c i < 6 then V 22 (c i) else Int32.ofInt ((c i : Int) - 100)) else V' 23 j) := by
            unfold yStep; rw [if_pos h1]
          by_cases h2 : c i < 6
          · rw [if_pos h2] at hs
            repeat' (first
              | exact hlen2
              | exact fun a ha => (zu_ne ha).trans (hfr a ha)
              | exact fun V'' h => (by have := k V'' h; rw [yRn, hs] at this; rw [zu_eq]; exact this)
              | (intro c; (try simp (disch := omega) only [zI_lt, zI_le, zI_eq, zI_0, zI_add, zI_sub, zI_mul, zI_neg, Int.reduceNeg, Int.reduceAdd, Int.reduceSub, Int.reduceMul, Decidable.not_not, Int.not_lt, Int.not_le, not_true_eq_false, not_false_eq_true] at c); (try (exfalso; omega)))
              | rw [h22]
              | simp only [zI_add, zI_sub, zI_mul, zI_neg]
              | apply ih (i + 1) (top + 1)
              | apply b27_4 hF
              | apply b27_12 hF
              | apply b27_16 hF
              | apply b27_21 hF
              | apply b27_23 hF
              | apply b27_53 hF
              | apply b27_57 hF
              | apply b27_70 hF
              | apply b27_79 hF
              | apply b27_90 hF
              | apply b27_97 hF
              | apply b27_101 hF
              | apply b27_102 hF
              | apply b27_109 hF
              | apply b27_116 hF
              | apply b27_124 hF
              | apply b27_135 hF
              | apply b27_145 hF
              | apply b27_150 hF
              | apply b27_157 hF
              | apply b27_164 hF
              | apply b27_171 hF
              | apply b27_177 hF
              | apply b27_199 hF
              | apply b27_203 hF
              | apply b27_210 hF
              | apply b27_217 hF
              | apply b27_223 hF
              | apply b27_255 hF
              | apply b27_256 hF
              | apply b27_262 hF
              | with_reducible assumption
              | exact zI_nat _
              | exact zNb1
              | exact zNb0
              | omega
              | with_reducible rfl
              | exact zI_nI (by omega))
          · rw [if_neg h2] at hs
            repeat' (first
              | exact hlen2
              | exact fun a ha => (zu_ne ha).trans (hfr a ha)
              | exact fun V'' h => (by have := k V'' h; rw [yRn, hs] at this; rw [zu_eq]; exact this)
              | (intro c; (try simp (disch := omega) only [zI_lt, zI_le, zI_eq, zI_0, zI_add, zI_sub, zI_mul, zI_neg, Int.reduceNeg, Int.reduceAdd, Int.reduceSub, Int.reduceMul, Decidable.not_not, Int.not_lt, Int.not_le, not_true_eq_false, not_false_eq_true] at c); (try (exfalso; omega)))
              | simp only [zI_add, zI_sub, zI_mul, zI_neg]
              | apply ih (i + 1) (top + 1)
              | apply b27_4 hF
              | apply b27_12 hF
              | apply b27_16 hF
              | apply b27_21 hF
              | apply b27_23 hF
              | apply b27_53 hF
              | apply b27_57 hF
              | apply b27_70 hF
              | apply b27_79 hF
              | apply b27_90 hF
              | apply b27_97 hF
              | apply b27_101 hF
              | apply b27_102 hF
              | apply b27_109 hF
              | apply b27_116 hF
              | apply b27_124 hF
              | apply b27_135 hF
              | apply b27_145 hF
              | apply b27_150 hF
              | apply b27_157 hF
              | apply b27_164 hF
              | apply b27_171 hF
              | apply b27_177 hF
              | apply b27_199 hF
              | apply b27_203 hF
              | apply b27_210 hF
              | apply b27_217 hF
              | apply b27_223 hF
              | apply b27_255 hF
              | apply b27_256 hF
              | apply b27_262 hF
              | with_reducible assumption
              | exact zI_nat _
              | exact zNb1
              | exact zNb0
              | omega
              | with_reducible rfl
              | exact zI_nI (by omega))
        · by_cases h2 : (c i = 6 ∨ c i = 7) ∧ 1 ≤ top
          · have hs : yStep (V 22) (c i) (top, V' 23) = (top, fun j => if j = top - 1 then yOne (c i) (V' 23 (top - 1)) else V' 23 j) := by
              unfold yStep; rw [if_neg h1, if_pos h2]
            have htop : (top : Int) - 1 = ((top - 1 : Nat) : Int) := by omega
            repeat' (first
              | exact hlen2
              | exact fun a ha => (zu_ne ha).trans (hfr a ha)
              | exact fun V'' h => (by have := k V'' h; rw [yRn, hs] at this; rw [zu_eq]; exact this)
              | (intro c; (try simp (disch := omega) only [zI_lt, zI_le, zI_eq, zI_0, zI_add, zI_sub, zI_mul, zI_neg, Int.reduceNeg, Int.reduceAdd, Int.reduceSub, Int.reduceMul, Decidable.not_not, Int.not_lt, Int.not_le, not_true_eq_false, not_false_eq_true] at c); (try (exfalso; omega)))
              | rw [htop]
              | simp only [zI_add, zI_sub, zI_mul, zI_neg]
              | apply ih (i + 1) top
              | apply s28 hF hci2
              | apply b27_4 hF
              | apply b27_12 hF
              | apply b27_16 hF
              | apply b27_21 hF
              | apply b27_23 hF
              | apply b27_53 hF
              | apply b27_57 hF
              | apply b27_70 hF
              | apply b27_79 hF
              | apply b27_90 hF
              | apply b27_97 hF
              | apply b27_101 hF
              | apply b27_102 hF
              | apply b27_109 hF
              | apply b27_116 hF
              | apply b27_124 hF
              | apply b27_135 hF
              | apply b27_145 hF
              | apply b27_150 hF
              | apply b27_157 hF
              | apply b27_164 hF
              | apply b27_171 hF
              | apply b27_177 hF
              | apply b27_199 hF
              | apply b27_203 hF
              | apply b27_210 hF
              | apply b27_217 hF
              | apply b27_223 hF
              | apply b27_255 hF
              | apply b27_256 hF
              | apply b27_262 hF
              | with_reducible assumption
              | exact zI_nat _
              | exact zNb1
              | exact zNb0
              | omega
              | with_reducible rfl
              | exact zI_nI (by omega))
          · by_cases h3 : (8 ≤ c i ∧ c i ≤ 14) ∧ 2 ≤ top
            · have hs : yStep (V 22) (c i) (top, V' 23) = (top - 1, fun j => if j = top - 2 then yTwo (c i) (V' 23 (top - 2)) (V' 23 (top - 1)) else V' 23 j) := by
                unfold yStep; rw [if_neg h1, if_neg h2, if_pos h3]
              have htop : (top : Int) + -1 - 1 = ((top - 2 : Nat) : Int) := by omega
              have htop2 : (top : Int) + -1 = ((top - 1 : Nat) : Int) := by omega
              repeat' (first
                | exact hlen2
                | exact fun a ha => (zu_ne ha).trans (hfr a ha)
                | exact fun V'' h => (by have := k V'' h; rw [yRn, hs] at this; rw [zu_eq]; exact this)
                | (intro c; (try simp (disch := omega) only [zI_lt, zI_le, zI_eq, zI_0, zI_add, zI_sub, zI_mul, zI_neg, Int.reduceNeg, Int.reduceAdd, Int.reduceSub, Int.reduceMul, Decidable.not_not, Int.not_lt, Int.not_le, not_true_eq_false, not_false_eq_true] at c); (try (exfalso; omega)))
                | rw [htop]
                | rw [htop2]
                | simp only [zI_add, zI_sub, zI_mul, zI_neg]
                | apply ih (i + 1) (top - 1)
                | apply s29 hF h3.1
                | apply b27_4 hF
                | apply b27_12 hF
                | apply b27_16 hF
                | apply b27_21 hF
                | apply b27_23 hF
                | apply b27_53 hF
                | apply b27_57 hF
                | apply b27_70 hF
                | apply b27_79 hF
                | apply b27_90 hF
                | apply b27_97 hF
                | apply b27_101 hF
                | apply b27_102 hF
                | apply b27_109 hF
                | apply b27_116 hF
                | apply b27_124 hF
                | apply b27_135 hF
                | apply b27_145 hF
                | apply b27_150 hF
                | apply b27_157 hF
                | apply b27_164 hF
                | apply b27_171 hF
                | apply b27_177 hF
                | apply b27_199 hF
                | apply b27_203 hF
                | apply b27_210 hF
                | apply b27_217 hF
                | apply b27_223 hF
                | apply b27_255 hF
                | apply b27_256 hF
                | apply b27_262 hF
                | with_reducible assumption
                | exact zI_nat _
                | exact zNb1
                | exact zNb0
                | omega
                | with_reducible rfl
                | exact zI_nI (by omega))
            · have hs : yStep (V 22) (c i) (top, V' 23) = (top, V' 23) := by
                unfold yStep; rw [if_neg h1, if_neg h2, if_neg h3]
              repeat' (first
                | exact hlen2
                | exact hfr
                | exact fun V'' h => (by have := k V'' h; rw [yRn, hs] at this; exact this)
                | (intro c; (try simp (disch := omega) only [zI_lt, zI_le, zI_eq, zI_0, zI_add, zI_sub, zI_mul, zI_neg, Int.reduceNeg, Int.reduceAdd, Int.reduceSub, Int.reduceMul, Decidable.not_not, Int.not_lt, Int.not_le, not_true_eq_false, not_false_eq_true] at c); (try (exfalso; omega)))
                | simp only [zI_add, zI_sub, zI_mul, zI_neg]
                | apply ih (i + 1) top
                | apply b27_4 hF
                | apply b27_12 hF
                | apply b27_16 hF
                | apply b27_21 hF
                | apply b27_23 hF
                | apply b27_53 hF
                | apply b27_57 hF
                | apply b27_70 hF
                | apply b27_79 hF
                | apply b27_90 hF
                | apply b27_97 hF
                | apply b27_101 hF
                | apply b27_102 hF
                | apply b27_109 hF
                | apply b27_116 hF
                | apply b27_124 hF
                | apply b27_135 hF
                | apply b27_145 hF
                | apply b27_150 hF
                | apply b27_157 hF
                | apply b27_164 hF
                | apply b27_171 hF
                | apply b27_177 hF
                | apply b27_199 hF
                | apply b27_203 hF
                | apply b27_210 hF
                | apply b27_217 hF
                | apply b27_223 hF
                | apply b27_255 hF
                | apply b27_256 hF
                | apply b27_262 hF
                | with_reducible assumption
                | exact zI_nat _
                | exact zNb1
                | exact zNb0
                | omega
                | with_reducible rfl
                | exact zI_nI (by omega))
