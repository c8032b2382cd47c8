/-! lay, set, gleaner: both -/
theorem zu_if {α : Type} {V : Nat → Nat → α} {a k b j : Nat} {v : α} : zu V a k v b j = if b = a ∧ j = k then v else V b j := by
  by_cases h : b = a
  · subst h
    rw [zu_at]
    by_cases h2 : j = k
    · rw [if_pos h2, if_pos ⟨rfl, h2⟩]
    · rw [if_neg h2, if_neg (fun g => h2 g.2)]
  · rw [zu_ne h, if_neg (fun g => h g.1)]
theorem zCS_zu {b : Nat} {V : Nat → Nat → Int32} {S : Nat → Nat → Nat} {f i v : Nat} (hf : f < 5) (h : zCS b V S) : zCS b (zu V (b + 1 + f) i (Int32.ofInt (v : Int))) (zu S f i v) := by
  obtain ⟨h0, h1, h2, h3, h4, h5, h6, h7⟩ := h
  refine ⟨?_, ?_, ?_, ?_, ?_, ?_, ?_, ?_⟩
  · intro j hj
    rw [zu_if, zu_if]
    split <;> split <;> first | rfl | (exfalso; omega) | exact h0 j hj
  · intro j hj
    rw [zu_if, zu_if]
    split <;> split <;> first | rfl | (exfalso; omega) | exact h1 j hj
  · intro j hj
    rw [zu_if, zu_if]
    split <;> split <;> first | rfl | (exfalso; omega) | exact h2 j hj
  · intro j hj
    rw [zu_if, zu_if]
    split <;> split <;> first | rfl | (exfalso; omega) | exact h3 j hj
  · intro j hj
    rw [zu_if, zu_if]
    split <;> split <;> first | rfl | (exfalso; omega) | exact h4 j hj
  · rw [zu_if, zu_if, if_neg (by omega), if_neg (by omega)]; exact h5
  · rw [zu_if, zu_if, if_neg (by omega), if_neg (by omega)]; exact h6
  · rw [zu_if, zu_if, if_neg (by omega), if_neg (by omega)]; exact h7
theorem zCS_z5 {b : Nat} {V : Nat → Nat → Int32} {S : Nat → Nat → Nat} {i v : Nat} (hi : i < 3) (h : zCS b V S) : zCS b (zu V b (5 + i) (Int32.ofInt (v : Int))) (zu S 5 i v) := by
  obtain ⟨h0, h1, h2, h3, h4, h5, h6, h7⟩ := h
  refine ⟨?_, ?_, ?_, ?_, ?_, ?_, ?_, ?_⟩
  · intro j hj
    rw [zu_ne (by omega), zu_ne (by omega)]; exact h0 j hj
  · intro j hj
    rw [zu_ne (by omega), zu_ne (by omega)]; exact h1 j hj
  · intro j hj
    rw [zu_ne (by omega), zu_ne (by omega)]; exact h2 j hj
  · intro j hj
    rw [zu_ne (by omega), zu_ne (by omega)]; exact h3 j hj
  · intro j hj
    rw [zu_ne (by omega), zu_ne (by omega)]; exact h4 j hj
  · rw [zu_if, zu_if]
    split <;> split <;> first | rfl | (exfalso; omega) | exact h5
  · rw [zu_if, zu_if]
    split <;> split <;> first | rfl | (exfalso; omega) | exact h6
  · rw [zu_if, zu_if]
    split <;> split <;> first | rfl | (exfalso; omega) | exact h7
theorem zMS_z0 {V : Nat → Nat → Int32} {S : Nat → Nat → Nat} {i v : Nat} (h : zMS V S) : zMS (zu V 64 i (Int32.ofInt (v : Int))) (zu S 0 i v) := by
  obtain ⟨h0, h1, h2, h3, h4, h5, h6, h7⟩ := h
  refine ⟨?_, ?_, ?_, ?_, ?_, ?_, ?_, ?_⟩
  · intro j hj
    rw [zu_if, zu_if]
    split <;> split <;> first | rfl | (exfalso; omega) | exact h0 j hj
  · intro j hj
    rw [zu_ne (by omega), zu_ne (by omega)]; exact h1 j hj
  · intro j hj
    rw [zu_ne (by omega), zu_ne (by omega)]; exact h2 j hj
  · intro j hj
    rw [zu_ne (by omega), zu_ne (by omega)]; exact h3 j hj
  · intro j hj
    rw [zu_ne (by omega), zu_ne (by omega)]; exact h4 j hj
  · rw [zu_ne (by omega), zu_ne (by omega)]; exact h5
  · rw [zu_ne (by omega), zu_ne (by omega)]; exact h6
  · rw [zu_ne (by omega), zu_ne (by omega)]; exact h7
theorem zMS_z1 {V : Nat → Nat → Int32} {S : Nat → Nat → Nat} {i v : Nat} (h : zMS V S) : zMS (zu V 63 i (Int32.ofInt (v : Int))) (zu S 1 i v) := by
  obtain ⟨h0, h1, h2, h3, h4, h5, h6, h7⟩ := h
  refine ⟨?_, ?_, ?_, ?_, ?_, ?_, ?_, ?_⟩
  · intro j hj
    rw [zu_ne (by omega), zu_ne (by omega)]; exact h0 j hj
  · intro j hj
    rw [zu_if, zu_if]
    split <;> split <;> first | rfl | (exfalso; omega) | exact h1 j hj
  · intro j hj
    rw [zu_ne (by omega), zu_ne (by omega)]; exact h2 j hj
  · intro j hj
    rw [zu_ne (by omega), zu_ne (by omega)]; exact h3 j hj
  · intro j hj
    rw [zu_ne (by omega), zu_ne (by omega)]; exact h4 j hj
  · rw [zu_ne (by omega), zu_ne (by omega)]; exact h5
  · rw [zu_ne (by omega), zu_ne (by omega)]; exact h6
  · rw [zu_ne (by omega), zu_ne (by omega)]; exact h7
theorem zMS_z2 {V : Nat → Nat → Int32} {S : Nat → Nat → Nat} {i v : Nat} (h : zMS V S) : zMS (zu V 65 i (Int32.ofInt (v : Int))) (zu S 2 i v) := by
  obtain ⟨h0, h1, h2, h3, h4, h5, h6, h7⟩ := h
  refine ⟨?_, ?_, ?_, ?_, ?_, ?_, ?_, ?_⟩
  · intro j hj
    rw [zu_ne (by omega), zu_ne (by omega)]; exact h0 j hj
  · intro j hj
    rw [zu_ne (by omega), zu_ne (by omega)]; exact h1 j hj
  · intro j hj
    rw [zu_if, zu_if]
    split <;> split <;> first | rfl | (exfalso; omega) | exact h2 j hj
  · intro j hj
    rw [zu_ne (by omega), zu_ne (by omega)]; exact h3 j hj
  · intro j hj
    rw [zu_ne (by omega), zu_ne (by omega)]; exact h4 j hj
  · rw [zu_ne (by omega), zu_ne (by omega)]; exact h5
  · rw [zu_ne (by omega), zu_ne (by omega)]; exact h6
  · rw [zu_ne (by omega), zu_ne (by omega)]; exact h7
theorem zMS_z34 {V : Nat → Nat → Int32} {S : Nat → Nat → Nat} {i f v : Nat} (hf : f < 2) (h : zMS V S) : zMS (zu V 66 (2 * i + f) (Int32.ofInt (v : Int))) (zu S (3 + f) i v) := by
  obtain ⟨h0, h1, h2, h3, h4, h5, h6, h7⟩ := h
  refine ⟨?_, ?_, ?_, ?_, ?_, ?_, ?_, ?_⟩
  · intro j hj
    rw [zu_ne (by omega), zu_ne (by omega)]; exact h0 j hj
  · intro j hj
    rw [zu_ne (by omega), zu_ne (by omega)]; exact h1 j hj
  · intro j hj
    rw [zu_ne (by omega), zu_ne (by omega)]; exact h2 j hj
  · intro j hj
    rw [zu_if, zu_if]
    split <;> split <;> first | rfl | (exfalso; omega) | exact h3 j hj
  · intro j hj
    rw [zu_if, zu_if]
    split <;> split <;> first | rfl | (exfalso; omega) | exact h4 j hj
  · rw [zu_ne (by omega), zu_ne (by omega)]; exact h5
  · rw [zu_ne (by omega), zu_ne (by omega)]; exact h6
  · rw [zu_ne (by omega), zu_ne (by omega)]; exact h7
/-- where the reference holds crew, night, rule -/
def yM5 (i : Nat) : Nat := if i = 0 then 12 else if i = 1 then 7 else 4
theorem zMS_z5 {V : Nat → Nat → Int32} {S : Nat → Nat → Nat} {i v : Nat} (hi : i < 3) (h : zMS V S) : zMS (zu V 59 (yM5 i) (Int32.ofInt (v : Int))) (zu S 5 i v) := by
  obtain ⟨h0, h1, h2, h3, h4, h5, h6, h7⟩ := h
  have e : ∀ j, (yM5 i = j) → (zu V 59 (yM5 i) (Int32.ofInt (v : Int)) 59 j = Int32.ofInt (v : Int)) := fun j hj => by rw [← hj]; exact zuN_at
  have e2 : ∀ j, j ≠ yM5 i → (zu V 59 (yM5 i) (Int32.ofInt (v : Int)) 59 j = V 59 j) := fun j hj => zuN_nk hj
  have e3 : yM5 0 = 12 ∧ yM5 1 = 7 ∧ yM5 2 = 4 := ⟨rfl, rfl, rfl⟩
  refine ⟨?_, ?_, ?_, ?_, ?_, ?_, ?_, ?_⟩
  · intro j hj
    rw [zu_ne (by omega), zu_ne (by omega)]; exact h0 j hj
  · intro j hj
    rw [zu_ne (by omega), zu_ne (by omega)]; exact h1 j hj
  · intro j hj
    rw [zu_ne (by omega), zu_ne (by omega)]; exact h2 j hj
  · intro j hj
    rw [zu_ne (by omega), zu_ne (by omega)]; exact h3 j hj
  · intro j hj
    rw [zu_ne (by omega), zu_ne (by omega)]; exact h4 j hj
  · rcases (show i = 0 ∨ i = 1 ∨ i = 2 by omega) with rfl | rfl | rfl
    · rw [e 12 e3.1, zuN_at]
    · rw [e2 12 (by omega), zuN_nk (by omega)]; exact h5
    · rw [e2 12 (by omega), zuN_nk (by omega)]; exact h5
  · rcases (show i = 0 ∨ i = 1 ∨ i = 2 by omega) with rfl | rfl | rfl
    · rw [e2 7 (by omega), zuN_nk (by omega)]; exact h6
    · rw [e 7 e3.2.1, zuN_at]
    · rw [e2 7 (by omega), zuN_nk (by omega)]; exact h6
  · rcases (show i = 0 ∨ i = 1 ∨ i = 2 by omega) with rfl | rfl | rfl
    · rw [e2 4 (by omega), zuN_nk (by omega)]; exact h7
    · rw [e2 4 (by omega), zuN_nk (by omega)]; exact h7
    · rw [e 4 e3.2.2, zuN_at]
/-- what a call that changes the state alone leaves alone in the class -/
def yFn (V V2 : Nat → Nat → Int32) : Prop := ∀ a, (a < 1 ∨ 6 < a) → a ≠ 19 → a ≠ 22 → a ≠ 23 → a ≠ 42 → a ≠ 43 → a ≠ 44 → V2 a = V a
theorem yFn_rfl (V : Nat → Nat → Int32) : yFn V V := fun _ _ _ _ _ _ _ _ => rfl
/-- what it leaves alone in the reference -/
def yFq (V V2 : Nat → Nat → Int32) : Prop := (∀ a, a ≠ 59 → (a < 63 ∨ 73 < a) → V2 a = V a) ∧ (∀ j, (j < 4 ∨ 4 < j ∧ j < 7 ∨ 7 < j ∧ j < 12 ∨ 36 < j) → V2 59 j = V 59 j)
theorem yFq_rfl (V : Nat → Nat → Int32) : yFq V V := ⟨fun _ _ _ => rfl, fun _ _ => rfl⟩
theorem zI_one {L : Nat} (h : L ≤ 24) : (Int32.ofInt 1 <<< (Int32.ofInt (L : Int) &&& 31)) - Int32.ofInt 1 = Int32.ofInt (((2 ^ L - 1 : Nat) : Nat) : Int) := by
  have := zB_shl 1 (show L < 32 by omega)
  rw [Nat.shiftLeft_eq, Nat.one_mul] at this
  have e : Int32.ofInt 1 <<< (Int32.ofInt (L : Int) &&& 31) = Int32.ofInt ((2 ^ L : Nat) : Int) := this
  rw [e, zI_sub]
  congr 1
  have := Nat.two_pow_pos L
  omega
abbrev yLayOk (row len st : Int) : Prop := (0 ≤ row ∧ row ≤ 3) ∧ (0 ≤ len ∧ len ≤ 24) ∧ (0 ≤ st ∧ st ≤ ((2 ^ len.toNat - 1 : Nat) : Int))
def yLayS (S : Nat → Nat → Nat) (row len st : Int) : Nat → Nat → Nat := if yLayOk row len st then zu (zu S 0 row.toNat len.toNat) 1 row.toNat st.toNat else S
def yLay (S : Nat → Nat → Nat) (row len st : Int) : Int := if yLayOk row len st then (zpc 24 (zgb (yLayS S row len st) row.toNat) : Int) else -2
theorem yLay_wf {S : Nat → Nat → Nat} (hW : zWf S) (row len st : Int) : zWf (yLayS S row len st) := by
  unfold yLayS
  split
  · rename_i c
    obtain ⟨c1, c2, c3⟩ := c
    obtain ⟨h0, h1, h2, h3, h4⟩ := hW
    refine ⟨?_, ?_, ?_, ?_, ?_⟩
    · intro i hi
      have e : zu (zu S 0 row.toNat len.toNat) 1 row.toNat st.toNat 0 i = if i = row.toNat then len.toNat else S 0 i := by
        rw [zu_ne (by omega), zu_at]
      have e1 : zu (zu S 0 row.toNat len.toNat) 1 row.toNat st.toNat 1 i = if i = row.toNat then st.toNat else S 1 i := by
        rw [zu_at, zu_ne (by omega)]
      rw [e, e1]
      have := Nat.two_pow_pos len.toNat
      split
      · constructor <;> omega
      · exact h0 i hi
    · intro i hi
      rw [zu_ne (by omega), zu_ne (by omega), zu_ne (by omega), zu_ne (by omega), zu_ne (by omega), zu_ne (by omega)]
      exact h1 i hi
    · rw [zu_ne (by omega), zu_ne (by omega)]; exact h2
    · rw [zu_ne (by omega), zu_ne (by omega)]; exact h3
    · rw [zu_ne (by omega), zu_ne (by omega)]; exact h4
  · exact hW
theorem s11 {x : zXs} {F : zF} (hF : zSh F) {d : Nat} {V : Nat → Nat → Int32} {T : Nat → Nat → Int64} {Q : Option Value → zG → Prop} {S : Nat → Nat → Nat} (hS : zCS 1 V S) (hW : zWf S) {row len st : Int} (h_row : -2147483648 ≤ row ∧ row ≤ 2147483647) (h_len : -2147483648 ≤ len ∧ len ≤ 2147483647) (h_st : -2147483648 ≤ st ∧ st ≤ 2147483647) (k : ∀ V2, zCS 1 V2 (yLayS S row len st) → yFn V V2 → Q (some (.int (Int32.ofInt (yLay S row len st)))) (V2, T)) : E x F (d + 2) 11 0 [some (.ref 0), some (.int (Int32.ofInt (row))), some (.int (Int32.ofInt (len))), some (.int (Int32.ofInt (st)))] [] (V, T) Q := by
  have hb : zSt 1 := Or.inl rfl
  have kb : ¬ yLayOk row len st → Q (some (.int (Int32.ofInt (-2)))) (V, T) := by
    intro c
    have k0 := k V (by unfold yLayS; rw [if_neg c]; exact hS) (yFn_rfl V)
    unfold yLay at k0
    rw [if_neg c] at k0
    exact k0
  repeat' (first
    | (intro c; (try simp (disch := omega) only [zI_lt, zI_le, zI_eq, zI_0, zI_add, zI_sub, zI_mul, zI_neg, Int.reduceNeg, Int.reduceAdd, Int.reduceSub, Int.reduceMul, Decidable.not_not, Int.not_lt, Int.not_le, not_true_eq_false, not_false_eq_true] at c); (try (exfalso; omega)))
    | simp only [zI_add, zI_sub, zI_mul, zI_neg]
    | apply s12 hF h_row
    | apply s7 hF h_len (by omega) (by omega)
    | apply b11_0 hF
    | apply b11_8 hF
    | apply b11_11 hF
    | apply b11_18 hF
    | apply b11_31 hF
    | apply b11_34 hF
    | apply b11_65 hF
    | exact kb (fun g => by have g1 := g.1; have g2 := g.2.1; have g3 := g.2.2; omega)
    | with_reducible assumption
    | exact zI_nat _
    | exact zNb1
    | exact zNb0
    | omega
    | with_reducible rfl
    | exact zI_nI (by omega))
  obtain ⟨r, rfl⟩ : ∃ r : Nat, row = r := ⟨row.toNat, by omega⟩
  obtain ⟨L, rfl⟩ : ∃ L : Nat, len = L := ⟨len.toNat, by omega⟩
  apply b11_21 hF
  rw [zI_one (by omega)]
  have hp : 2 ^ L ≤ 2 ^ 24 := Nat.pow_le_pow_right (by omega) (by omega)
  repeat' (first
    | (intro c; (try simp (disch := omega) only [zI_lt, zI_le, zI_eq, zI_0, zI_add, zI_sub, zI_mul, zI_neg, Int.reduceNeg, Int.reduceAdd, Int.reduceSub, Int.reduceMul, Decidable.not_not, Int.not_lt, Int.not_le, not_true_eq_false, not_false_eq_true] at c); (try (exfalso; omega)))
    | simp only [zI_add, zI_sub, zI_mul, zI_neg]
    | apply s7 hF h_st (by omega) (by omega)
    | apply b11_8 hF
    | apply b11_18 hF
    | apply b11_31 hF
    | apply b11_34 hF
    | apply b11_65 hF
    | exact kb (fun g => by have g1 := g.1; have g2 := g.2.1; have g3 := g.2.2; simp only [Int.toNat_natCast] at g3; omega)
    | with_reducible assumption
    | exact zI_nat _
    | exact zNb1
    | exact zNb0
    | omega
    | with_reducible rfl
    | exact zI_nI (by omega))
  obtain ⟨s, rfl⟩ : ∃ s : Nat, st = s := ⟨st.toNat, by omega⟩
  have c : yLayOk (r : Int) (L : Int) (s : Int) := ⟨by omega, by omega, by simp only [Int.toNat_natCast]; omega⟩
  have hw2 := yLay_wf hW (r : Int) (L : Int) (s : Int)
  unfold yLay at k
  rw [if_pos c] at k
  have e : yLayS S (r : Int) (L : Int) (s : Int) = zu (zu S 0 r L) 1 r s := by
    unfold yLayS
    rw [if_pos c]
    simp only [Int.toNat_natCast]
  rw [e] at k hw2
  apply b11_37 hF (i1 := r) (zI_nat r) (by omega) (i2 := r) (zI_nat r) (by omega)
  have hS2 : zCS 1 (zu (zu V 2 r (Int32.ofInt (L : Int))) 3 r (Int32.ofInt (s : Int))) (zu (zu S 0 r L) 1 r s) := zCS_zu (f := 1) (by omega) (zCS_zu (f := 0) (by omega) hS)
  apply s13 hF hb hS2 hw2 (by omega)
  apply b11_65 hF
  refine k _ hS2 ?_
  intro a h1 h2 h3 h4 h5 h6 h7
  rw [zu_ne (by omega), zu_ne (by omega)]
theorem s130 {x : zXs} {F : zF} (hF : zSh F) {d : Nat} {V : Nat → Nat → Int32} {T : Nat → Nat → Int64} {Q : Option Value → zG → Prop} {S : Nat → Nat → Nat} (hS : zMS V S) (hW : zWf S) {row len st : Int} (h_row : -2147483648 ≤ row ∧ row ≤ 2147483647) (h_len : -2147483648 ≤ len ∧ len ≤ 2147483647) (h_st : -2147483648 ≤ st ∧ st ≤ 2147483647) (k : ∀ V2, zMS V2 (yLayS S row len st) → yFq V V2 → Q (some (.int (Int32.ofInt (yLay S row len st)))) (V2, T)) : E x F (d + 2) 130 0 [some (.ref 59), some (.int (Int32.ofInt (row))), some (.int (Int32.ofInt (len))), some (.int (Int32.ofInt (st)))] [] (V, T) Q := by
  have kb : ¬ yLayOk row len st → Q (some (.int (Int32.ofInt (-2)))) (V, T) := by
    intro c
    have k0 := k V (by unfold yLayS; rw [if_neg c]; exact hS) (yFq_rfl V)
    unfold yLay at k0
    rw [if_neg c] at k0
    exact k0
  repeat' (first
    | (intro c; (try simp (disch := omega) only [zI_lt, zI_le, zI_eq, zI_0, zI_add, zI_sub, zI_mul, zI_neg, Int.reduceNeg, Int.reduceAdd, Int.reduceSub, Int.reduceMul, Decidable.not_not, Int.not_lt, Int.not_le, not_true_eq_false, not_false_eq_true] at c); (try (exfalso; omega)))
    | simp only [zI_add, zI_sub, zI_mul, zI_neg]
    | apply s131 hF h_row
    | apply s132v hF h_len (lo := 0) (hi := 24) (by omega) (by omega)
    | apply b130_0 hF
    | apply b130_4 hF
    | apply b130_7 hF
    | apply b130_16 hF
    | apply b130_31 hF
    | apply b130_34 hF
    | apply b130_56 hF
    | exact kb (fun g => by have g1 := g.1; have g2 := g.2.1; have g3 := g.2.2; omega)
    | with_reducible assumption
    | exact zI_nat _
    | exact zNb1
    | exact zNb0
    | omega
    | with_reducible rfl
    | exact zI_nI (by omega))
  obtain ⟨r, rfl⟩ : ∃ r : Nat, row = r := ⟨row.toNat, by omega⟩
  obtain ⟨L, rfl⟩ : ∃ L : Nat, len = L := ⟨len.toNat, by omega⟩
  have hp : 2 ^ L ≤ 2 ^ 24 := Nat.pow_le_pow_right (by omega) (by omega)
  apply b130_19 hF
  rw [zI_one (by omega), zJ_of (a := ((2 ^ L - 1 : Nat) : Int)) (by omega)]
  repeat' (first
    | (intro c; (try simp (disch := omega) only [zI_lt, zI_le, zI_eq, zI_0, zI_add, zI_sub, zI_mul, zI_neg, Int.reduceNeg, Int.reduceAdd, Int.reduceSub, Int.reduceMul, Decidable.not_not, Int.not_lt, Int.not_le, not_true_eq_false, not_false_eq_true] at c); (try (exfalso; omega)))
    | simp only [zI_add, zI_sub, zI_mul, zI_neg]
    | apply s132v hF h_st (lo := 0) (hi := ((2 ^ L - 1 : Nat) : Int)) (by omega) (by omega)
    | apply b130_4 hF
    | apply b130_16 hF
    | apply b130_31 hF
    | apply b130_34 hF
    | apply b130_56 hF
    | exact kb (fun g => by have g1 := g.1; have g2 := g.2.1; have g3 := g.2.2; simp only [Int.toNat_natCast] at g3; omega)
    | with_reducible assumption
    | exact zI_nat _
    | exact zNb1
    | exact zNb0
    | omega
    | with_reducible rfl
    | exact zI_nI (by omega))
  obtain ⟨s, rfl⟩ : ∃ s : Nat, st = s := ⟨st.toNat, by omega⟩
  have c : yLayOk (r : Int) (L : Int) (s : Int) := ⟨by omega, by omega, by simp only [Int.toNat_natCast]; omega⟩
  have hw2 := yLay_wf hW (r : Int) (L : Int) (s : Int)
  unfold yLay at k
  rw [if_pos c] at k
  have e : yLayS S (r : Int) (L : Int) (s : Int) = zu (zu S 0 r L) 1 r s := by
    unfold yLayS
    rw [if_pos c]
    simp only [Int.toNat_natCast]
  rw [e] at k hw2
  apply b130_37 hF (i1 := r) (zI_nat r) (by omega) (i2 := r) (zI_nat r) (by omega)
  have hS2 : zMS (zu (zu V 63 r (Int32.ofInt (s : Int))) 64 r (Int32.ofInt (L : Int))) (zu (zu S 0 r L) 1 r s) := by
    have e2 : zu (zu S 0 r L) 1 r s = zu (zu S 1 r s) 0 r L := by
      funext f i
      simp only [zu_if]
      split <;> split <;> first | rfl | (exfalso; omega)
    rw [e2]
    exact zMS_z0 (zMS_z1 hS)
  apply s133 hF (L := zu (zu S 0 r L) 1 r s 0 r) (B := zu (zu S 0 r L) 1 r s 1 r) (by omega) (hS2.1 r (by omega)) (hS2.2.1 r (by omega)) (hw2.1 r (by omega)).1 (hw2.1 r (by omega)).2
  apply b130_56 hF
  rw [Int.toNat_natCast] at k
  refine k _ hS2 ?_
  refine ⟨?_, ?_⟩
  · intro a h1 h2
    rw [zu_ne (by omega), zu_ne (by omega)]
  · intro j hj
    rw [zu_ne (by omega), zu_ne (by omega)]
