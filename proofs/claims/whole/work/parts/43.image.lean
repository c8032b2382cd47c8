/-! image, back: both -/
theorem s119 {x : zXs} {F : zF} (hF : zSh F) {d : Nat} {V : Nat → Nat → Int32} {T : Nat → Nat → Int64} {Q : Option Value → zG → Prop} {S : Nat → Nat → Nat} (hS : zCS 1 V S) (hW : zWf S) (k : ∀ V2, zCS 13 V2 S → V2 0 8 = Int32.ofInt 1 → (∀ a, a ≠ 0 → (a < 13 ∨ 18 < a) → V2 a = V a) → Q (some (.int (Int32.ofInt (S 5 0 : Int)))) (V2, T)) : E x F (d + 1) 119 0 [some (.ref 0)] [] (V, T) Q := by
  apply b119_0 hF
  apply s83 hF (a := 13) (b := 1) (Or.inr (Or.inr rfl)) (Or.inl rfl) (by omega) hS
  intro V1 h1 f1
  apply b119_11 hF
  rw [zu_ne (by omega), f1 1 (by omega), hS.2.2.2.2.2.1]
  apply k
  · exact zCS_fr h1 (fun a _ _ => zu_ne (by omega))
  · rw [zuN_at]
  · intro a h1 h2
    rw [zu_ne h1, f1 a (by omega)]
theorem s120 {x : zXs} {F : zF} (hF : zSh F) {d : Nat} {V : Nat → Nat → Int32} {T : Nat → Nat → Int64} {Q : Option Value → zG → Prop} {I : Nat → Nat → Nat} (hS : zCS 13 V I) (kb : V 0 8 = 0 → Q (some (.int (Int32.ofInt (-3)))) (V, T)) (k : ¬ V 0 8 = 0 → ∀ V2, zCS 1 V2 I → (∀ a, (a < 1 ∨ 6 < a) → V2 a = V a) → Q (some (.int (Int32.ofInt (I 5 0 : Int)))) (V2, T)) : E x F (d + 1) 120 0 [some (.ref 0)] [] (V, T) Q := by
  apply b120_0 hF
  · intro c
    apply b120_10 hF
    apply s83 hF (a := 1) (b := 13) (Or.inl rfl) (Or.inr (Or.inr rfl)) (by omega) hS
    intro V1 h1 f1
    apply b120_21 hF
    rw [h1.2.2.2.2.2.1]
    exact k c V1 h1 (fun a ha => f1 a (by omega))
  · intro c
    exact b120_7 hF (kb (Decidable.not_not.mp c))
/-- what the reference's image keeps -/
def zKp (V : Nat → Nat → Int32) (I : Nat → Nat → Nat) : Prop := (∀ i, i < 4 → V 74 i = Int32.ofInt (I 1 i : Int) ∧ V 75 i = Int32.ofInt (I 0 i : Int)) ∧ (∀ i, i < 5 → V 76 (2 * i) = Int32.ofInt (I 3 i : Int) ∧ V 76 (2 * i + 1) = Int32.ofInt (I 4 i : Int)) ∧ V 59 40 = Int32.ofInt (I 5 0 : Int) ∧ V 59 41 = Int32.ofInt (I 5 1 : Int) ∧ V 59 42 = Int32.ofInt (I 5 2 : Int)
theorem s203a {x : zXs} {F : zF} (hF : zSh F) {d : Nat} {V : Nat → Nat → Int32} {T : Nat → Nat → Int64} {Q : Option Value → zG → Prop} : ∀ (m i : Nat) (V1 : Nat → Nat → Int32) (P : Int), P = i → i + m = 4 → (∀ j, j < i → V1 74 j = V 63 j ∧ V1 75 j = V 64 j) → (∀ a, a ≠ 74 → a ≠ 75 → V1 a = V a) → (∀ V2, (∀ j, j < 4 → V2 74 j = V 63 j ∧ V2 75 j = V 64 j) → (∀ a, a ≠ 74 → a ≠ 75 → V2 a = V a) → E x F d 203 39 [some (.ref 59), some (.int (Int32.ofInt (0)))] [] (V2, T) Q) → E x F d 203 2 [some (.ref 59), some (.int (Int32.ofInt (P)))] [] (V1, T) Q := by
  intro m
  induction m with
  | zero =>
    intro i V1 P hP hi hj hf K
    subst hP
    have hi4 : i = 4 := by omega
    subst hi4
    apply b203_2 hF
    · intro _
      exact b203_37 hF (K V1 hj hf)
    · intro c
      simp (disch := omega) only [zI_le] at c
      exfalso; omega
  | succ m ih =>
    intro i V1 P hP hi hj hf K
    subst hP
    apply b203_2 hF
    · intro c
      simp (disch := omega) only [zI_le] at c
      exfalso; omega
    · intro _
      apply b203_7 hF (i1 := i) (zI_nat i) (by omega) (i2 := i) (zI_nat i) (by omega) (i3 := i) (zI_nat i) (by omega) (i4 := i) (zI_nat i) (by omega)
      rw [zI_add, zu_ne (by omega), hf 63 (by omega) (by omega), hf 64 (by omega) (by omega)]
      refine ih (i + 1) _ _ (by omega) (by omega) ?_ ?_ K
      · intro j hj2
        rw [zu_ne (by omega), zu_at, zu_at, zu_ne (by omega)]
        by_cases h : j = i
        · subst h
          rw [if_pos rfl, if_pos rfl]
          exact ⟨rfl, rfl⟩
        · rw [if_neg h, if_neg h]
          exact hj j (by omega)
      · intro a a1 a2
        rw [zu_ne a2, zu_ne a1]
        exact hf a a1 a2
theorem s203b {x : zXs} {F : zF} (hF : zSh F) {d : Nat} {V : Nat → Nat → Int32} {T : Nat → Nat → Int64} {Q : Option Value → zG → Prop} : ∀ (m i : Nat) (V1 : Nat → Nat → Int32) (P : Int), P = i → i + m = 10 → (∀ j, j < i → V1 76 j = V 66 j) → (∀ a, a ≠ 76 → V1 a = V a) → (∀ V2, (∀ j, j < 10 → V2 76 j = V 66 j) → (∀ a, a ≠ 76 → V2 a = V a) → ∀ o : Option Value, E x F d 203 63 [some (.ref 59), o] [] (V2, T) Q) → E x F d 203 39 [some (.ref 59), some (.int (Int32.ofInt (P)))] [] (V1, T) Q := by
  intro m
  induction m with
  | zero =>
    intro i V1 P hP hi hj hf K
    subst hP
    have hi4 : i = 10 := by omega
    subst hi4
    apply b203_39 hF
    · intro _
      exact K V1 hj hf _
    · intro c
      simp (disch := omega) only [zI_le] at c
      exfalso; omega
  | succ m ih =>
    intro i V1 P hP hi hj hf K
    subst hP
    apply b203_39 hF
    · intro c
      simp (disch := omega) only [zI_le] at c
      exfalso; omega
    · intro _
      apply b203_45 hF (i1 := i) (zI_nat i) (by omega) (i2 := i) (zI_nat i) (by omega)
      rw [zI_add, hf 66 (by omega)]
      refine ih (i + 1) _ _ (by omega) (by omega) ?_ ?_ K
      · intro j hj2
        rw [zu_at]
        by_cases h : j = i
        · subst h
          rw [if_pos rfl]
        · rw [if_neg h]
          exact hj j (by omega)
      · intro a a1
        rw [zu_ne a1]
        exact hf a a1
theorem s203 {x : zXs} {F : zF} (hF : zSh F) {d : Nat} {V : Nat → Nat → Int32} {T : Nat → Nat → Int64} {Q : Option Value → zG → Prop} {S : Nat → Nat → Nat} (hS : zMS V S) (hW : zWf S) (k : ∀ V2, zKp V2 S → (∀ a, a ≠ 59 → a ≠ 74 → a ≠ 75 → a ≠ 76 → V2 a = V a) → (∀ j, (j < 40 ∨ 42 < j) → V2 59 j = V 59 j) → Q (some (.int (Int32.ofInt (S 5 0 : Int)))) (V2, T)) {o1 : Option Value} : E x F d 203 0 [some (.ref 59), o1] [] (V, T) Q := by
  obtain ⟨h0, h1, h2, h3, h4, h5, h6, h7⟩ := hS
  apply b203_0 hF
  refine s203a hF (V := V) 4 0 V 0 rfl rfl (fun j hj => absurd hj (Nat.not_lt_zero _)) (fun _ _ _ => rfl) ?_
  intro V1 a1 a2
  refine s203b hF (V := V1) 10 0 V1 0 rfl rfl (fun j hj => absurd hj (Nat.not_lt_zero _)) (fun _ _ => rfl) ?_
  intro V2 c1 c2 o
  have e : ∀ j, V2 59 j = V 59 j := fun j => by rw [c2 59 (by omega), a2 59 (by omega) (by omega)]
  have e66 : ∀ j, V1 66 j = V 66 j := fun j => by rw [a2 66 (by omega) (by omega)]
  apply b203_63 hF
  rw [zuN_nk (by omega), zuN_nk (by omega), zuN_nk (by omega), e, h5]
  simp (disch := omega) only [zuN_nk]
  rw [e 7, e 4, h6, h7]
  apply k
  · refine ⟨?_, ?_, ?_, ?_, ?_⟩
    · intro i hi
      rw [zu_ne (by omega), zu_ne (by omega), zu_ne (by omega), zu_ne (by omega), zu_ne (by omega), zu_ne (by omega), c2 74 (by omega), c2 75 (by omega), (a1 i hi).1, (a1 i hi).2]
      exact ⟨h1 i (by omega), h0 i (by omega)⟩
    · intro i hi
      rw [zu_ne (by omega), zu_ne (by omega), zu_ne (by omega), c1 _ (by omega), c1 _ (by omega), e66, e66]
      exact ⟨h3 i hi, h4 i hi⟩
    · rw [zuN_nk (by omega), zuN_nk (by omega), zuN_at]
    · rw [zuN_nk (by omega), zuN_at]
    · rw [zuN_at]
  · intro a b1 b2 b3 b4
    rw [zu_ne b1, zu_ne b1, zu_ne b1, c2 a b4, a2 a b2 b3]
  · intro j hj
    rw [zuN_nk (by omega), zuN_nk (by omega), zuN_nk (by omega), e]
theorem s204a {x : zXs} {F : zF} (hF : zSh F) {d : Nat} {V : Nat → Nat → Int32} {T : Nat → Nat → Int64} {Q : Option Value → zG → Prop} : ∀ (m i : Nat) (V1 : Nat → Nat → Int32) (P : Int), P = i → i + m = 4 → (∀ j, V1 63 j = if j < i then V 74 j else V 63 j) → (∀ j, V1 64 j = if j < i then V 75 j else V 64 j) → (∀ a, a ≠ 63 → a ≠ 64 → V1 a = V a) → (∀ V2, (∀ j, V2 63 j = if j < 4 then V 74 j else V 63 j) → (∀ j, V2 64 j = if j < 4 then V 75 j else V 64 j) → (∀ a, a ≠ 63 → a ≠ 64 → V2 a = V a) → E x F d 204 50 [some (.ref 59), some (.int (Int32.ofInt (0)))] [] (V2, T) Q) → E x F d 204 13 [some (.ref 59), some (.int (Int32.ofInt (P)))] [] (V1, T) Q := by
  intro m
  induction m with
  | zero =>
    intro i V1 P hP hi h3 h4 hf K
    subst hP
    have hi4 : i = 4 := by omega
    subst hi4
    apply b204_13 hF
    · intro _
      exact b204_48 hF (K V1 h3 h4 hf)
    · intro c
      simp (disch := omega) only [zI_le] at c
      exfalso; omega
  | succ m ih =>
    intro i V1 P hP hi h3 h4 hf K
    subst hP
    apply b204_13 hF
    · intro c
      simp (disch := omega) only [zI_le] at c
      exfalso; omega
    · intro _
      apply b204_18 hF (i1 := i) (zI_nat i) (by omega) (i2 := i) (zI_nat i) (by omega) (i3 := i) (zI_nat i) (by omega) (i4 := i) (zI_nat i) (by omega)
      rw [zI_add, zu_ne (by omega), hf 74 (by omega) (by omega), hf 75 (by omega) (by omega)]
      refine ih (i + 1) _ _ (by omega) (by omega) ?_ ?_ ?_ K
      · intro j
        rw [zu_ne (by omega), zu_at, h3]
        by_cases h : j = i
        · subst h
          rw [if_pos rfl, if_pos (by omega)]
        · rw [if_neg h]
          split <;> split <;> first | rfl | (exfalso; omega)
      · intro j
        rw [zu_at, zu_ne (by omega), h4]
        by_cases h : j = i
        · subst h
          rw [if_pos rfl, if_pos (by omega)]
        · rw [if_neg h]
          split <;> split <;> first | rfl | (exfalso; omega)
      · intro a a1 a2
        rw [zu_ne a2, zu_ne a1]
        exact hf a a1 a2
theorem s204b {x : zXs} {F : zF} (hF : zSh F) {d : Nat} {V : Nat → Nat → Int32} {T : Nat → Nat → Int64} {Q : Option Value → zG → Prop} : ∀ (m i : Nat) (V1 : Nat → Nat → Int32) (P : Int), P = i → i + m = 10 → (∀ j, j < i → V1 66 j = V 76 j) → (∀ a, a ≠ 66 → V1 a = V a) → (∀ V2, (∀ j, j < 10 → V2 66 j = V 76 j) → (∀ a, a ≠ 66 → V2 a = V a) → ∀ o : Option Value, E x F d 204 74 [some (.ref 59), o] [] (V2, T) Q) → E x F d 204 50 [some (.ref 59), some (.int (Int32.ofInt (P)))] [] (V1, T) Q := by
  intro m
  induction m with
  | zero =>
    intro i V1 P hP hi hj hf K
    subst hP
    have hi4 : i = 10 := by omega
    subst hi4
    apply b204_50 hF
    · intro _
      exact K V1 hj hf _
    · intro c
      simp (disch := omega) only [zI_le] at c
      exfalso; omega
  | succ m ih =>
    intro i V1 P hP hi hj hf K
    subst hP
    apply b204_50 hF
    · intro c
      simp (disch := omega) only [zI_le] at c
      exfalso; omega
    · intro _
      apply b204_56 hF (i1 := i) (zI_nat i) (by omega) (i2 := i) (zI_nat i) (by omega)
      rw [zI_add, hf 76 (by omega)]
      refine ih (i + 1) _ _ (by omega) (by omega) ?_ ?_ K
      · intro j hj2
        rw [zu_at]
        by_cases h : j = i
        · subst h
          rw [if_pos rfl]
        · rw [if_neg h]
          exact hj j (by omega)
      · intro a a1
        rw [zu_ne a1]
        exact hf a a1
/-- the reference's state once laid back: no kinds are kept -/
def yBk (S I : Nat → Nat → Nat) : Nat → Nat → Nat := fun f i => if f = 2 then S 2 i else if f < 2 ∧ i = 4 then S f i else I f i
theorem yBk_01 {S I : Nat → Nat → Nat} {f i : Nat} (hf : f < 2) (hi : i < 5) : yBk S I f i = if i < 4 then I f i else S f i := by
  unfold yBk
  rw [if_neg (by omega)]
  split <;> split <;> first | rfl | (exfalso; omega)
theorem s204 {x : zXs} {F : zF} (hF : zSh F) {d : Nat} {V : Nat → Nat → Int32} {T : Nat → Nat → Int64} {Q : Option Value → zG → Prop} {S I : Nat → Nat → Nat} (hS : zMS V S) (kb : V 59 40 = Int32.ofInt (-1) → Q (some (.int (Int32.ofInt (-3)))) (V, T)) (k : ¬ V 59 40 = Int32.ofInt (-1) → zKp V I → ∀ V2, zMS V2 (yBk S I) → yFq V V2 → Q (some (.int (Int32.ofInt (I 5 0 : Int)))) (V2, T)) (hI : ¬ V 59 40 = Int32.ofInt (-1) → zKp V I) {o1 : Option Value} : E x F d 204 0 [some (.ref 59), o1] [] (V, T) Q := by
  apply b204_0 hF
  rotate_left
  · intro c
    exact b204_8 hF (kb (Decidable.not_not.mp c))
  intro c
  have hK := hI c
  obtain ⟨h0, h1, h2, h3, h4, h5, h6, h7⟩ := hS
  have K := k c hK
  obtain ⟨g1, g2, g3, g4, g5⟩ := hK
  apply b204_11 hF
  refine s204a hF (V := V) 4 0 V 0 rfl rfl (fun j => by rw [if_neg (by omega)]) (fun j => by rw [if_neg (by omega)]) (fun _ _ _ => rfl) ?_
  intro V1 a1 a2 a3
  refine s204b hF (V := V1) 10 0 V1 0 rfl rfl (fun j hj => absurd hj (Nat.not_lt_zero _)) (fun _ _ => rfl) ?_
  intro V2 c1 c2 o
  have e : ∀ j, V2 59 j = V 59 j := fun j => by rw [c2 59 (by omega), a3 59 (by omega) (by omega)]
  have e76 : ∀ j, V1 76 j = V 76 j := fun j => by rw [a3 76 (by omega) (by omega)]
  apply b204_74 hF
  rw [zuN_nk (by omega), zuN_nk (by omega), zuN_at]
  simp (disch := omega) only [zuN_nk]
  rw [e 40, e 41, e 42, g3, g4, g5]
  apply K
  · refine ⟨?_, ?_, ?_, ?_, ?_, ?_, ?_, ?_⟩
    · intro i hi
      rw [zu_ne (by omega), zu_ne (by omega), zu_ne (by omega), c2 64 (by omega), a2, yBk_01 (by omega) hi]
      split
      · exact (g1 i (by omega)).2
      · exact h0 i hi
    · intro i hi
      rw [zu_ne (by omega), zu_ne (by omega), zu_ne (by omega), c2 63 (by omega), a1, yBk_01 (by omega) hi]
      split
      · exact (g1 i (by omega)).1
      · exact h1 i hi
    · intro i hi
      rw [zu_ne (by omega), zu_ne (by omega), zu_ne (by omega), c2 65 (by omega), a3 65 (by omega) (by omega)]
      exact h2 i hi
    · intro i hi
      rw [zu_ne (by omega), zu_ne (by omega), zu_ne (by omega), c1 _ (by omega), e76]
      exact (g2 i hi).1
    · intro i hi
      rw [zu_ne (by omega), zu_ne (by omega), zu_ne (by omega), c1 _ (by omega), e76]
      exact (g2 i hi).2
    · rw [zuN_nk (by omega), zuN_nk (by omega), zuN_at]; rfl
    · rw [zuN_nk (by omega), zuN_at]; rfl
    · rw [zuN_at]; rfl
  · refine ⟨?_, ?_⟩
    · intro a b1 b2
      rw [zu_ne b1, zu_ne b1, zu_ne b1, c2 a (by omega), a3 a (by omega) (by omega)]
    · intro j hj
      rw [zuN_nk (by omega), zuN_nk (by omega), zuN_nk (by omega), e]
