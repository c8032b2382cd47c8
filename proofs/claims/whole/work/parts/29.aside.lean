/-! The reference: laid aside, laid back -/
theorem s180l {x : zXs} {F : zF} (hF : zSh F) {d : Nat} {V : Nat → Nat → Int32} {T : Nat → Nat → Int64} {Q : Option Value → zG → Prop} (k : ∀ V', (∀ i, i < 5 → V' 73 i = V 63 i ∧ V' 73 (5 + i) = V 64 i ∧ V' 73 (10 + i) = V 66 (2 * i + 1)) → V' 73 15 = V 59 7 → (∀ a, a ≠ 73 → V' a = V a) → Q none (V', T)) : ∀ (m i : Nat) (V1 : Nat → Nat → Int32) (P : Int), P = i → i + m = 5 → (∀ j, j < i → V1 73 j = V 63 j ∧ V1 73 (5 + j) = V 64 j ∧ V1 73 (10 + j) = V 66 (2 * j + 1)) → (∀ a, a ≠ 73 → V1 a = V a) → E x F d 180 2 [some (.ref 59), some (.int (Int32.ofInt P))] [] (V1, T) Q := by
  intro m
  induction m with
  | zero =>
    intro i V1 P hP hi hj hf
    subst hP
    apply b180_2 hF
    · intro _
      apply b180_58 hF
      apply k
      · intro j hj5
        rw [zuN_nk (by omega), zuN_nk (by omega), zuN_nk (by omega)]
        exact hj j (by omega)
      · rw [zuN_at, hf 59 (by omega)]
      · intro a ha
        rw [zu_ne (by omega)]; exact hf a ha
    · intro c
      simp (disch := omega) only [zI_le] at c
      exfalso; omega
  | succ m ih =>
    intro i V1 P hP hi hj hf
    subst hP
    have e5 : Int32.ofInt 5 + Int32.ofInt (i : Int) = Int32.ofInt ((5 + i : Nat) : Int) := by
      rw [zI_add]; congr 1
    have e10 : Int32.ofInt 10 + Int32.ofInt (i : Int) = Int32.ofInt ((10 + i : Nat) : Int) := by
      rw [zI_add]; congr 1
    have e21 : Int32.ofInt 2 * Int32.ofInt (i : Int) + Int32.ofInt 1 = Int32.ofInt ((2 * i + 1 : Nat) : Int) := by
      rw [zI_mul, zI_add]; congr 1
    apply b180_2 hF
    · intro c
      simp (disch := omega) only [zI_le] at c
      exfalso; omega
    · intro _
      apply b180_7 hF (i1 := i) (zI_nat i) (by omega) (i2 := i) (zI_nat i) (by omega) (i3 := i) (zI_nat i) (by omega) (i4 := 5 + i) (e5.trans (zI_nat _)) (by omega) (i5 := 2 * i + 1) (e21.trans (zI_nat _)) (by omega) (i6 := 10 + i) (e10.trans (zI_nat _)) (by omega)
      simp (disch := omega) only [zu_ne]
      rw [zI_add]
      apply ih (i + 1) _ _ (by omega) (by omega)
      · intro j hj2
        by_cases hji : j = i
        · subst hji
          refine ⟨?_, ?_, ?_⟩
          · rw [zuN_nk (by omega), zuN_nk (by omega), zuN_at, hf 63 (by omega)]
          · rw [zuN_nk (by omega), zuN_at, hf 64 (by omega)]
          · rw [zuN_at, hf 66 (by omega)]
        · obtain ⟨a1, a2, a3⟩ := hj j (by omega)
          refine ⟨?_, ?_, ?_⟩
          · rw [zuN_nk (by omega), zuN_nk (by omega), zuN_nk (by omega)]; exact a1
          · rw [zuN_nk (by omega), zuN_nk (by omega), zuN_nk (by omega)]; exact a2
          · rw [zuN_nk (by omega), zuN_nk (by omega), zuN_nk (by omega)]; exact a3
      · intro a ha
        rw [zu_ne (by omega), zu_ne (by omega), zu_ne (by omega)]
        exact hf a ha
theorem s180 {x : zXs} {F : zF} (hF : zSh F) {d : Nat} {V : Nat → Nat → Int32} {T : Nat → Nat → Int64} {Q : Option Value → zG → Prop} (k : ∀ V', (∀ i, i < 5 → V' 73 i = V 63 i ∧ V' 73 (5 + i) = V 64 i ∧ V' 73 (10 + i) = V 66 (2 * i + 1)) → V' 73 15 = V 59 7 → (∀ a, a ≠ 73 → V' a = V a) → Q none (V', T)) {o1 : Option Value} : E x F d 180 0 [some (.ref 59), o1] [] (V, T) Q := by
  apply b180_0 hF
  exact s180l hF k 5 0 V 0 rfl rfl (fun j hj => absurd hj (Nat.not_lt_zero _)) (fun _ _ => rfl)
theorem s181l {x : zXs} {F : zF} (hF : zSh F) {d : Nat} {V : Nat → Nat → Int32} {T : Nat → Nat → Int64} {Q : Option Value → zG → Prop} (k : ∀ V', (∀ i, i < 5 → V' 63 i = V 73 i ∧ V' 64 i = V 73 (5 + i) ∧ V' 66 (2 * i + 1) = V 73 (10 + i) ∧ V' 66 (2 * i) = V 66 (2 * i)) → V' 59 7 = V 73 15 → (∀ j, j ≠ 7 → V' 59 j = V 59 j) → (∀ a, a ≠ 59 → a ≠ 63 → a ≠ 64 → a ≠ 66 → V' a = V a) → Q none (V', T)) : ∀ (m i : Nat) (V1 : Nat → Nat → Int32) (P : Int), P = i → i + m = 5 → (∀ j, j < i → V1 63 j = V 73 j ∧ V1 64 j = V 73 (5 + j) ∧ V1 66 (2 * j + 1) = V 73 (10 + j)) → (∀ j, V1 66 (2 * j) = V 66 (2 * j)) → (∀ a, a ≠ 63 → a ≠ 64 → a ≠ 66 → V1 a = V a) → E x F d 181 2 [some (.ref 59), some (.int (Int32.ofInt P))] [] (V1, T) Q := by
  intro m
  induction m with
  | zero =>
    intro i V1 P hP hi hj h2 hf
    subst hP
    apply b181_2 hF
    · intro _
      apply b181_58 hF
      apply k
      · intro j hj5
        rw [zu_ne (by omega), zu_ne (by omega), zu_ne (by omega)]
        obtain ⟨a1, a2, a3⟩ := hj j (by omega)
        exact ⟨a1, a2, a3, h2 j⟩
      · rw [zuN_at, hf 73 (by omega) (by omega) (by omega)]
      · intro j hj7
        rw [zuN_nk hj7, hf 59 (by omega) (by omega) (by omega)]
      · intro a a1 a2 a3 a4
        rw [zu_ne a1]; exact hf a a2 a3 a4
    · intro c
      simp (disch := omega) only [zI_le] at c
      exfalso; omega
  | succ m ih =>
    intro i V1 P hP hi hj h2 hf
    subst hP
    have e5 : Int32.ofInt 5 + Int32.ofInt (i : Int) = Int32.ofInt ((5 + i : Nat) : Int) := by
      rw [zI_add]; congr 1
    have e10 : Int32.ofInt 10 + Int32.ofInt (i : Int) = Int32.ofInt ((10 + i : Nat) : Int) := by
      rw [zI_add]; congr 1
    have e21 : Int32.ofInt 2 * Int32.ofInt (i : Int) + Int32.ofInt 1 = Int32.ofInt ((2 * i + 1 : Nat) : Int) := by
      rw [zI_mul, zI_add]; congr 1
    apply b181_2 hF
    · intro c
      simp (disch := omega) only [zI_le] at c
      exfalso; omega
    · intro _
      apply b181_7 hF (i1 := i) (zI_nat i) (by omega) (i2 := i) (zI_nat i) (by omega) (i3 := 5 + i) (e5.trans (zI_nat _)) (by omega) (i4 := i) (zI_nat i) (by omega) (i5 := 10 + i) (e10.trans (zI_nat _)) (by omega) (i6 := 2 * i + 1) (e21.trans (zI_nat _)) (by omega)
      simp (disch := omega) only [zu_ne]
      rw [zI_add, hf 73 (by omega) (by omega) (by omega)]
      apply ih (i + 1) _ _ (by omega) (by omega)
      · intro j hj2
        by_cases hji : j = i
        · subst hji
          refine ⟨?_, ?_, ?_⟩
          · simp (disch := omega) only [zu_ne]; rw [zuN_at]
          · simp (disch := omega) only [zu_ne]; rw [zuN_at]
          · rw [zuN_at]
        · obtain ⟨a1, a2, a3⟩ := hj j (by omega)
          refine ⟨?_, ?_, ?_⟩
          · simp (disch := omega) only [zu_ne]; rw [zuN_nk hji]; exact a1
          · simp (disch := omega) only [zu_ne]; rw [zuN_nk hji]; exact a2
          · rw [zuN_nk (by omega)]; simp (disch := omega) only [zu_ne]; exact a3
      · intro j
        rw [zuN_nk (by omega)]
        simp (disch := omega) only [zu_ne]
        exact h2 j
      · intro a a1 a2 a3
        simp (disch := omega) only [zu_ne]
        exact hf a a1 a2 a3
theorem s181 {x : zXs} {F : zF} (hF : zSh F) {d : Nat} {V : Nat → Nat → Int32} {T : Nat → Nat → Int64} {Q : Option Value → zG → Prop} (k : ∀ V', (∀ i, i < 5 → V' 63 i = V 73 i ∧ V' 64 i = V 73 (5 + i) ∧ V' 66 (2 * i + 1) = V 73 (10 + i) ∧ V' 66 (2 * i) = V 66 (2 * i)) → V' 59 7 = V 73 15 → (∀ j, j ≠ 7 → V' 59 j = V 59 j) → (∀ a, a ≠ 59 → a ≠ 63 → a ≠ 64 → a ≠ 66 → V' a = V a) → Q none (V', T)) {o1 : Option Value} : E x F d 181 0 [some (.ref 59), o1] [] (V, T) Q := by
  apply b181_0 hF
  exact s181l hF k 5 0 V 0 rfl rfl (fun j hj => absurd hj (Nat.not_lt_zero _)) (fun _ => rfl) (fun _ _ _ _ => rfl)
/-- laid back, the reference holds what it held -/
theorem zMS_back {V V1 V2 : Nat → Nat → Int32} {S S1 : Nat → Nat → Nat} (h : zMS V S) (h1 : zMS V1 S1) (hk : ∀ i, i < 5 → S1 2 i = S 2 i ∧ S1 3 i = S 3 i) (h5 : S1 5 0 = S 5 0 ∧ S1 5 2 = S 5 2) (ha : ∀ i, i < 5 → V1 73 i = V 63 i ∧ V1 73 (5 + i) = V 64 i ∧ V1 73 (10 + i) = V 66 (2 * i + 1)) (ha2 : V1 73 15 = V 59 7) (hb : ∀ i, i < 5 → V2 63 i = V1 73 i ∧ V2 64 i = V1 73 (5 + i) ∧ V2 66 (2 * i + 1) = V1 73 (10 + i) ∧ V2 66 (2 * i) = V1 66 (2 * i)) (hb2 : V2 59 7 = V1 73 15) (hb3 : ∀ j, j ≠ 7 → V2 59 j = V1 59 j) (hb4 : ∀ a, a ≠ 59 → a ≠ 63 → a ≠ 64 → a ≠ 66 → V2 a = V1 a) : zMS V2 S := by
  obtain ⟨g0, g1, g2, g3, g4, g5, g6, g7⟩ := h
  obtain ⟨f0, f1, f2, f3, f4, f5, f6, f7⟩ := h1
  refine ⟨?_, ?_, ?_, ?_, ?_, ?_, ?_, ?_⟩
  · intro i hi; rw [(hb i hi).2.1, (ha i hi).2.1]; exact g0 i hi
  · intro i hi; rw [(hb i hi).1, (ha i hi).1]; exact g1 i hi
  · intro i hi; rw [hb4 65 (by omega) (by omega) (by omega) (by omega), f2 i hi, (hk i hi).1]
  · intro i hi; rw [(hb i hi).2.2.2, f3 i hi, (hk i hi).2]
  · intro i hi; rw [(hb i hi).2.2.1, (ha i hi).2.2]; exact g4 i hi
  · rw [hb3 12 (by omega), f5, h5.1]
  · rw [hb2, ha2]; exact g6
  · rw [hb3 4 (by omega), f7, h5.2]
