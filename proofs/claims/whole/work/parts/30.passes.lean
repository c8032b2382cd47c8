/-! The reference: a night passes -/
theorem zMS_np4 {V V' : Nat → Nat → Int32} {w : Nat → Nat → (Nat → Int32) → Int32} {S : Nat → Nat → Nat} {g r : Nat} (hk : 0 ≤ yKept w S g) (h : zMS V (yNp w S g r)) (h66 : ∀ j, V' 66 j = if j = 2 * g + 1 then Int32.ofInt (yKept w S g) else V 66 j) (hf : ∀ a, a = 59 ∨ a = 63 ∨ a = 64 ∨ a = 65 → V' a = V a) : zMS V' (yNp w S (g + 1) r) := by
  obtain ⟨g0, g1, g2, g3, g4, g5, g6, g7⟩ := h
  have e : ∀ f j, f ≠ 4 → yNp w S (g + 1) r f j = yNp w S g r f j := by
    intro f j hf
    unfold yNp
    rw [if_neg (by omega), if_neg (c := f = 4 ∧ j < g) (by omega)]
  refine ⟨?_, ?_, ?_, ?_, ?_, ?_, ?_, ?_⟩
  · intro i hi; rw [e _ _ (by omega), hf _ (by omega)]; exact g0 i hi
  · intro i hi; rw [e _ _ (by omega), hf _ (by omega)]; exact g1 i hi
  · intro i hi; rw [e _ _ (by omega), hf _ (by omega)]; exact g2 i hi
  · intro i hi; rw [e _ _ (by omega), h66, if_neg (by omega)]; exact g3 i hi
  · intro i hi
    rw [h66]
    by_cases hg : i = g
    · rw [if_pos (by omega)]
      unfold yNp
      rw [if_pos ⟨rfl, by omega⟩, hg, Int.toNat_of_nonneg hk]
    · rw [if_neg (by omega), g4 i hi]
      unfold yNp
      by_cases hl : i < g
      · rw [if_pos ⟨rfl, hl⟩, if_pos ⟨rfl, by omega⟩]
      · rw [if_neg (by omega), if_neg (c := 4 = 4 ∧ i < g + 1) (by omega)]
  · rw [e _ _ (by omega), hf _ (by omega)]; exact g5
  · rw [e _ _ (by omega), hf _ (by omega)]; exact g6
  · rw [e _ _ (by omega), hf _ (by omega)]; exact g7
theorem zMS_np0 {V V' : Nat → Nat → Int32} {w : Nat → Nat → (Nat → Int32) → Int32} {S : Nat → Nat → Nat} {g r : Nat} (h : zMS V (yNp w S g r)) (h64 : ∀ j, V' 64 j = if j = r then Int32.ofInt (if (S 0 r : Int) + ySh w S r < 24 then (S 0 r : Int) + ySh w S r else 24) else V 64 j) (hf : ∀ a, a = 59 ∨ a = 63 ∨ a = 66 ∨ a = 65 → V' a = V a) : zMS V' (yNp w S g (r + 1)) := by
  obtain ⟨g0, g1, g2, g3, g4, g5, g6, g7⟩ := h
  have hs := ySh_in w S r
  have e : ∀ f j, f ≠ 0 → yNp w S g (r + 1) f j = yNp w S g r f j := by
    intro f j hf
    unfold yNp
    rw [if_neg (c := f = 0 ∧ j < r + 1) (by omega), if_neg (c := f = 0 ∧ j < r) (by omega)]
  refine ⟨?_, ?_, ?_, ?_, ?_, ?_, ?_, ?_⟩
  · intro i hi
    rw [h64]
    by_cases hg : i = r
    · rw [if_pos hg]
      rw [yNp0, if_pos (show i < r + 1 by omega), hg, Int.toNat_of_nonneg (by split <;> omega)]
    · rw [if_neg hg, g0 i hi, yNp0, yNp0]
      by_cases hl : i < r
      · rw [if_pos hl, if_pos (show i < r + 1 by omega)]
      · rw [if_neg hl, if_neg (show ¬ i < r + 1 by omega)]
  · intro i hi; rw [e _ _ (by omega), hf _ (by omega)]; exact g1 i hi
  · intro i hi; rw [e _ _ (by omega), hf _ (by omega)]; exact g2 i hi
  · intro i hi; rw [e _ _ (by omega), hf _ (by omega)]; exact g3 i hi
  · intro i hi; rw [e _ _ (by omega), hf _ (by omega)]; exact g4 i hi
  · rw [e _ _ (by omega), hf _ (by omega)]; exact g5
  · rw [e _ _ (by omega), hf _ (by omega)]; exact g6
  · rw [e _ _ (by omega), hf _ (by omega)]; exact g7
theorem zMS_ni {V : Nat → Nat → Int32} {w : Nat → Nat → (Nat → Int32) → Int32} {S : Nat → Nat → Nat} (h : zMS V (yNp w S (S 5 0) 4)) : zMS (zu V 59 7 (Int32.ofInt ((S 5 1 : Int) + 1))) (yNi w S) := by
  obtain ⟨g0, g1, g2, g3, g4, g5, g6, g7⟩ := h
  unfold yNi
  refine ⟨?_, ?_, ?_, ?_, ?_, ?_, ?_, ?_⟩
  · rw [zu_ne (by omega), zu_ne (by omega)]; exact g0
  · rw [zu_ne (by omega), zu_ne (by omega)]; exact g1
  · rw [zu_ne (by omega), zu_ne (by omega)]; exact g2
  · rw [zu_ne (by omega), zu_ne (by omega)]; exact g3
  · rw [zu_ne (by omega), zu_ne (by omega)]; exact g4
  · rw [zu_at, zu_at, if_neg (by omega), if_neg (by omega)]; exact g5
  · rw [zuN_at, zuN_at]; rfl
  · rw [zu_at, zu_at, if_neg (by omega), if_neg (by omega)]; exact g7
/-- the fourth loop: the rows -/
theorem s176d {x : zXs} {F : zF} (hF : zSh F) {d : Nat} {V : Nat → Nat → Int32} {T : Nat → Nat → Int64} {Q : Option Value → zG → Prop} {w : Nat → Nat → (Nat → Int32) → Int32} {S : Nat → Nat → Nat} (hW : zWf S) : ∀ (m i : Nat) (V1 : Nat → Nat → Int32) (P : Int), P = i → i + m = 4 → zMS V1 (yNp w S (S 5 0) i) → (∀ j, j < 4 → V1 72 j = Int32.ofInt (ySh w S j)) → (∀ V2, zMS V2 (yNi w S) → (∀ a, a ≠ 59 → a ≠ 64 → V2 a = V1 a) → (∀ j, j ≠ 7 → V2 59 j = V1 59 j) → Q none (V2, T)) → E x F (d + 1) 176 85 [some (.ref 59), some (.int (Int32.ofInt P))] [] (V1, T) Q := by
  intro m
  induction m with
  | zero =>
    intro i V1 P hP hi hS h72 K
    subst hP
    have h4 : i = 4 := by omega
    subst h4
    apply b176_85 hF
    · intro _
      apply b176_121 hF
      have := hS.2.2.2.2.2.2.1
      rw [yNp5] at this
      rw [this, zI_add]
      exact K _ (zMS_ni hS) (fun a a1 _ => zu_ne a1) (fun j hj => zuN_nk hj)
    · intro c
      simp (disch := omega) only [zI_le] at c
      exfalso; omega
  | succ m ih =>
    intro i V1 P hP hi hS h72 K
    subst hP
    have hs := ySh_in w S i
    have hl := (hW.1 i (by omega)).1
    apply b176_85 hF
    · intro c
      simp (disch := omega) only [zI_le] at c
      exfalso; omega
    · intro _
      apply b176_90 hF (i1 := i) (zI_nat i) (by omega) (i2 := i) (zI_nat i) (by omega)
      have e0 : yNp w S (S 5 0) i 0 i = S 0 i := by rw [yNp0, if_neg (by omega)]
      rw [hS.1 i (by omega), e0, h72 i (by omega), zI_add]
      apply s157 hF (by omega) (by omega) (by omega)
      have ec : yCl ((S 0 i : Int) + ySh w S i) 0 24 = if (S 0 i : Int) + ySh w S i < 24 then (S 0 i : Int) + ySh w S i else 24 := by
        unfold yCl
        rw [if_neg (by omega)]
        split <;> split <;> omega
      rw [ec]
      apply b176_114 hF (zsh_at hF rfl) (by omega) (i1 := i) (zI_nat i) (by omega)
      rw [zI_add]
      apply ih (i + 1) _ _ (by omega) (by omega)
      · refine zMS_np0 hS ?_ ?_
        · intro j; rw [zu_at]
        · intro a ha; rw [zu_ne (by omega)]
      · intro j hj
        rw [zu_ne (by omega)]; exact h72 j hj
      · intro V2 h1 h2 h3
        apply K V2 h1
        · intro a a1 a2
          rw [h2 a a1 a2, zu_ne a2]
        · intro j hj
          rw [h3 j hj, zu_ne (by omega)]
/-- the third loop: the aprons -/
theorem s176c {x : zXs} {F : zF} (hF : zSh F) {d : Nat} {V : Nat → Nat → Int32} {T : Nat → Nat → Int64} {Q : Option Value → zG → Prop} {w : Nat → Nat → (Nat → Int32) → Int32} {S : Nat → Nat → Nat} (hW : zWf S) : ∀ (m i : Nat) (V1 : Nat → Nat → Int32) (P : Int), P = i → i + m = S 5 0 → zMS V1 (yNp w S i 0) → (∀ j, j < S 5 0 → V1 71 j = Int32.ofInt (yKept w S j)) → (∀ j, j < 4 → V1 72 j = Int32.ofInt (ySh w S j)) → (∀ V2, zMS V2 (yNi w S) → (∀ a, a ≠ 59 → a ≠ 64 → a ≠ 66 → V2 a = V1 a) → (∀ j, j ≠ 7 → V2 59 j = V1 59 j) → Q none (V2, T)) → E x F (d + 1) 176 53 [some (.ref 59), some (.int (Int32.ofInt P))] [] (V1, T) Q := by
  have h5 := hW.2.2.1
  intro m
  induction m with
  | zero =>
    intro i V1 P hP hi hS h71 h72 K
    subst hP
    have h4 : i = S 5 0 := by omega
    subst h4
    have hcr := hS.2.2.2.2.2.1
    rw [yNp5] at hcr
    apply b176_53 hF
    · intro _
      apply b176_83 hF
      exact s176d hF (V := V) hW 4 0 V1 0 rfl rfl hS h72 (fun V2 h1 h2 h3 => K V2 h1 (fun a a1 a2 _ => h2 a a1 a2) h3)
    · rw [hcr]
      intro c
      simp (disch := omega) only [zI_le] at c
      exfalso; omega
  | succ m ih =>
    intro i V1 P hP hi hS h71 h72 K
    subst hP
    have hcr := hS.2.2.2.2.2.1
    rw [yNp5] at hcr
    have e21 : Int32.ofInt 2 * Int32.ofInt (i : Int) + Int32.ofInt 1 = Int32.ofInt ((2 * i + 1 : Nat) : Int) := by
      rw [zI_mul, zI_add]; congr 1
    apply b176_53 hF
    · rw [hcr]
      intro c
      simp (disch := omega) only [zI_le] at c
      exfalso; omega
    · intro _
      apply b176_61 hF (i1 := i) (zI_nat i) (by omega) (i2 := 2 * i + 1) (e21.trans (zI_nat _)) (by omega)
      rw [h71 i (by omega), zI_add]
      apply ih (i + 1) _ _ (by omega) (by omega)
      · refine zMS_np4 (yKept_in hW.2.1 w (by omega)).1 hS ?_ ?_
        · intro j; rw [zu_at]
        · intro a ha; rw [zu_ne (by omega)]
      · intro j hj
        rw [zu_ne (by omega)]; exact h71 j hj
      · intro j hj
        rw [zu_ne (by omega)]; exact h72 j hj
      · intro V2 h1 h2 h3
        apply K V2 h1
        · intro a a1 a2 a3
          rw [h2 a a1 a2 a3, zu_ne a3]
        · intro j hj
          rw [h3 j hj, zu_ne (by omega)]
/-- the second loop: what is shaken -/
theorem s176b {x : zXs} {F : zF} (hF : zSh F) {d : Nat} {V : Nat → Nat → Int32} {T : Nat → Nat → Int64} {Q : Option Value → zG → Prop} {n : Nat} {w : Nat → Nat → (Nat → Int32) → Int32} (hR : zRd x F V n w) {S : Nat → Nat → Nat} (hW : zWf S) (hru : S 5 2 < n) : ∀ (m i : Nat) (V1 : Nat → Nat → Int32) (T1 : Nat → Nat → Int64) (P : Int), P = i → i + m = 4 → zMS V1 S → (∀ j, j < S 5 0 → V1 71 j = Int32.ofInt (yKept w S j)) → (∀ j, j < i → V1 72 j = Int32.ofInt (ySh w S j)) → (∀ a, a ≠ 59 → a ≠ 71 → a ≠ 72 → V1 a = V a) → (∀ j, (j < 13 ∨ 27 < j) → V1 59 j = V 59 j) → (∀ V2 T2, zMS V2 (yNi w S) → (∀ a, a ≠ 59 → a ≠ 64 → a ≠ 66 → a ≠ 71 → a ≠ 72 → V2 a = V a) → (∀ j, (j < 7 ∨ 7 < j ∧ j < 13 ∨ 27 < j) → V2 59 j = V 59 j) → Q none (V2, T2)) → E x F (d + 53) 176 29 [some (.ref 59), some (.int (Int32.ofInt P))] [] (V1, T1) Q := by
  intro m
  induction m with
  | zero =>
    intro i V1 T1 P hP hi hS h71 h72 hf hf2 K
    subst hP
    have h4 : i = 4 := by omega
    subst h4
    apply b176_29 hF
    · intro _
      apply b176_51 hF
      refine s176c hF (V := V) hW (S 5 0) 0 V1 0 rfl (Nat.zero_add _) (by rw [yNp_z]; exact hS) h71 h72 ?_
      intro V2 h1 h2 h3
      apply K V2 T1 h1
      · intro a a1 a2 a3 a4 a5
        rw [h2 a a1 a2 a3]; exact hf a a1 a4 a5
      · intro j hj
        rw [h3 j (by omega)]; exact hf2 j (by omega)
    · intro c
      simp (disch := omega) only [zI_le] at c
      exfalso; omega
  | succ m ih =>
    intro i V1 T1 P hP hi hS h71 h72 hf hf2 K
    subst hP
    apply b176_29 hF
    · intro c
      simp (disch := omega) only [zI_le] at c
      exfalso; omega
    · intro _
      apply b176_34 hF
      have hR1 : zRd x F V1 n w := zRd_fr hR (hf 60 (by omega) (by omega) (by omega)) (hf 61 (by omega) (by omega) (by omega))
      apply s161 hF hR1 hS hru (by omega) (hW.1 i (by omega)).1 (hW.1 i (by omega)).2
      intro V2 T2 hg1 hg2
      apply b176_44 hF (zsh_at hF rfl) (by omega) (i1 := i) (zI_nat i) (by omega)
      rw [zI_add]
      apply ih (i + 1) _ _ _ (by omega) (by omega)
      · refine zMS_fr hS ?_ ?_ ?_ ?_ ?_
        · rw [zu_ne (by omega)]; exact hg1 64 (by omega)
        · rw [zu_ne (by omega)]; exact hg1 63 (by omega)
        · rw [zu_ne (by omega)]; exact hg1 66 (by omega)
        · rw [zu_ne (by omega)]; exact hg1 65 (by omega)
        · intro j hj
          rw [zu_ne (by omega)]; exact hg2 j (by omega)
      · intro j hj
        rw [zu_ne (by omega), hg1 71 (by omega)]; exact h71 j hj
      · intro j hj
        rw [zu_at]
        by_cases hji : j = i
        · rw [if_pos hji, hji]
        · rw [if_neg hji, hg1 72 (by omega)]; exact h72 j (by omega)
      · intro a a1 a2 a3
        rw [zu_ne a3, hg1 a a1]; exact hf a a1 a2 a3
      · intro j hj
        rw [zu_ne (by omega), hg2 j hj]; exact hf2 j hj
      · exact K
/-- the first loop: what each keeps -/
theorem s176a {x : zXs} {F : zF} (hF : zSh F) {d : Nat} {V : Nat → Nat → Int32} {T : Nat → Nat → Int64} {Q : Option Value → zG → Prop} {n : Nat} {w : Nat → Nat → (Nat → Int32) → Int32} (hR : zRd x F V n w) {S : Nat → Nat → Nat} (hW : zWf S) (hru : S 5 2 < n) : ∀ (m i : Nat) (V1 : Nat → Nat → Int32) (T1 : Nat → Nat → Int64) (P : Int), P = i → i + m = S 5 0 → zMS V1 S → (∀ j, j < i → V1 71 j = Int32.ofInt (yKept w S j)) → (∀ a, a ≠ 59 → a ≠ 71 → a ≠ 72 → V1 a = V a) → (∀ j, (j < 13 ∨ 27 < j) → V1 59 j = V 59 j) → (∀ V2 T2, zMS V2 (yNi w S) → (∀ a, a ≠ 59 → a ≠ 64 → a ≠ 66 → a ≠ 71 → a ≠ 72 → V2 a = V a) → (∀ j, (j < 7 ∨ 7 < j ∧ j < 13 ∨ 27 < j) → V2 59 j = V 59 j) → Q none (V2, T2)) → E x F (d + 53) 176 2 [some (.ref 59), some (.int (Int32.ofInt P))] [] (V1, T1) Q := by
  have h5 := hW.2.2.1
  intro m
  induction m with
  | zero =>
    intro i V1 T1 P hP hi hS h71 hf hf2 K
    subst hP
    have h4 : i = S 5 0 := by omega
    subst h4
    have hcr := hS.2.2.2.2.2.1
    apply b176_2 hF
    · intro _
      apply b176_27 hF
      exact s176b hF (T := T) hR hW hru 4 0 V1 T1 0 rfl rfl hS h71 (fun j hj => absurd hj (Nat.not_lt_zero _)) hf hf2 K
    · rw [hcr]
      intro c
      simp (disch := omega) only [zI_le] at c
      exfalso; omega
  | succ m ih =>
    intro i V1 T1 P hP hi hS h71 hf hf2 K
    subst hP
    have hcr := hS.2.2.2.2.2.1
    apply b176_2 hF
    · rw [hcr]
      intro c
      simp (disch := omega) only [zI_le] at c
      exfalso; omega
    · intro _
      apply b176_10 hF
      have hR1 : zRd x F V1 n w := zRd_fr hR (hf 60 (by omega) (by omega) (by omega)) (hf 61 (by omega) (by omega) (by omega))
      apply s139 hF hR1 hS hW.2.1 hru (by omega)
      intro V2 T2 hg1 hg2
      apply b176_20 hF (zsh_at hF rfl) (by omega) (i1 := i) (zI_nat i) (by omega)
      rw [zI_add]
      apply ih (i + 1) _ _ _ (by omega) (by omega)
      · refine zMS_fr hS ?_ ?_ ?_ ?_ ?_
        · rw [zu_ne (by omega)]; exact hg1 64 (by omega)
        · rw [zu_ne (by omega)]; exact hg1 63 (by omega)
        · rw [zu_ne (by omega)]; exact hg1 66 (by omega)
        · rw [zu_ne (by omega)]; exact hg1 65 (by omega)
        · intro j hj
          rw [zu_ne (by omega)]; exact hg2 j (by omega)
      · intro j hj
        rw [zu_at]
        by_cases hji : j = i
        · rw [if_pos hji, hji]
        · rw [if_neg hji, hg1 71 (by omega)]; exact h71 j (by omega)
      · intro a a1 a2 a3
        rw [zu_ne a2, hg1 a a1]; exact hf a a1 a2 a3
      · intro j hj
        rw [zu_ne (by omega), hg2 j hj]; exact hf2 j hj
      · exact K
theorem s176 {x : zXs} {F : zF} (hF : zSh F) {d : Nat} {V : Nat → Nat → Int32} {T : Nat → Nat → Int64} {Q : Option Value → zG → Prop} {n : Nat} {w : Nat → Nat → (Nat → Int32) → Int32} (hR : zRd x F V n w) {S : Nat → Nat → Nat} (hS : zMS V S) (hW : zWf S) (hru : S 5 2 < n) (k : ∀ V2 T2, zMS V2 (yNi w S) → (∀ a, a ≠ 59 → a ≠ 64 → a ≠ 66 → a ≠ 71 → a ≠ 72 → V2 a = V a) → (∀ j, (j < 7 ∨ 7 < j ∧ j < 13 ∨ 27 < j) → V2 59 j = V 59 j) → Q none (V2, T2)) {o1 : Option Value} : E x F (d + 53) 176 0 [some (.ref 59), o1] [] (V, T) Q := by
  apply b176_0 hF
  exact s176a hF (T := T) hR hW hru (S 5 0) 0 V T 0 rfl (Nat.zero_add _) hS (fun j hj => absurd hj (Nat.not_lt_zero _)) (fun _ _ _ _ => rfl) (fun _ _ => rfl) k
