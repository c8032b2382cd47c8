/-! film: both -/
theorem yFrom_rn {w : Nat → Nat → (Nat → Int32) → Int32} {S : Nat → Nat → Nat} {one B L : Nat} (h : S 3 one ≤ 9) (hB : B < 2 ^ L) : ∀ (m k : Nat) (p : yG), k + m = L → yOk L k p → yRs (ygb L B) k p → (yFrom w S one B k m p).2.1 = zrn (ygb L B) L := by
  intro m
  induction m with
  | zero =>
    intro k p hk hp hs
    have hkL : k = L := by omega
    subst hkL
    rw [yFrom]
    unfold yClose
    by_cases h0 : p.1 = 0
    · rw [if_pos h0]
      rcases hs with ⟨_, hs2, _⟩ | ⟨hs1, _⟩
      · exact hs2.symm
      · omega
    · rw [if_neg h0]
      rcases hs with ⟨hs1, _⟩ | ⟨_, _, hs3, _⟩
      · exact absurd hs1 h0
      · exact hs3.symm
  | succ m ih =>
    intro k p hk hp hs
    have hscan := yScan_ok (w := w) (B := B) h hp (by omega : k < L)
    have hgb := ygb_bit hB k
    rw [yFrom]
    apply ih (k + 1) _ (by omega) hscan
    cases hb : B.testBit k with
    | false =>
      have hg : (ygb L B).testBit k = true := by
        rw [hgb, hb]; simp; omega
      have hsc : yScan w S one B p k = (p.1 + 1, p.2) := by
        unfold yScan; rw [hb]; rfl
      rw [hsc]
      exact yRs_gap hs hg
    | true =>
      have hg : (ygb L B).testBit k = false := by
        rw [hgb, hb]; simp
      have hsc : yScan w S one B p k = yPut (yClose w S one p) := by
        unfold yScan; rw [if_pos hb]
      rw [hsc]
      exact yRs_stalk hs hg
theorem yGl_rn {w : Nat → Nat → (Nat → Int32) → Int32} {S : Nat → Nat → Nat} (hW : zWf S) {one r : Nat} (ho : one < 5) (hr : r < 4) : (yGl w S one (S 0 r) (S 1 r)).2.1 = zrn (zgb S r) 24 := by
  have h0 := hW.1 r hr
  have e := ygb_24 h0.1 h0.2
  have a := yFrom_rn (w := w) (S := S) (one := one) (hW.2.1 one ho).2.1 h0.2 (S 0 r) 0 (0, 0, S 4 one, S 0 r, 0, 0, 0, fun _ => 0) (Nat.zero_add _) ⟨by dsimp only; omega, (hW.2.1 one ho).2.2, h0.1, by dsimp only; omega, by dsimp only; omega⟩ (Or.inl ⟨rfl, rfl, fun h => absurd h (Nat.lt_irrefl _)⟩)
  exact a.trans e.1.symm
/-- what one takes of a run of a row -/
def yTn (w : Nat → Nat → (Nat → Int32) → Int32) (S : Nat → Nat → Nat) (one r j : Nat) : Int := (yGl w S one (S 0 r) (S 1 r)).2.2.2.2.2.2.2 j
theorem yTn_in {w : Nat → Nat → (Nat → Int32) → Int32} {S : Nat → Nat → Nat} (hW : zWf S) {one r : Nat} (ho : one < 5) (hr : r < 4) (j : Nat) : -9 ≤ yTn w S one r j ∧ yTn w S one r j ≤ 24 := (yGl_tot hW.2.1 ho (hW.1 r hr).1).2 j
theorem zrn_12 {g : Nat} (hg : g < 16777216) : ∀ k, 2 * zrn g k ≤ k + 1 ∧ (0 < k → g.testBit (k - 1) = false → 2 * zrn g k ≤ k) := by
  intro k
  induction k with
  | zero => exact ⟨by simp only [zrn]; omega, fun h => absurd h (Nat.lt_irrefl _)⟩
  | succ k ih =>
    cases hb : g.testBit k with
    | false =>
      rw [zrn_s0 hb]
      refine ⟨by omega, fun _ _ => by omega⟩
    | true =>
      by_cases h0 : 0 < k
      · cases hb1 : g.testBit (k - 1) with
        | true =>
          rw [zrn_s1 hb h0 hb1]
          refine ⟨by omega, fun _ h => ?_⟩
          rw [Nat.add_sub_cancel, hb] at h
          exact absurd h (by decide)
        | false =>
          rw [zrn_s2 hb (fun _ => hb1)]
          have := ih.2 h0 hb1
          refine ⟨by omega, fun _ h => ?_⟩
          rw [Nat.add_sub_cancel, hb] at h
          exact absurd h (by decide)
      · have hk : k = 0 := by omega
        subst hk
        rw [zrn_s2 hb (fun h => absurd h (Nat.lt_irrefl _))]
        have hz : zrn g 0 = 0 := rfl
        refine ⟨by omega, fun _ h => ?_⟩
        rw [Nat.add_sub_cancel, hb] at h
        exact absurd h (by decide)
theorem zrn_24 {S : Nat → Nat → Nat} (hW : zWf S) {r : Nat} (hr : r < 4) : zrn (zgb S r) 24 ≤ 12 := by
  have := (zrn_12 (zgb_lt hW hr) 24).1
  omega
theorem yNarr_0 {t : Int} (h : -128 ≤ t ∧ t ≤ 127) : yNarr 0 (Int32.ofInt t) = Int32.ofInt t := by
  unfold yNarr
  rw [if_pos rfl]
  apply Int32.toInt_inj.mp
  rw [Int8.toInt_toInt32, Int32.toInt_toInt8, zI_toInt (by omega) (by omega)]
  exact Int.bmod_eq_of_le (by omega) (by omega)
abbrev yFmOk (S : Nat → Nat → Nat) (s one row : Int) : Prop := (0 ≤ s ∧ s ≤ 3) ∧ (0 ≤ one ∧ one < S 5 0) ∧ (0 ≤ row ∧ row ≤ 3)
def yFilmH (w : Nat → Nat → (Nat → Int32) → Int32) (H : Nat → Int × Nat × (Nat → Int32)) (S : Nat → Nat → Nat) (s one row : Int) : Nat → Int × Nat × (Nat → Int32) := if yFmOk S s one row then (fun t => if t = s.toNat then (0, zrn (zgb S row.toNat) 24, fun j => Int32.ofInt (yTn w S one.toNat row.toNat j)) else H t) else H
def yFilm (S : Nat → Nat → Nat) (s one row : Int) : Int := if yFmOk S s one row then (zrn (zgb S row.toNat) 24 : Int) else -2
theorem yFilm_w {w : Nat → Nat → (Nat → Int32) → Int32} {H : Nat → Int × Nat × (Nat → Int32)} (h : zHw H) {S : Nat → Nat → Nat} (hW : zWf S) (s one row : Int) : zHw (yFilmH w H S s one row) := by
  unfold yFilmH
  split
  · rename_i c
    intro t ht
    dsimp only
    split
    · have := zrn_24 hW (r := row.toNat) (by have := c.2.2; omega)
      dsimp only; omega
    · exact h t ht
  · exact h
theorem s111l {x : zXs} {F : zF} (hF : zSh F) {d : Nat} {V : Nat → Nat → Int32} {T : Nat → Nat → Int64} {Q : Option Value → zG → Prop} {t N : Nat} (ht : t < 4) (hN : N ≤ 12) {g : Nat → Int} (hg : ∀ j, -9 ≤ g j ∧ g j ≤ 24) (h19 : V 19 2 = Int32.ofInt (N : Int)) (h42 : ∀ j, j < N → V 42 j = Int32.ofInt (g j)) (h1 : V (51 + 2 * t) 1 = Int32.ofInt 0) (h2 : V (51 + 2 * t) 2 = Int32.ofInt (N : Int)) {o1 o2 o3 : Option Value} (k : ∀ V2, (∀ j, j < N → V2 (51 + 2 * t + 1) j = Int32.ofInt (g j)) → (∀ a, a ≠ 51 + 2 * t + 1 → V2 a = V a) → Q (some (.int (Int32.ofInt (N : Int)))) (V2, T)) : ∀ (m i : Nat) (V1 : Nat → Nat → Int32) (P : Int), P = i → i + m = N → (∀ j, j < i → V1 (51 + 2 * t + 1) j = Int32.ofInt (g j)) → (∀ a, a ≠ 51 + 2 * t + 1 → V1 a = V a) → E x F (d + 2) 111 82 [some (.ref 0), o1, o2, o3, some (.ref (51 + 2 * t)), some (.int (Int32.ofInt (P)))] [] (V1, T) Q := by
  have hl := zSt4_k ht
  intro m
  induction m with
  | zero =>
    intro i V1 P hP hi hj hf
    subst hP
    have hiN : i = N := by omega
    subst hiN
    apply b111_82 hF
    · intro _
      apply b111_118 hF
      rw [hf 19 (by omega), h19]
      exact k V1 hj hf
    · rw [hf 19 (by omega), h19]
      intro c
      simp (disch := omega) only [zI_le] at c
      exfalso; omega
  | succ m ih =>
    intro i V1 P hP hi hj hf
    subst hP
    have hgi := hg i
    apply b111_82 hF
    · rw [hf 19 (by omega), h19]
      intro c
      simp (disch := omega) only [zI_le] at c
      exfalso; omega
    intro _
    apply b111_94 hF hl (i1 := i) (zI_nat i) (by omega)
    rw [hf 42 (by omega), h42 i (by omega)]
    refine s114 hF hl (so := 0) (sz := N) (by rw [hf (51 + 2 * t) (by omega)]; exact h1) (by omega) (by rw [hf (51 + 2 * t) (by omega)]; exact h2) (by omega) (i := (i : Int)) (by omega) ?_ ?_
    · intro c
      rw [yNarr_0 (by omega), Int.toNat_natCast]
      apply b111_111 hF
      rw [zI_add]
      apply ih (i + 1) _ _ (by omega) (by omega)
      · intro j hj2
        rw [zu_at]
        split
        · rename_i h; rw [h]
        · exact hj j (by omega)
      · intro a ha
        rw [zu_ne ha]; exact hf a ha
    · intro c
      exfalso; omega
theorem s111 {x : zXs} {F : zF} (hF : zSh F) {d : Nat} {V : Nat → Nat → Int32} {T : Nat → Nat → Int64} {Q : Option Value → zG → Prop} {S : Nat → Nat → Nat} (hS : zCS 1 V S) (hW : zWf S) {n : Nat} {w : Nat → Nat → (Nat → Int32) → Int32} (hR : zRu V n w) (hru : S 5 2 < n) {H : Nat → Int × Nat × (Nat → Int32)} (hH : zHc V H) {s one row : Int} (h_s : -2147483648 ≤ s ∧ s ≤ 2147483647) (h_one : -2147483648 ≤ one ∧ one ≤ 2147483647) (h_row : -2147483648 ≤ row ∧ row ≤ 2147483647) (k : ∀ V2, zHc V2 (yFilmH w H S s one row) → (∀ a, (a < 7 ∨ 12 < a ∧ a < 51 ∨ 58 < a) → a ≠ 19 → a ≠ 22 → a ≠ 23 → a ≠ 42 → V2 a = V a) → Q (some (.int (Int32.ofInt (yFilm S s one row)))) (V2, T)) {o4 o5 : Option Value} : E x F (d + 4) 111 0 [some (.ref 0), some (.int (Int32.ofInt (s))), some (.int (Int32.ofInt (one))), some (.int (Int32.ofInt (row))), o4, o5] [] (V, T) Q := by
  have hb : zSt 1 := Or.inl rfl
  have hb7 : zSt 7 := Or.inr (Or.inl rfl)
  have h5 := hW.2.2.1
  unfold yFilmH yFilm yFmOk at k
  have kb : ¬ ((0 ≤ s ∧ s ≤ 3) ∧ (0 ≤ one ∧ one < S 5 0) ∧ (0 ≤ row ∧ row ≤ 3)) → Q (some (.int (Int32.ofInt (-2)))) (V, T) := by
    intro c
    rw [if_neg c, if_neg c] at k
    exact k V hH (fun _ _ _ _ _ _ => rfl)
  repeat' (first
    | (intro c; (try simp (disch := omega) only [zI_lt, zI_le, zI_eq, zI_0, zI_add, zI_sub, zI_mul, zI_neg, Int.reduceNeg, Int.reduceAdd, Int.reduceSub, Int.reduceMul, Decidable.not_not, Int.not_lt, Int.not_le, not_true_eq_false, not_false_eq_true] at c); (try (exfalso; omega)))
    | simp only [zI_add, zI_sub, zI_mul, zI_neg]
    | apply s101 hF h_s
    | apply s19 hF hb hS hW h_one
    | apply s12 hF h_row
    | apply b111_0 hF
    | apply b111_5 hF
    | apply b111_8 hF
    | apply b111_16 hF
    | apply b111_19 hF
    | apply b111_27 hF
    | apply b111_30 hF
    | apply b111_44 hF
    | apply b111_57 hF
    | apply b111_79 hF
    | apply b111_82 hF
    | apply b111_94 hF
    | apply b111_111 hF
    | apply b111_118 hF
    | exact kb (by omega)
    | with_reducible assumption
    | exact zI_nat _
    | exact zNb1
    | exact zNb0
    | omega
    | with_reducible rfl
    | exact zI_nI (by omega))
  have c : (0 ≤ s ∧ s ≤ 3) ∧ (0 ≤ one ∧ one < S 5 0) ∧ (0 ≤ row ∧ row ≤ 3) := by omega
  rw [if_pos c, if_pos c] at k
  obtain ⟨t, rfl⟩ : ∃ t : Nat, s = t := ⟨s.toNat, by omega⟩
  obtain ⟨i, rfl⟩ : ∃ i : Nat, one = i := ⟨one.toNat, by omega⟩
  obtain ⟨r, rfl⟩ : ∃ r : Nat, row = r := ⟨row.toNat, by omega⟩
  simp only [Int.toNat_natCast] at k
  have hr : r < 4 := by omega
  have ho : i < 5 := by omega
  have ht : t < 4 := by omega
  have hN := zrn_24 hW hr
  have hrn := yGl_rn (w := w) hW ho hr
  have hl := zSt4_k ht
  apply b111_33 hF
  apply s83 hF hb7 hb (by omega) hS
  intro V1 hS1 f1
  apply b111_44 hF
  have hR1 : zRu V1 n w := zRu_fr hR (fun a ha => f1 a (by omega))
  apply s74 hF hb7 hS1 hW hR1 hru ho hr
  intro V2 _ h19 h42 f2
  rw [hrn] at h19 h42
  apply b111_57 hF (i1 := t) (zI_nat t) ht
  rw [h19]
  apply s112 hF hl (by omega)
  intro V3 g1 g2 _ f3
  apply b111_79 hF
  refine s111l hF ht hN (g := fun j => yTn w S i r j) (fun j => yTn_in hW ho hr j) (by rw [f3 19 (by omega) (by omega)]; exact h19) (fun j hj => by rw [f3 42 (by omega) (by omega)]; exact h42 j hj) g1 g2 ?_ _ 0 V3 0 rfl (Nat.zero_add _) (fun j hj => absurd hj (Nat.not_lt_zero _)) (fun _ _ => rfl)
  intro V4 hj f4
  apply k
  · intro q hq
    dsimp only
    by_cases hqt : q = t
    · subst hqt
      rw [if_pos rfl]
      dsimp only
      rw [f4 (51 + 2 * q) (by omega)]
      exact ⟨g1, g2, hj⟩
    · rw [if_neg hqt, f4 (51 + 2 * q) (by omega), f4 (51 + 2 * q + 1) (by omega), f3 (51 + 2 * q) (by omega) (by omega), f3 (51 + 2 * q + 1) (by omega) (by omega), f2 (51 + 2 * q) (by omega) (by omega) (by omega) (by omega) (by omega), f2 (51 + 2 * q + 1) (by omega) (by omega) (by omega) (by omega) (by omega), f1 (51 + 2 * q) (by omega), f1 (51 + 2 * q + 1) (by omega)]
      exact hH q hq
  · intro a a1 a2 a3 a4 a5
    rw [f4 a (by omega), f3 a (by omega) (by omega), f2 a (by omega) a2 a3 a4 a5, f1 a (by omega)]
theorem s198l {x : zXs} {F : zF} (hF : zSh F) {d : Nat} {V : Nat → Nat → Int32} {T : Nat → Nat → Int64} {Q : Option Value → zG → Prop} {t N : Nat} (ht : t < 4) (hN : N ≤ 12) {o2 o3 : Option Value} (k : ∀ V2, (∀ j, V2 80 j = if 40 * t ≤ j ∧ j < 40 * t + N then V 69 (j - 40 * t) else V 80 j) → (∀ a, a ≠ 80 → V2 a = V a) → Q (some (.int (Int32.ofInt (N : Int)))) (V2, T)) : ∀ (m i : Nat) (V1 : Nat → Nat → Int32) (P : Int), P = i → i + m = N → (∀ j, V1 80 j = if 40 * t ≤ j ∧ j < 40 * t + i then V 69 (j - 40 * t) else V 80 j) → (∀ a, a ≠ 80 → V1 a = V a) → E x F d 198 59 [some (.ref 59), some (.int (Int32.ofInt ((t:Int)))), o2, o3, some (.int (Int32.ofInt ((N:Int)))), some (.int (Int32.ofInt (P)))] [] (V1, T) Q := by
  intro m
  induction m with
  | zero =>
    intro i V1 P hP hi hj hf
    subst hP
    have hin : i = N := by omega
    subst hin
    apply b198_59 hF
    · intro _
      exact b198_91 hF (k V1 hj hf)
    · intro c
      simp (disch := omega) only [zI_le] at c
      exfalso; omega
  | succ m ih =>
    intro i V1 P hP hi hj hf
    subst hP
    apply b198_59 hF
    · intro c
      simp (disch := omega) only [zI_le] at c
      exfalso; omega
    · intro _
      apply b198_66 hF (i1 := i) (zI_nat i) (by omega) (i2 := 40 * t + i) (zI_40.trans (zI_nat _)) (by omega)
      rw [zI_add, hf 69 (by omega)]
      apply ih (i + 1) _ _ (by omega) (by omega)
      · intro j
        rw [zu_at, hj]
        split
        · rw [if_pos (by omega)]
          congr 1; omega
        · split
          · rw [if_pos (by omega)]
          · rw [if_neg (by omega)]
      · intro a ha
        rw [zu_ne ha]; exact hf a ha
/-- what film leaves alone in the reference -/
def yFr2 (V V2 : Nat → Nat → Int32) : Prop := (∀ a, a ≠ 59 → (a < 63 ∨ 73 < a ∧ a < 77 ∨ 80 < a) → V2 a = V a) ∧ (∀ j, (j < 7 ∨ 7 < j ∧ j < 13 ∨ 36 < j) → V2 59 j = V 59 j)
theorem s198 {x : zXs} {F : zF} (hF : zSh F) {d : Nat} {V : Nat → Nat → Int32} {T : Nat → Nat → Int64} {Q : Option Value → zG → Prop} {S : Nat → Nat → Nat} (hS : zMS V S) (hW : zWf S) {n : Nat} {w : Nat → Nat → (Nat → Int32) → Int32} (hR : zRd x F V n w) (hru : S 5 2 < n) {H : Nat → Int × Nat × (Nat → Int32)} (hw : zHw H) (hH : zHm V H) {s one row : Int} (h_s : -2147483648 ≤ s ∧ s ≤ 2147483647) (h_one : -2147483648 ≤ one ∧ one ≤ 2147483647) (h_row : -2147483648 ≤ row ∧ row ≤ 2147483647) (k : ∀ V2 T2, zMS V2 S → zHm V2 (yFilmH w H S s one row) → yFr2 V V2 → Q (some (.int (Int32.ofInt (yFilm S s one row)))) (V2, T2)) {o4 o5 : Option Value} : E x F (d + 54) 198 0 [some (.ref 59), some (.int (Int32.ofInt (s))), some (.int (Int32.ofInt (one))), some (.int (Int32.ofInt (row))), o4, o5] [] (V, T) Q := by
  have h5 := hW.2.2.1
  unfold yFilmH yFilm yFmOk at k
  have kb : ¬ ((0 ≤ s ∧ s ≤ 3) ∧ (0 ≤ one ∧ one < S 5 0) ∧ (0 ≤ row ∧ row ≤ 3)) → Q (some (.int (Int32.ofInt (-2)))) (V, T) := by
    intro c
    rw [if_neg c, if_neg c] at k
    exact k V T hS hH ⟨fun _ _ _ => rfl, fun _ _ => rfl⟩
  repeat' (first
    | (intro c; (try simp (disch := omega) only [zI_lt, zI_le, zI_eq, zI_0, zI_add, zI_sub, zI_mul, zI_neg, Int.reduceNeg, Int.reduceAdd, Int.reduceSub, Int.reduceMul, Decidable.not_not, Int.not_lt, Int.not_le, not_true_eq_false, not_false_eq_true] at c); (try (exfalso; omega)))
    | simp only [zI_add, zI_sub, zI_mul, zI_neg]
    | apply s194 hF h_s
    | apply s136 hF hS h5 h_one
    | apply s131 hF h_row
    | apply b198_0 hF
    | apply b198_4 hF
    | apply b198_7 hF
    | apply b198_12 hF
    | apply b198_15 hF
    | apply b198_19 hF
    | apply b198_22 hF
    | apply b198_30 hF
    | apply b198_40 hF
    | apply b198_45 hF
    | apply b198_51 hF
    | apply b198_56 hF
    | apply b198_59 hF
    | apply b198_66 hF
    | apply b198_91 hF
    | exact kb (by omega)
    | with_reducible assumption
    | exact zI_nat _
    | exact zNb1
    | exact zNb0
    | omega
    | with_reducible rfl
    | exact zI_nI (by omega))
  have c : (0 ≤ s ∧ s ≤ 3) ∧ (0 ≤ one ∧ one < S 5 0) ∧ (0 ≤ row ∧ row ≤ 3) := by omega
  rw [if_pos c, if_pos c] at k
  obtain ⟨t, rfl⟩ : ∃ t : Nat, s = t := ⟨s.toNat, by omega⟩
  obtain ⟨i, rfl⟩ : ∃ i : Nat, one = i := ⟨one.toNat, by omega⟩
  obtain ⟨r, rfl⟩ : ∃ r : Nat, row = r := ⟨row.toNat, by omega⟩
  simp only [Int.toNat_natCast] at k
  have hr : r < 4 := by omega
  have ho : i < 5 := by omega
  have ht : t < 4 := by omega
  have hN := zrn_24 hW hr
  have hrn := yGl_rn (w := w) hW ho hr
  apply b198_25 hF
  apply s158m hF hS hW hr
  intro V1 _ f1
  have hS1 := zMS_67 hS f1
  have hH1 : zHm V1 H := zHm_fr hH (fun a a1 a2 => f1 a (by omega) (by omega))
  generalize zrn (zgb S r) 24 = N at *
  apply b198_30 hF
  refine s199 hF hw hH1 (s := (t : Int)) (sort := 0) (n := (N : Int)) (by omega) (by omega) (by omega) ?_
  intro V2 hH2 f2
  have eH : ySheetH H (t : Int) 0 (N : Int) = fun q => if q = t then (0, N, fun _ => Int32.ofInt 0) else H q := by
    unfold ySheetH
    rw [if_pos (by omega)]
    simp only [Int.toNat_natCast]
    rfl
  rw [eH] at hH2
  have hS2 : zMS V2 S := zMS_fr hS1 (f2 64 (by omega)) (f2 63 (by omega)) (f2 66 (by omega)) (f2 65 (by omega)) (fun j _ => by rw [f2 59 (by omega)])
  apply b198_40 hF
  apply s180 hF
  intro V3 a1 a2 a3
  apply b198_45 hF
  have hS3 : zMS V3 S := zMS_fr hS2 (a3 64 (by omega)) (a3 63 (by omega)) (a3 66 (by omega)) (a3 65 (by omega)) (fun j _ => by rw [a3 59 (by omega)])
  have hR3 : zRd x F V3 n w := zRd_fr hR (by rw [a3 60 (by omega), f2 60 (by omega), f1 60 (by omega) (by omega)]) (by rw [a3 61 (by omega), f2 61 (by omega), f1 61 (by omega) (by omega)])
  apply s171 hF hR3 hS3 hW.2.1 hru ho (by omega) (hW.1 r hr).1 (hW.1 r hr).2
  intro V4 T4 hS4 _ h69 f4 f5
  rw [hrn] at h69
  apply b198_51 hF
  apply s181 hF
  intro V5 b1 b2 b3 b4
  apply b198_56 hF
  have e73 : V4 73 = V3 73 := f4 73 (by omega) (by omega) (by omega) (by omega) (by omega) (by omega) (by omega)
  have hS5 : zMS V5 S := by
    refine zMS_back hS2 hS4 (fun i _ => ⟨by rw [yGS_23.1], by rw [yGS_23.2]⟩) ⟨by rw [yGS_5], by rw [yGS_5]⟩ ?_ ?_ b1 b2 b3 b4
    · intro i hi
      rw [e73]
      exact a1 i hi
    · rw [e73]; exact a2
  have e5 : ∀ a, 73 < a → V5 a = V2 a := fun a ha => by rw [b4 a (by omega) (by omega) (by omega) (by omega), f4 a (by omega) (by omega) (by omega) (by omega) (by omega) (by omega) (by omega), a3 a (by omega)]
  refine s198l hF ht hN ?_ N 0 V5 0 rfl (Nat.zero_add _) (fun j => by rw [if_neg (by omega)]) (fun _ _ => rfl)
  intro V6 hj f6
  have e69 : ∀ j, j < N → V5 69 j = Int32.ofInt (yTn w S i r j) := by
    intro j hj
    rw [b4 69 (by omega) (by omega) (by omega) (by omega)]
    exact h69 j hj
  apply k V6 T4
  · exact zMS_fr hS5 (f6 64 (by omega)) (f6 63 (by omega)) (f6 66 (by omega)) (f6 65 (by omega)) (fun j _ => by rw [f6 59 (by omega)])
  · intro q hq
    have hq2 := hH2 q hq
    dsimp only at hq2 ⊢
    by_cases hqt : q = t
    · subst hqt
      rw [if_pos rfl] at hq2 ⊢
      unfold zHo at hq2 ⊢
      dsimp only at hq2 ⊢
      rw [f6 77 (by omega), f6 78 (by omega), f6 79 (by omega), e5 77 (by omega), e5 78 (by omega), e5 79 (by omega)]
      refine ⟨hq2.1, fun h => ⟨(hq2.2 h).1, (hq2.2 h).2.1, fun p hp => ?_⟩⟩
      rw [hj, if_pos (by omega), show 40 * q + p - 40 * q = p by omega]
      exact e69 p hp
    · rw [if_neg hqt] at hq2 ⊢
      unfold zHo at hq2 ⊢
      rw [f6 77 (by omega), f6 78 (by omega), f6 79 (by omega), e5 77 (by omega), e5 78 (by omega), e5 79 (by omega)]
      refine ⟨hq2.1, fun h => ⟨(hq2.2 h).1, (hq2.2 h).2.1, fun p hp => ?_⟩⟩
      have hp40 := (hw q hq).2
      rw [hj, if_neg (by omega), e5 80 (by omega)]
      exact (hq2.2 h).2.2 p hp
  · refine ⟨?_, ?_⟩
    · intro a h1 h2
      rw [f6 a (by omega), b4 a (by omega) (by omega) (by omega) (by omega), f4 a (by omega) (by omega) (by omega) (by omega) (by omega) (by omega) (by omega), a3 a (by omega), f2 a (by omega), f1 a (by omega) (by omega)]
    · intro j hj2
      rw [f6 59 (by omega), b3 j (by omega), f5 j (by omega), a3 59 (by omega), f2 59 (by omega), f1 59 (by omega) (by omega)]
