/-! copy, gleaners: both -/
abbrev yCpOk (H : Nat → Int × Nat × (Nat → Int32)) (s i o j n : Int) : Prop := 0 ≤ n ∧ 0 ≤ i ∧ i + n ≤ (H s.toNat).2.1 ∧ 0 ≤ j ∧ j + n ≤ (H o.toNat).2.1
def yCopy (H : Nat → Int × Nat × (Nat → Int32)) (s i o j n : Int) : Int := if (0 ≤ s ∧ s ≤ 3) ∧ (0 ≤ o ∧ o ≤ 3) then (if (H s.toNat).1 = -1 ∨ (H o.toNat).1 = -1 then -11 else if (H s.toNat).1 = (H o.toNat).1 then (if yCpOk H s i o j n then n else -12) else -13) else -2
def yCopyH (H : Nat → Int × Nat × (Nat → Int32)) (s i o j n : Int) : Nat → Int × Nat × (Nat → Int32) := if ((0 ≤ s ∧ s ≤ 3) ∧ (0 ≤ o ∧ o ≤ 3)) ∧ ¬ ((H s.toNat).1 = -1 ∨ (H o.toNat).1 = -1) ∧ (H s.toNat).1 = (H o.toNat).1 ∧ yCpOk H s i o j n then (fun t => if t = o.toNat then ((H t).1, (H t).2.1, fun q => if j.toNat ≤ q ∧ q < j.toNat + n.toNat then (H s.toNat).2.2 (i.toNat + (q - j.toNat)) else (H t).2.2 q) else H t) else H
theorem yCopy_w {H : Nat → Int × Nat × (Nat → Int32)} (h : zHw H) (s i o j n : Int) : zHw (yCopyH H s i o j n) := by
  unfold yCopyH
  split
  · intro t ht
    dsimp only
    split
    · exact h t ht
    · exact h t ht
  · exact h
theorem zcpy_b {V : Nat → Nat → Int32} {a b sp dp n q : Nat} : zcpy V a b sp dp n b q = if dp ≤ q ∧ q < dp + n then V a (sp + (q - dp)) else V b q := by
  unfold zcpy zur; rw [if_pos rfl]; rfl
theorem s124 {x : zXs} {F : zF} (hF : zSh F) {d : Nat} {V : Nat → Nat → Int32} {T : Nat → Nat → Int64} {Q : Option Value → zG → Prop} {H : Nat → Int × Nat × (Nat → Int32)} (hw : zHw H) (hH : zHc V H) {s i o j n : Int} (h_s : -2147483648 ≤ s ∧ s ≤ 2147483647) (h_i : -2147483648 ≤ i ∧ i ≤ 2147483647) (h_o : -2147483648 ≤ o ∧ o ≤ 2147483647) (h_j : -2147483648 ≤ j ∧ j ≤ 2147483647) (h_n : -2147483648 ≤ n ∧ n ≤ 2147483647) (k : ∀ V2, zHc V2 (yCopyH H s i o j n) → (∀ a, (a < 51 ∨ 58 < a) → V2 a = V a) → Q (some (.int (Int32.ofInt (yCopy H s i o j n)))) (V2, T)) {o6 o7 : Option Value} : E x F (d + 2) 124 0 [some (.ref 0), some (.int (Int32.ofInt (s))), some (.int (Int32.ofInt (i))), some (.int (Int32.ofInt (o))), some (.int (Int32.ofInt (j))), some (.int (Int32.ofInt (n))), o6, o7] [] (V, T) Q := by
  unfold yCopyH yCopy yCpOk at k
  repeat' (first
    | (intro c; (try simp (disch := omega) only [zI_lt, zI_le, zI_eq, zI_0, zI_add, zI_sub, zI_mul, zI_neg, Int.reduceNeg, Int.reduceAdd, Int.reduceSub, Int.reduceMul, Decidable.not_not, Int.not_lt, Int.not_le, not_true_eq_false, not_false_eq_true] at c); (try (exfalso; omega)))
    | simp only [zI_add, zI_sub, zI_mul, zI_neg]
    | apply s101 hF h_s
    | apply s101 hF h_o
    | apply b124_0 hF
    | apply b124_5 hF
    | apply b124_8 hF
    | apply b124_13 hF
    | apply b124_40 hF
    | apply b124_43 hF
    | apply b124_48 hF
    | apply b124_51 hF
    | apply b124_54 hF
    | apply b124_67 hF
    | apply b124_70 hF
    | apply b124_78 hF
    | apply b124_81 hF
    | apply b124_90 hF
    | apply b124_93 hF
    | apply b124_96 hF
    | with_reducible assumption
    | exact zI_nat _
    | exact zNb1
    | exact zNb0
    | omega
    | with_reducible rfl
    | exact zI_nI (by omega))
  rotate_left
  · rw [if_neg (by omega), if_neg (by omega)] at k
    exact b124_16 hF (k V hH (fun _ _ => rfl))
  · rw [if_neg (by omega), if_neg (by omega)] at k
    exact b124_16 hF (k V hH (fun _ _ => rfl))
  have c0 : (0 ≤ s ∧ s ≤ 3) ∧ (0 ≤ o ∧ o ≤ 3) := by omega
  obtain ⟨t, rfl⟩ : ∃ t : Nat, s = t := ⟨s.toNat, by omega⟩
  obtain ⟨u, rfl⟩ : ∃ u : Nat, o = u := ⟨o.toNat, by omega⟩
  simp only [Int.toNat_natCast] at k
  have ht : t < 4 := by omega
  have hu : u < 4 := by omega
  have hl := zSt4_k ht
  have hl2 := zSt4_k hu
  obtain ⟨w1, w2⟩ := hw t ht
  obtain ⟨g1, g2, g3⟩ := hH t ht
  obtain ⟨x1, x2⟩ := hw u hu
  obtain ⟨f1, f2, f3⟩ := hH u hu
  apply b124_19 hF (i1 := t) (zI_nat t) ht (i2 := u) (zI_nat u) hu
  refine s102 hF hl w1 g1 ?_ ?_
  · intro c1
    rw [if_neg (fun g => g.2.1 (Or.inl c1)), if_pos c0, if_pos (Or.inl c1)] at k
    apply b124_40 hF
    · intro _; exact b124_51 hF (k V hH (fun _ _ => rfl))
    · intro c; exact absurd (by decide) c
  intro c1
  apply b124_40 hF
  · intro c; exact absurd rfl c
  intro _
  apply b124_43 hF hl2
  refine s102 hF hl2 x1 f1 ?_ ?_
  · intro c2
    rw [if_neg (fun g => g.2.1 (Or.inr c2)), if_pos c0, if_pos (Or.inr c2)] at k
    apply b124_48 hF
    · intro c; exact absurd c (by decide)
    · intro _; exact b124_51 hF (k V hH (fun _ _ => rfl))
  intro c2
  have c3 : ¬ ((H t).1 = -1 ∨ (H u).1 = -1) := fun g => g.elim c1 c2
  apply b124_48 hF
  rotate_left
  · intro c; exact absurd rfl c
  intro _
  apply b124_54 hF hl hl2
  rotate_left
  · rw [g1, f1]
    intro c
    simp (disch := omega) only [zI_eq] at c
    rw [if_neg (fun g => c g.2.2.1), if_pos c0, if_neg c3, if_neg c] at k
    exact b124_67 hF (k V hH (fun _ _ => rfl))
  rw [g1, f1]
  intro c4
  simp (disch := omega) only [zI_eq] at c4
  have kb : ¬ (0 ≤ n ∧ 0 ≤ i ∧ i + n ≤ (H t).2.1 ∧ 0 ≤ j ∧ j + n ≤ (H u).2.1) → Q (some (.int (Int32.ofInt (-12)))) (V, T) := by
    intro c
    rw [if_neg (fun g => c g.2.2.2), if_pos c0, if_neg c3, if_pos c4, if_neg c] at k
    exact k V hH (fun _ _ => rfl)
  apply b124_70 hF hl
  refine s115 hF hl g2 w2 h_i h_n ?_ ?_
  rotate_left
  · intro c
    apply b124_78 hF
    · intro _; exact b124_93 hF (kb (by omega))
    · intro c; exact absurd rfl c
  intro c5
  apply b124_78 hF
  · intro c; exact absurd c (by decide)
  intro _
  apply b124_81 hF hl2
  refine s115 hF hl2 f2 x2 h_j h_n ?_ ?_
  rotate_left
  · intro c
    apply b124_90 hF
    · intro c; exact absurd rfl c
    · intro _; exact b124_93 hF (kb (by omega))
  intro c6
  apply b124_90 hF
  rotate_left
  · intro c; exact absurd (by decide) c
  intro _
  have c7 : 0 ≤ n ∧ 0 ≤ i ∧ i + n ≤ (H t).2.1 ∧ 0 ≤ j ∧ j + n ≤ (H u).2.1 := by omega
  rw [if_pos ⟨c0, c3, c4, c7⟩, if_pos c0, if_neg c3, if_pos c4, if_pos c7] at k
  obtain ⟨a, rfl⟩ : ∃ a : Nat, i = a := ⟨i.toNat, by omega⟩
  obtain ⟨b, rfl⟩ : ∃ b : Nat, j = b := ⟨j.toNat, by omega⟩
  obtain ⟨N, rfl⟩ : ∃ N : Nat, n = N := ⟨n.toNat, by omega⟩
  simp only [Int.toNat_natCast] at k
  apply b124_96 hF hl hl2 (i1 := a) (zI_nat a) (i2 := b) (zI_nat b) (i3 := N) (zI_nat N) (by omega) (by omega)
  apply k
  · intro q hq
    dsimp only
    by_cases hqu : q = u
    · subst hqu
      rw [if_pos rfl]
      dsimp only
      rw [zcpy_ne (by omega)]
      refine ⟨f1, f2, fun p hp => ?_⟩
      rw [zcpy_b]
      by_cases hp2 : b ≤ p ∧ p < b + N
      · rw [if_pos hp2, if_pos hp2]
        exact g3 _ (by omega)
      · rw [if_neg hp2, if_neg hp2]
        exact f3 p hp
    · rw [if_neg hqu, zcpy_ne (by omega), zcpy_ne (by omega)]
      exact hH q hq
  · intro z hz
    rw [zcpy_ne (by omega)]
theorem s207l {x : zXs} {F : zF} (hF : zSh F) {d : Nat} {V : Nat → Nat → Int32} {T : Nat → Nat → Int64} {Q : Option Value → zG → Prop} {s i o j n : Nat} {U : Int} (hs : s < 4) (ho : o < 4) (h1 : i + n ≤ 40) (h2 : j + n ≤ 40) (hU : (U = 0 ∧ ¬ (s = o ∧ i < j)) ∨ (U = 1 ∧ s = o ∧ i < j)) (k : ∀ V2, (∀ p, V2 80 p = if 40 * o + j ≤ p ∧ p < 40 * o + j + n then V 80 (40 * s + i + (p - (40 * o + j))) else V 80 p) → (∀ a, a ≠ 80 → V2 a = V a) → Q (some (.int (Int32.ofInt (n : Int)))) (V2, T)) : ∀ (m q lo hi : Nat) (V1 : Nat → Nat → Int32) (P : Int), P = q → q + m = n → ((U = 0 ∧ lo = 0 ∧ hi = q) ∨ (U = 1 ∧ lo = m ∧ hi = n)) → (∀ p, V1 80 p = if 40 * o + j + lo ≤ p ∧ p < 40 * o + j + hi then V 80 (40 * s + i + (p - (40 * o + j))) else V 80 p) → (∀ a, a ≠ 80 → V1 a = V a) → ∀ o8 : Option Value, E x F d 207 121 [some (.ref 59), some (.int (Int32.ofInt ((s:Int)))), some (.int (Int32.ofInt ((i:Int)))), some (.int (Int32.ofInt ((o:Int)))), some (.int (Int32.ofInt ((j:Int)))), some (.int (Int32.ofInt ((n:Int)))), some (.int (Int32.ofInt (U))), some (.int (Int32.ofInt (P))), o8] [] (V1, T) Q := by
  intro m
  induction m with
  | zero =>
    intro q lo hi V1 P hP hq hlh hV hf o8
    subst hP
    have hqn : q = n := by omega
    subst hqn
    have hlo : lo = 0 ∧ hi = q := by omega
    obtain ⟨rfl, rfl⟩ := hlo
    apply b207_121 hF
    · intro _
      exact b207_182 hF (k V1 hV hf)
    · intro c
      simp (disch := omega) only [zI_le] at c
      exfalso; omega
  | succ m ih =>
    intro q lo hi V1 P hP hq hlh hV hf o8
    subst hP
    have step : ∀ r : Nat, (U = 0 ∧ r = q) ∨ (U = 1 ∧ r = m) → E x F d 207 145 [some (.ref 59), some (.int (Int32.ofInt ((s:Int)))), some (.int (Int32.ofInt ((i:Int)))), some (.int (Int32.ofInt ((o:Int)))), some (.int (Int32.ofInt ((j:Int)))), some (.int (Int32.ofInt ((n:Int)))), some (.int (Int32.ofInt (U))), some (.int (Int32.ofInt ((q:Int)))), o8] [.int (Int32.ofInt ((r:Int)))] (V1, T) Q := by
      intro r hr
      have e1 : Int32.ofInt 40 * Int32.ofInt (s : Int) + Int32.ofInt (i : Int) + Int32.ofInt (r : Int) = Int32.ofInt ((40 * s + i + r : Nat) : Int) := by
        rw [zI_40, zI_add]; congr 1
      have e2 : Int32.ofInt 40 * Int32.ofInt (o : Int) + Int32.ofInt (j : Int) + Int32.ofInt (r : Int) = Int32.ofInt ((40 * o + j + r : Nat) : Int) := by
        rw [zI_40, zI_add]; congr 1
      apply b207_145 hF (i1 := 40 * s + i + r) (e1.trans (zI_nat _)) (by omega) (i2 := 40 * o + j + r) (e2.trans (zI_nat _)) (by omega)
      rw [zI_add]
      apply ih (q + 1) (if U = 0 then 0 else m) (if U = 0 then q + 1 else n) _ _ (by omega) (by omega) (by split <;> omega)
      · intro p
        rw [zu_at, hV p, hV (40 * s + i + r)]
        have hx : ¬ (40 * o + j + lo ≤ 40 * s + i + r ∧ 40 * s + i + r < 40 * o + j + hi) := by omega
        rw [if_neg hx]
        by_cases hp : p = 40 * o + j + r
        · subst hp
          rw [if_pos rfl, if_pos (by split <;> omega)]
          congr 1
          omega
        · rw [if_neg hp]
          by_cases hc : 40 * o + j + lo ≤ p ∧ p < 40 * o + j + hi
          · rw [if_pos hc, if_pos (by split <;> omega)]
          · rw [if_neg hc, if_neg (by split <;> omega)]
      · intro a ha
        rw [zu_ne ha]; exact hf a ha
    apply b207_121 hF
    · intro c
      simp (disch := omega) only [zI_le] at c
      exfalso; omega
    · intro _
      apply b207_128 hF
      · intro c
        simp (disch := omega) only [zI_eq, zI_0] at c
        apply b207_143 hF
        exact step q (by omega)
      · intro c
        simp (disch := omega) only [zI_eq, zI_0] at c
        apply b207_133 hF
        rw [zI_sub, zI_sub, show (n : Int) - 1 - (q : Int) = (m : Int) by omega]
        exact step m (by omega)
theorem s207 {x : zXs} {F : zF} (hF : zSh F) {d : Nat} {V : Nat → Nat → Int32} {T : Nat → Nat → Int64} {Q : Option Value → zG → Prop} {H : Nat → Int × Nat × (Nat → Int32)} (hw : zHw H) (hH : zHm V H) {s i o j n : Int} (h_s : -2147483648 ≤ s ∧ s ≤ 2147483647) (h_i : -2147483648 ≤ i ∧ i ≤ 2147483647) (h_o : -2147483648 ≤ o ∧ o ≤ 2147483647) (h_j : -2147483648 ≤ j ∧ j ≤ 2147483647) (h_n : -2147483648 ≤ n ∧ n ≤ 2147483647) (k : ∀ V2, zHm V2 (yCopyH H s i o j n) → (∀ a, (a < 77 ∨ 80 < a) → V2 a = V a) → Q (some (.int (Int32.ofInt (yCopy H s i o j n)))) (V2, T)) {o6 o7 o8 : Option Value} : E x F (d + 2) 207 0 [some (.ref 59), some (.int (Int32.ofInt (s))), some (.int (Int32.ofInt (i))), some (.int (Int32.ofInt (o))), some (.int (Int32.ofInt (j))), some (.int (Int32.ofInt (n))), o6, o7, o8] [] (V, T) Q := by
  unfold yCopyH yCopy yCpOk at k
  repeat' (first
    | (intro c; (try simp (disch := omega) only [zI_lt, zI_le, zI_eq, zI_0, zI_add, zI_sub, zI_mul, zI_neg, Int.reduceNeg, Int.reduceAdd, Int.reduceSub, Int.reduceMul, Decidable.not_not, Int.not_lt, Int.not_le, not_true_eq_false, not_false_eq_true] at c); (try (exfalso; omega)))
    | simp only [zI_add, zI_sub, zI_mul, zI_neg]
    | apply s194 hF h_s
    | apply s194 hF h_o
    | apply b207_0 hF
    | apply b207_4 hF
    | apply b207_7 hF
    | apply b207_11 hF
    | apply b207_26 hF
    | apply b207_35 hF
    | apply b207_38 hF
    | apply b207_53 hF
    | apply b207_56 hF
    | apply b207_61 hF
    | apply b207_65 hF
    | apply b207_70 hF
    | apply b207_83 hF
    | apply b207_97 hF
    | apply b207_100 hF
    | apply b207_105 hF
    | apply b207_111 hF
    | apply b207_115 hF
    | apply b207_116 hF
    | apply b207_121 hF
    | apply b207_128 hF
    | apply b207_133 hF
    | apply b207_143 hF
    | apply b207_145 hF
    | apply b207_182 hF
    | with_reducible assumption
    | exact zI_nat _
    | exact zNb1
    | exact zNb0
    | omega
    | with_reducible rfl
    | exact zI_nI (by omega))
  rotate_left
  · rw [if_neg (by omega), if_neg (by omega)] at k
    exact b207_14 hF (k V hH (fun _ _ => rfl))
  · rw [if_neg (by omega), if_neg (by omega)] at k
    exact b207_14 hF (k V hH (fun _ _ => rfl))
  have c0 : (0 ≤ s ∧ s ≤ 3) ∧ (0 ≤ o ∧ o ≤ 3) := by omega
  obtain ⟨t, rfl⟩ : ∃ t : Nat, s = t := ⟨s.toNat, by omega⟩
  obtain ⟨u, rfl⟩ : ∃ u : Nat, o = u := ⟨o.toNat, by omega⟩
  simp only [Int.toNat_natCast] at k
  have ht : t < 4 := by omega
  have hu : u < 4 := by omega
  obtain ⟨w1, w2⟩ := hw t ht
  obtain ⟨g1, g2⟩ := hH t ht
  obtain ⟨x1, x2⟩ := hw u hu
  obtain ⟨f1, f2⟩ := hH u hu
  have m01 : ∀ so : Int, (Int32.ofInt (if so = -1 then 0 else 1) = 0) ↔ so = -1 := by
    intro so
    split
    · rename_i h; exact ⟨fun _ => h, fun _ => rfl⟩
    · rename_i h; exact ⟨fun c => absurd c (by decide), fun c => absurd c h⟩
  apply b207_17 hF (i1 := t) (zI_nat t) ht
  · rw [g1, m01]
    intro c1
    rw [if_neg (fun g => g.2.1 (Or.inl c1)), if_pos c0, if_pos (Or.inl c1)] at k
    exact b207_35 hF (k V hH (fun _ _ => rfl))
  rw [g1, m01]
  intro c1
  apply b207_26 hF (i1 := u) (zI_nat u) hu
  rotate_left
  · rw [f1, m01]
    intro c2
    have c2 := Decidable.not_not.mp c2
    rw [if_neg (fun g => g.2.1 (Or.inr c2)), if_pos c0, if_pos (Or.inr c2)] at k
    exact b207_35 hF (k V hH (fun _ _ => rfl))
  rw [f1, m01]
  intro c2
  have c3 : ¬ ((H t).1 = -1 ∨ (H u).1 = -1) := fun g => g.elim c1 c2
  obtain ⟨g3, g4, g5⟩ := g2 c1
  obtain ⟨f3, f4, f5⟩ := f2 c2
  apply b207_38 hF (i1 := t) (zI_nat t) ht (i2 := u) (zI_nat u) hu
  rotate_left
  · rw [g3, f3]
    intro c
    simp (disch := omega) only [zI_eq] at c
    rw [if_neg (fun g => c g.2.2.1), if_pos c0, if_neg c3, if_neg c] at k
    exact b207_53 hF (k V hH (fun _ _ => rfl))
  rw [g3, f3]
  intro c4
  simp (disch := omega) only [zI_eq] at c4
  have kb : ¬ (0 ≤ n ∧ 0 ≤ i ∧ i + n ≤ (H t).2.1 ∧ 0 ≤ j ∧ j + n ≤ (H u).2.1) → Q (some (.int (Int32.ofInt (-12)))) (V, T) := by
    intro c
    rw [if_neg (fun g => c g.2.2.2), if_pos c0, if_neg c3, if_pos c4, if_neg c] at k
    exact k V hH (fun _ _ => rfl)
  apply b207_56 hF
  · intro c
    simp (disch := omega) only [zI_lt, zI_0] at c
    exact b207_97 hF (kb (by omega))
  intro c5
  simp (disch := omega) only [zI_lt, zI_0] at c5
  apply b207_61 hF
  · intro c
    simp (disch := omega) only [zI_lt, zI_0] at c
    exact b207_97 hF (kb (by omega))
  intro c6
  simp (disch := omega) only [zI_lt, zI_0] at c6
  apply b207_65 hF
  · intro c
    simp (disch := omega) only [zI_lt, zI_0] at c
    exact b207_97 hF (kb (by omega))
  intro c7
  simp (disch := omega) only [zI_lt, zI_0] at c7
  apply b207_70 hF (i1 := t) (zI_nat t) ht
  · rw [g4, zI_sub]
    intro c
    simp (disch := omega) only [zI_lt] at c
    exact b207_97 hF (kb (by omega))
  rw [g4, zI_sub]
  intro c8
  simp (disch := omega) only [zI_lt] at c8
  apply b207_83 hF (i1 := u) (zI_nat u) hu
  rotate_left
  · rw [f4, zI_sub]
    intro c
    simp (disch := omega) only [zI_le] at c
    exact b207_97 hF (kb (by omega))
  rw [f4, zI_sub]
  intro c9
  simp (disch := omega) only [zI_le] at c9
  have cA : 0 ≤ n ∧ 0 ≤ i ∧ i + n ≤ (H t).2.1 ∧ 0 ≤ j ∧ j + n ≤ (H u).2.1 := by omega
  rw [if_pos ⟨c0, c3, c4, cA⟩, if_pos c0, if_neg c3, if_pos c4, if_pos cA] at k
  obtain ⟨a, rfl⟩ : ∃ a : Nat, i = a := ⟨i.toNat, by omega⟩
  obtain ⟨b, rfl⟩ : ∃ b : Nat, j = b := ⟨j.toNat, by omega⟩
  obtain ⟨N, rfl⟩ : ∃ N : Nat, n = N := ⟨n.toNat, by omega⟩
  simp only [Int.toNat_natCast] at k
  have fin : ∀ (V2 : Nat → Nat → Int32), (∀ p, V2 80 p = if 40 * u + b ≤ p ∧ p < 40 * u + b + N then V 80 (40 * t + a + (p - (40 * u + b))) else V 80 p) → (∀ a, a ≠ 80 → V2 a = V a) → Q (some (.int (Int32.ofInt (N : Int)))) (V2, T) := by
    intro V2 h1 h2
    apply k
    · intro q hq
      dsimp only
      by_cases hqu : q = u
      · subst hqu
        rw [if_pos rfl]
        unfold zHo
        dsimp only
        rw [h2 77 (by omega), h2 78 (by omega), h2 79 (by omega)]
        refine ⟨f1, fun _ => ⟨f3, f4, fun p hp => ?_⟩⟩
        rw [h1]
        by_cases hp2 : b ≤ p ∧ p < b + N
        · rw [if_pos (by omega), if_pos hp2, ← g5 _ (by omega)]
          congr 1
          omega
        · rw [if_neg (by omega), if_neg hp2]
          exact f5 p hp
      · rw [if_neg hqu]
        unfold zHo
        rw [h2 77 (by omega), h2 78 (by omega), h2 79 (by omega)]
        obtain ⟨y1, y2⟩ := hH q hq
        refine ⟨y1, fun hs => ⟨(y2 hs).1, (y2 hs).2.1, fun p hp => ?_⟩⟩
        have hp40 := (hw q hq).2
        rw [h1, if_neg (by omega)]
        exact (y2 hs).2.2 p hp
    · intro z hz
      rw [h2 z (by omega)]
  have go : ∀ U : Int, ((U = 0 ∧ ¬ (t = u ∧ a < b)) ∨ (U = 1 ∧ t = u ∧ a < b)) → E x F (d + 2) 207 116 [some (.ref 59), some (.int (Int32.ofInt ((t:Int)))), some (.int (Int32.ofInt ((a:Int)))), some (.int (Int32.ofInt ((u:Int)))), some (.int (Int32.ofInt ((b:Int)))), some (.int (Int32.ofInt ((N:Int)))), o6, o7, o8] [.int (Int32.ofInt (U))] (V, T) Q := by
    intro U hU
    apply b207_116 hF
    refine s207l hF ht hu (by omega) (by omega) hU fin N 0 (if U = 0 then 0 else N) (if U = 0 then 0 else N) V 0 rfl (Nat.zero_add _) (by split <;> omega) (fun p => by rw [if_neg (by omega)]) (fun _ _ => rfl) _
  apply b207_100 hF
  · intro c
    simp (disch := omega) only [zI_eq] at c
    apply b207_115 hF
    exact go 0 (by omega)
  · intro c
    simp (disch := omega) only [zI_eq, Decidable.not_not] at c
    apply b207_105 hF
    · intro cB
      simp (disch := omega) only [zI_le] at cB
      apply b207_115 hF
      exact go 0 (by omega)
    · intro cB
      simp (disch := omega) only [zI_le] at cB
      apply b207_111 hF
      exact go 1 (by omega)
