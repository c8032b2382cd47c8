/-! gleaners: both -/
def yGnr (sz : Nat) (it : Nat → Int32) : Nat → Int → (Nat → Nat → Nat) × Int → (Nat → Nat → Nat) × Int
  | 0, _, p => p
  | m + 1, a, p => if 0 ≤ a ∧ a + 2 ≤ sz then yGnr sz it m (a + 2) (yComS p.1 (it a.toNat).toInt (it (a.toNat + 1)).toInt, if 0 ≤ yCom p.1 (it a.toNat).toInt (it (a.toNat + 1)).toInt then p.2 + 1 else p.2) else (p.1, -12)
theorem yGnr_wf {sz : Nat} {it : Nat → Int32} : ∀ (m : Nat) (a : Int) (p : (Nat → Nat → Nat) × Int), zWf p.1 → zWf (yGnr sz it m a p).1 := by
  intro m
  induction m with
  | zero => intro a p h; exact h
  | succ m ih =>
    intro a p h
    rw [yGnr]
    split
    · exact ih _ _ (yCom_wf h _ _)
    · exact h
def yGners (H : Nat → Int × Nat × (Nat → Int32)) (S : Nat → Nat → Nat) (s sort a n : Int) : (Nat → Nat → Nat) × Int := if (0 ≤ s ∧ s ≤ 3) ∧ (0 ≤ sort ∧ sort ≤ 2) ∧ (0 ≤ n ∧ n ≤ 5) then (if (H s.toNat).1 = -1 then (S, -11) else if (H s.toNat).1 = sort then yGnr (H s.toNat).2.1 (H s.toNat).2.2 n.toNat a (S, 0) else (S, -13)) else (S, -2)
theorem yGners_wf {H : Nat → Int × Nat × (Nat → Int32)} {S : Nat → Nat → Nat} (hW : zWf S) (s sort a n : Int) : zWf (yGners H S s sort a n).1 := by
  unfold yGners
  split
  · split
    · exact hW
    · split
      · exact yGnr_wf _ _ _ hW
      · exact hW
  · exact hW
theorem yCom_in {S : Nat → Nat → Nat} (h : S 5 0 ≤ 5) (kind num : Int) : -4 ≤ yCom S kind num ∧ yCom S kind num ≤ 5 := by
  unfold yCom
  split
  · split <;> omega
  · omega
theorem zI_slf (v : Int32) : Int32.ofInt v.toInt = v := Int32.ofInt_toInt v
theorem zI_rgn (v : Int32) : -2147483648 ≤ v.toInt ∧ v.toInt ≤ 2147483647 := by
  have h1 := Int32.le_toInt v
  have h2 := Int32.toInt_lt v
  omega
theorem s125l {x : zXs} {F : zF} (hF : zSh F) {d : Nat} {V : Nat → Nat → Int32} {T : Nat → Nat → Int64} {Q : Option Value → zG → Prop} {t N : Nat} (ht : t < 4) {sz : Nat} {it : Nat → Int32} (hz : sz ≤ 40) (h2 : V (51 + 2 * t) 2 = Int32.ofInt (sz : Int)) (h3 : ∀ i, i < sz → V (51 + 2 * t + 1) i = it i) (hN : N ≤ 5) {o1 o2 o3 : Option Value} : ∀ (m i : Nat) (S : Nat → Nat → Nat) (C a : Int) (V1 : Nat → Nat → Int32) (P : Int), P = i → i + m = N → zCS 1 V1 S → zWf S → (0 ≤ C ∧ C ≤ i) → (-2147483648 ≤ a ∧ a ≤ 2147483647) → yFn V V1 → (∀ V2, zCS 1 V2 (yGnr sz it m a (S, C)).1 → yFn V V2 → Q (some (.int (Int32.ofInt (yGnr sz it m a (S, C)).2))) (V2, T)) → E x F (d + 2) 125 78 [some (.ref 0), o1, o2, o3, some (.int (Int32.ofInt ((N:Int)))), some (.ref (51 + 2 * t)), some (.int (Int32.ofInt (C))), some (.int (Int32.ofInt (a))), some (.int (Int32.ofInt (P)))] [] (V1, T) Q := by
  intro m
  induction m with
  | zero =>
    intro i S C a V1 P hP hi hS hW hC ha hf K
    subst hP
    have hiN : i = N := by omega
    subst hiN
    apply b125_78 hF
    · intro _
      exact b125_139 hF (K V1 hS hf)
    · intro c
      simp (disch := omega) only [zI_le] at c
      exfalso; omega
  | succ m ih =>
    intro i S C a V1 P hP hi hS hW hC ha hf K
    subst hP
    have hl := zSt4_k ht
    apply b125_78 hF
    · intro c
      simp (disch := omega) only [zI_le] at c
      exfalso; omega
    intro _
    apply b125_85 hF hl
    have e2 : V1 (51 + 2 * t) 2 = Int32.ofInt (sz : Int) := by rw [hf (51 + 2 * t) (by omega) (by omega) (by omega) (by omega) (by omega) (by omega) (by omega)]; exact h2
    have e3 : ∀ i, i < sz → V1 (51 + 2 * t + 1) i = it i := fun j hj => by rw [hf (51 + 2 * t + 1) (by omega) (by omega) (by omega) (by omega) (by omega) (by omega) (by omega)]; exact h3 j hj
    refine s115 hF hl e2 hz ha (n := 2) (by omega) ?_ ?_
    rotate_left
    · intro c
      rw [yGnr, if_neg (by omega)] at K
      apply b125_93 hF
      · intro c; exact absurd rfl c
      intro _
      exact b125_96 hF (K V1 hS hf)
    intro c
    rw [yGnr, if_pos (by omega)] at K
    apply b125_93 hF
    rotate_left
    · intro c; exact absurd (by decide) c
    intro _
    obtain ⟨q, rfl⟩ : ∃ q : Nat, a = q := ⟨a.toNat, by omega⟩
    rw [Int.toNat_natCast] at K
    have ec := yCom_in hW.2.2.1 (it q).toInt (it (q + 1)).toInt
    dsimp only at K
    apply b125_99 hF hl (i1 := q) (zI_nat q) (by omega) (i2 := q + 1) (by rw [zI_add]; exact zI_nat (q + 1)) (by omega)
    rw [e3 q (by omega), e3 (q + 1) (by omega), ← zI_slf (it q), ← zI_slf (it (q + 1))]
    apply s21 hF hS hW (zI_rgn _) (zI_rgn _)
    intro V2 hS2 f2
    have hf2 : yFn V V2 := fun b b1 b2 b3 b4 b5 b6 b7 => (f2 b b1 b2 b3 b4 b5 b6 b7).trans (hf b b1 b2 b3 b4 b5 b6 b7)
    apply b125_124 hF
    · intro cC
      simp (disch := omega) only [zI_lt, zI_0] at cC
      rw [if_neg (by omega)] at K
      apply b125_130 hF
      rw [zI_add, zI_add]
      exact ih (i + 1) _ C _ V2 _ (by omega) (by omega) hS2 (yCom_wf hW _ _) (by omega) (by omega) hf2 K
    · intro cC
      simp (disch := omega) only [zI_lt, zI_0] at cC
      rw [if_pos (by omega)] at K
      apply b125_127 hF
      apply b125_130 hF
      rw [zI_add, zI_add, zI_add]
      exact ih (i + 1) _ (C + 1) _ V2 _ (by omega) (by omega) hS2 (yCom_wf hW _ _) (by omega) (by omega) hf2 K
theorem s125 {x : zXs} {F : zF} (hF : zSh F) {d : Nat} {V : Nat → Nat → Int32} {T : Nat → Nat → Int64} {Q : Option Value → zG → Prop} {S : Nat → Nat → Nat} (hS : zCS 1 V S) (hW : zWf S) {H : Nat → Int × Nat × (Nat → Int32)} (hw : zHw H) (hH : zHc V H) {s sort a n : Int} (h_s : -2147483648 ≤ s ∧ s ≤ 2147483647) (h_sort : -2147483648 ≤ sort ∧ sort ≤ 2147483647) (h_a : -2147483648 ≤ a ∧ a ≤ 2147483647) (h_n : -2147483648 ≤ n ∧ n ≤ 2147483647) (k : ∀ V2, zCS 1 V2 (yGners H S s sort a n).1 → yFn V V2 → Q (some (.int (Int32.ofInt (yGners H S s sort a n).2))) (V2, T)) {o5 o6 o7 o8 : Option Value} : E x F (d + 2) 125 0 [some (.ref 0), some (.int (Int32.ofInt (s))), some (.int (Int32.ofInt (sort))), some (.int (Int32.ofInt (a))), some (.int (Int32.ofInt (n))), o5, o6, o7, o8] [] (V, T) Q := by
  unfold yGners at k
  have kb : ¬ ((0 ≤ s ∧ s ≤ 3) ∧ (0 ≤ sort ∧ sort ≤ 2) ∧ (0 ≤ n ∧ n ≤ 5)) → Q (some (.int (Int32.ofInt (-2)))) (V, T) := by
    intro c
    rw [if_neg c] at k
    exact k V hS (yFn_rfl V)
  repeat' (first
    | (intro c; (try simp (disch := omega) only [zI_lt, zI_le, zI_eq, zI_0, zI_add, zI_sub, zI_mul, zI_neg, Int.reduceNeg, Int.reduceAdd, Int.reduceSub, Int.reduceMul, Decidable.not_not, Int.not_lt, Int.not_le, not_true_eq_false, not_false_eq_true] at c); (try (exfalso; omega)))
    | simp only [zI_add, zI_sub, zI_mul, zI_neg]
    | apply s101 hF h_s
    | apply s7 hF h_sort (by omega) (by omega)
    | apply s7 hF h_n (by omega) (by omega)
    | apply b125_0 hF
    | apply b125_5 hF
    | apply b125_8 hF
    | apply b125_14 hF
    | apply b125_17 hF
    | apply b125_24 hF
    | apply b125_27 hF
    | apply b125_43 hF
    | apply b125_46 hF
    | apply b125_55 hF
    | apply b125_58 hF
    | apply b125_63 hF
    | apply b125_66 hF
    | apply b125_69 hF
    | apply b125_78 hF
    | apply b125_85 hF
    | apply b125_93 hF
    | apply b125_96 hF
    | apply b125_99 hF
    | apply b125_124 hF
    | apply b125_127 hF
    | apply b125_130 hF
    | apply b125_139 hF
    | exact kb (by omega)
    | with_reducible assumption
    | exact zI_nat _
    | exact zNb1
    | exact zNb0
    | omega
    | with_reducible rfl
    | exact zI_nI (by omega))
  have c0 : (0 ≤ s ∧ s ≤ 3) ∧ (0 ≤ sort ∧ sort ≤ 2) ∧ (0 ≤ n ∧ n ≤ 5) := by omega
  rw [if_pos c0] at k
  obtain ⟨t, rfl⟩ : ∃ t : Nat, s = t := ⟨s.toNat, by omega⟩
  obtain ⟨N, rfl⟩ : ∃ N : Nat, n = N := ⟨n.toNat, by omega⟩
  simp only [Int.toNat_natCast] at k
  have ht : t < 4 := by omega
  have hl := zSt4_k ht
  obtain ⟨w1, w2⟩ := hw t ht
  obtain ⟨g1, g2, g3⟩ := hH t ht
  apply b125_30 hF (i1 := t) (zI_nat t) ht
  refine s102 hF hl w1 g1 ?_ ?_
  · intro c1
    rw [if_pos c1] at k
    apply b125_43 hF
    · intro _
      apply b125_58 hF hl
      refine s102 hF hl w1 g1 ?_ ?_
      · intro _
        apply b125_63 hF
        · intro c; exact absurd c (by decide)
        intro _
        exact b125_66 hF (k V hS (yFn_rfl V))
      · intro c; exact absurd c1 c
    · intro c; exact absurd (by decide) c
  · intro c1
    rw [if_neg c1] at k
    apply b125_43 hF
    · intro c; exact absurd rfl c
    intro _
    apply b125_46 hF hl
    · rw [g1]
      intro c2
      simp (disch := omega) only [zI_eq] at c2
      rw [if_pos c2] at k
      apply b125_58 hF hl
      refine s102 hF hl w1 g1 ?_ ?_
      · intro c; exact absurd c c1
      intro _
      apply b125_63 hF
      rotate_left
      · intro c; exact absurd rfl c
      intro _
      apply b125_69 hF
      exact s125l hF ht w2 g2 g3 (by omega) N 0 S 0 a V 0 rfl (Nat.zero_add _) hS hW (by omega) h_a (yFn_rfl V) k
    · rw [g1]
      intro c2
      simp (disch := omega) only [zI_eq] at c2
      rw [if_neg c2] at k
      exact b125_55 hF (k V hS (yFn_rfl V))
theorem yFq_tr {V V1 V2 : Nat → Nat → Int32} (h1 : yFq V V1) (h2 : yFq V1 V2) : yFq V V2 := ⟨fun a h g => (h2.1 a h g).trans (h1.1 a h g), fun j h => (h2.2 j h).trans (h1.2 j h)⟩
theorem s208l {x : zXs} {F : zF} (hF : zSh F) {d : Nat} {V : Nat → Nat → Int32} {T : Nat → Nat → Int64} {Q : Option Value → zG → Prop} {t N : Nat} (ht : t < 4) {sz : Nat} {it : Nat → Int32} (hz : sz ≤ 40) (h2 : V 79 t = Int32.ofInt (sz : Int)) (h3 : ∀ i, i < sz → V 80 (40 * t + i) = it i) (hN : N ≤ 5) {a : Int} (h_a : -2147483648 ≤ a ∧ a ≤ 2147483647) {o2 : Option Value} : ∀ (m i : Nat) (S : Nat → Nat → Nat) (C : Int) (V1 : Nat → Nat → Int32) (P : Int), P = i → i + m = N → zMS V1 S → zWf S → (0 ≤ C ∧ C ≤ i) → (0 < i → 0 ≤ a ∧ a ≤ 40) → yFq V V1 → (∀ V2, zMS V2 (yGnr sz it m (a + 2 * i) (S, C)).1 → yFq V V2 → Q (some (.int (Int32.ofInt (yGnr sz it m (a + 2 * i) (S, C)).2))) (V2, T)) → ∀ o7 : Option Value, E x F (d + 2) 208 75 [some (.ref 59), some (.int (Int32.ofInt ((t:Int)))), o2, some (.int (Int32.ofInt (a))), some (.int (Int32.ofInt ((N:Int)))), some (.int (Int32.ofInt (C))), some (.int (Int32.ofInt (P))), o7] [] (V1, T) Q := by
  intro m
  induction m with
  | zero =>
    intro i S C V1 P hP hi hS hW hC ha hf K o7
    subst hP
    have hiN : i = N := by omega
    subst hiN
    apply b208_75 hF
    · intro _
      exact b208_158 hF (K V1 hS hf)
    · intro c
      simp (disch := omega) only [zI_le] at c
      exfalso; omega
  | succ m ih =>
    intro i S C V1 P hP hi hS hW hC ha hf K o7
    subst hP
    have e2 : V1 79 t = Int32.ofInt (sz : Int) := by rw [hf.1 79 (by omega) (by omega)]; exact h2
    have e3 : ∀ i, i < sz → V1 80 (40 * t + i) = it i := fun j hj => by rw [hf.1 80 (by omega) (by omega)]; exact h3 j hj
    have bad : ¬ (0 ≤ a + 2 * i ∧ a + 2 * i + 2 ≤ sz) → E x F (d + 2) 208 103 [some (.ref 59), some (.int (Int32.ofInt ((t:Int)))), o2, some (.int (Int32.ofInt (a))), some (.int (Int32.ofInt ((N:Int)))), some (.int (Int32.ofInt (C))), some (.int (Int32.ofInt ((i:Int)))), o7] [] (V1, T) Q := by
      intro c
      rw [yGnr, if_neg c] at K
      exact b208_103 hF (K V1 hS hf)
    apply b208_75 hF
    · intro c
      simp (disch := omega) only [zI_le] at c
      exfalso; omega
    intro _
    apply b208_82 hF
    · intro c
      simp (disch := omega) only [zI_lt, zI_0] at c
      exact bad (by omega)
    intro c1
    simp (disch := omega) only [zI_lt, zI_0] at c1
    apply b208_86 hF (i1 := t) (zI_nat t) ht
    rotate_left
    · rw [e2, zI_mul, zI_sub, zI_sub]
      intro c
      simp (disch := omega) only [zI_le] at c
      exact bad (by omega)
    rw [e2, zI_mul, zI_sub, zI_sub]
    intro c2
    simp (disch := omega) only [zI_le] at c2
    rw [yGnr, if_pos (by omega)] at K
    obtain ⟨q, rfl⟩ : ∃ q : Nat, a = q := ⟨a.toNat, by omega⟩
    have eq : ((q : Int) + 2 * (i : Int)).toNat = q + 2 * i := by omega
    rw [eq] at K
    have ec := yCom_in hW.2.2.1 (it (q + 2 * i)).toInt (it (q + 2 * i + 1)).toInt
    have es : (q : Int) + 2 * (i : Int) + 2 = (q : Int) + 2 * ((i + 1 : Nat) : Int) := by omega
    rw [es] at K
    dsimp only at K
    have i1 : Int32.ofInt 40 * Int32.ofInt (t : Int) + Int32.ofInt (q : Int) + Int32.ofInt 2 * Int32.ofInt (i : Int) = Int32.ofInt ((40 * t + (q + 2 * i) : Nat) : Int) := by
      rw [zI_40, zI_mul, zI_add]; congr 1; omega
    have i2 : Int32.ofInt 40 * Int32.ofInt (t : Int) + Int32.ofInt (q : Int) + Int32.ofInt 2 * Int32.ofInt (i : Int) + Int32.ofInt 1 = Int32.ofInt ((40 * t + (q + 2 * i + 1) : Nat) : Int) := by
      rw [i1, zI_add]; congr 1
    apply b208_106 hF (i1 := 40 * t + (q + 2 * i)) (i1.trans (zI_nat _)) (by omega) (i2 := 40 * t + (q + 2 * i + 1)) (i2.trans (zI_nat _)) (by omega)
    rw [e3 (q + 2 * i) (by omega), e3 (q + 2 * i + 1) (by omega), ← zI_slf (it (q + 2 * i)), ← zI_slf (it (q + 2 * i + 1))]
    apply s163 hF hS hW (zI_rgn _) (zI_rgn _)
    intro V2 hS2 f2
    apply b208_141 hF
    · intro cC
      simp (disch := omega) only [zI_lt, zI_0] at cC
      rw [if_neg (by omega)] at K
      apply b208_148 hF
      apply b208_149 hF
      rw [zI_add, zI_add]
      exact ih (i + 1) _ (C + 0) V2 _ (by omega) (by omega) hS2 (yCom_wf hW _ _) (by omega) (by omega) (yFq_tr hf f2) (by rw [Int.add_zero]; exact K) _
    · intro cC
      simp (disch := omega) only [zI_lt, zI_0] at cC
      rw [if_pos (by omega)] at K
      apply b208_144 hF
      apply b208_149 hF
      rw [zI_add, zI_add]
      exact ih (i + 1) _ (C + 1) V2 _ (by omega) (by omega) hS2 (yCom_wf hW _ _) (by omega) (by omega) (yFq_tr hf f2) K _
theorem yM01 (so : Int) : (Int32.ofInt (if so = -1 then 0 else 1) = 0) ↔ so = -1 := by
  split
  · rename_i h; exact ⟨fun _ => h, fun _ => rfl⟩
  · rename_i h; exact ⟨fun c => absurd c (by decide), fun c => absurd c h⟩
theorem s208 {x : zXs} {F : zF} (hF : zSh F) {d : Nat} {V : Nat → Nat → Int32} {T : Nat → Nat → Int64} {Q : Option Value → zG → Prop} {S : Nat → Nat → Nat} (hS : zMS V S) (hW : zWf S) {H : Nat → Int × Nat × (Nat → Int32)} (hw : zHw H) (hH : zHm V H) {s sort a n : Int} (h_s : -2147483648 ≤ s ∧ s ≤ 2147483647) (h_sort : -2147483648 ≤ sort ∧ sort ≤ 2147483647) (h_a : -2147483648 ≤ a ∧ a ≤ 2147483647) (h_n : -2147483648 ≤ n ∧ n ≤ 2147483647) (k : ∀ V2, zMS V2 (yGners H S s sort a n).1 → yFq V V2 → Q (some (.int (Int32.ofInt (yGners H S s sort a n).2))) (V2, T)) {o5 o6 o7 : Option Value} : E x F (d + 2) 208 0 [some (.ref 59), some (.int (Int32.ofInt (s))), some (.int (Int32.ofInt (sort))), some (.int (Int32.ofInt (a))), some (.int (Int32.ofInt (n))), o5, o6, o7] [] (V, T) Q := by
  unfold yGners at k
  have kb : ¬ ((0 ≤ s ∧ s ≤ 3) ∧ (0 ≤ sort ∧ sort ≤ 2) ∧ (0 ≤ n ∧ n ≤ 5)) → Q (some (.int (Int32.ofInt (-2)))) (V, T) := by
    intro c
    rw [if_neg c] at k
    exact k V hS (yFq_rfl V)
  repeat' (first
    | (intro c; (try simp (disch := omega) only [zI_lt, zI_le, zI_eq, zI_0, zI_add, zI_sub, zI_mul, zI_neg, Int.reduceNeg, Int.reduceAdd, Int.reduceSub, Int.reduceMul, Decidable.not_not, Int.not_lt, Int.not_le, not_true_eq_false, not_false_eq_true] at c); (try (exfalso; omega)))
    | simp only [zI_add, zI_sub, zI_mul, zI_neg]
    | apply s194 hF h_s
    | apply s132v hF h_sort (lo := 0) (hi := 2) (by omega) (by omega)
    | apply s132v hF h_n (lo := 0) (hi := 5) (by omega) (by omega)
    | apply b208_0 hF
    | apply b208_4 hF
    | apply b208_7 hF
    | apply b208_16 hF
    | apply b208_19 hF
    | apply b208_29 hF
    | apply b208_32 hF
    | apply b208_44 hF
    | apply b208_54 hF
    | apply b208_57 hF
    | apply b208_66 hF
    | apply b208_69 hF
    | apply b208_75 hF
    | apply b208_82 hF
    | apply b208_86 hF
    | apply b208_103 hF
    | apply b208_106 hF
    | apply b208_141 hF
    | apply b208_144 hF
    | apply b208_148 hF
    | apply b208_149 hF
    | apply b208_158 hF
    | exact kb (by omega)
    | with_reducible assumption
    | exact zI_nat _
    | exact zNb1
    | exact zNb0
    | omega
    | with_reducible rfl
    | exact zI_nI (by omega))
  have c0 : (0 ≤ s ∧ s ≤ 3) ∧ (0 ≤ sort ∧ sort ≤ 2) ∧ (0 ≤ n ∧ n ≤ 5) := by omega
  rw [if_pos c0] at k
  obtain ⟨t, rfl⟩ : ∃ t : Nat, s = t := ⟨s.toNat, by omega⟩
  obtain ⟨N, rfl⟩ : ∃ N : Nat, n = N := ⟨n.toNat, by omega⟩
  simp only [Int.toNat_natCast] at k
  have ht : t < 4 := by omega
  obtain ⟨w1, w2⟩ := hw t ht
  obtain ⟨g1, g2⟩ := hH t ht
  apply b208_35 hF (i1 := t) (zI_nat t) ht
  · rw [g1, yM01]
    intro c1
    rw [if_pos c1] at k
    apply b208_57 hF (i1 := t) (zI_nat t) ht
    · rw [g1, yM01]
      intro c; exact absurd c1 c
    · intro _
      exact b208_66 hF (k V hS (yFq_rfl V))
  · rw [g1, yM01]
    intro c1
    rw [if_neg c1] at k
    obtain ⟨g3, g4, g5⟩ := g2 c1
    apply b208_44 hF (i1 := t) (zI_nat t) ht
    · rw [g3]
      intro c2
      simp (disch := omega) only [zI_eq] at c2
      rw [if_pos c2] at k
      apply b208_57 hF (i1 := t) (zI_nat t) ht
      rotate_left
      · rw [g1, yM01]
        intro c; exact absurd c1 c
      intro _
      apply b208_69 hF
      refine s208l hF ht w2 g4 g5 (by omega) h_a N 0 S 0 V 0 rfl (Nat.zero_add _) hS hW (by omega) (fun h => absurd h (Nat.lt_irrefl _)) (yFq_rfl V) ?_ _
      rw [show a + 2 * ((0 : Nat) : Int) = a by omega]
      exact k
    · rw [g3]
      intro c2
      simp (disch := omega) only [zI_eq] at c2
      rw [if_neg c2] at k
      exact b208_54 hF (k V hS (yFq_rfl V))
