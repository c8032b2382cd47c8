/-! sheet: the reference; cell: both -/
theorem yNar1 : vp_nar .boolean (Int32.ofInt 1) = Int32.ofInt 1 := by decide +kernel
theorem yNar0 : vp_nar .boolean (Int32.ofInt 0) = Int32.ofInt 0 := by decide +kernel
theorem zI_40 {t i : Nat} : Int32.ofInt 40 * Int32.ofInt (t : Int) + Int32.ofInt (i : Int) = Int32.ofInt ((40 * t + i : Nat) : Int) := by
  rw [zI_mul, zI_add]; congr 1
theorem s199l {x : zXs} {F : zF} (hF : zSh F) {d : Nat} {V : Nat → Nat → Int32} {T : Nat → Nat → Int64} {Q : Option Value → zG → Prop} {t n : Nat} (ht : t < 4) (hn : n ≤ 40) {sort : Int} (hs : 0 ≤ sort ∧ sort ≤ 2) (k : ∀ V2, (∀ j, V2 80 j = if 40 * t ≤ j ∧ j < 40 * t + n then Int32.ofInt 0 else V 80 j) → (∀ a, a ≠ 80 → V2 a = V a) → Q (some (.int (Int32.ofInt 1))) (V2, T)) : ∀ (m i : Nat) (V1 : Nat → Nat → Int32) (P : Int), P = i → i + m = n → (∀ j, V1 80 j = if 40 * t ≤ j ∧ j < 40 * t + i then Int32.ofInt 0 else V 80 j) → (∀ a, a ≠ 80 → V1 a = V a) → E x F d 199 77 [some (.ref 59), some (.int (Int32.ofInt ((t:Int)))), some (.int (Int32.ofInt (sort))), some (.int (Int32.ofInt ((n:Int)))), some (.int (Int32.ofInt (P)))] [] (V1, T) Q := by
  intro m
  induction m with
  | zero =>
    intro i V1 P hP hi hj hf
    subst hP
    have hin : i = n := by omega
    subst hin
    apply b199_77 hF
    · intro _
      exact b199_106 hF (k V1 hj hf)
    · intro c
      simp (disch := omega) only [zI_le] at c
      exfalso; omega
  | succ m ih =>
    intro i V1 P hP hi hj hf
    subst hP
    apply b199_77 hF
    · intro c
      simp (disch := omega) only [zI_le] at c
      exfalso; omega
    · intro _
      apply b199_83 hF
      · intro c
        simp (disch := omega) only [zI_lt, zI_0] at c
        exfalso; omega
      · intro _
        apply b199_87 hF (i1 := 40 * t + i) (zI_40.trans (zI_nat _)) (by omega)
        rw [zI_add]
        apply ih (i + 1) _ _ (by omega) (by omega)
        · intro j
          rw [zu_at, hj]
          split
          · rw [if_pos (by omega)]
          · split
            · rw [if_pos (by omega)]
            · rw [if_neg (by omega)]
        · intro a ha
          rw [zu_ne ha]; exact hf a ha
theorem s199 {x : zXs} {F : zF} (hF : zSh F) {d : Nat} {V : Nat → Nat → Int32} {T : Nat → Nat → Int64} {Q : Option Value → zG → Prop} {H : Nat → Int × Nat × (Nat → Int32)} (hw : zHw H) (hH : zHm V H) {s sort n : Int} (h_s : -2147483648 ≤ s ∧ s ≤ 2147483647) (h_sort : -2147483648 ≤ sort ∧ sort ≤ 2147483647) (h_n : -2147483648 ≤ n ∧ n ≤ 2147483647) (k : ∀ V2, zHm V2 (ySheetH H s sort n) → (∀ a, (a < 77 ∨ 80 < a) → V2 a = V a) → Q (some (.int (Int32.ofInt (ySheet s sort n)))) (V2, T)) {o4 : Option Value} : E x F (d + 2) 199 0 [some (.ref 59), some (.int (Int32.ofInt (s))), some (.int (Int32.ofInt (sort))), some (.int (Int32.ofInt (n))), o4] [] (V, T) Q := by
  unfold ySheetH ySheet at k
  have good : (0 ≤ s ∧ s ≤ 3) ∧ (-1 ≤ sort ∧ sort ≤ 2) ∧ (sort = -1 ∨ 0 ≤ n ∧ n ≤ 40) → ∀ (V2 : Nat → Nat → Int32), V2 77 s.toNat = Int32.ofInt (if sort = -1 then 0 else 1) → (sort ≠ -1 → V2 78 s.toNat = Int32.ofInt sort ∧ V2 79 s.toNat = Int32.ofInt n ∧ ∀ j, 40 * s.toNat ≤ j → j < 40 * s.toNat + n.toNat → V2 80 j = Int32.ofInt 0) → (∀ t, t ≠ s.toNat → V2 77 t = V 77 t ∧ V2 78 t = V 78 t ∧ V2 79 t = V 79 t) → (∀ j, (j < 40 * s.toNat ∨ 40 * s.toNat + 40 ≤ j) → V2 80 j = V 80 j) → (∀ a, (a < 77 ∨ 80 < a) → V2 a = V a) → Q (some (.int (Int32.ofInt 1))) (V2, T) := by
    intro c V2 h1 h2 h3 h4 h5
    have K := k V2
    rw [if_pos c, if_pos (show (0 ≤ s ∧ s ≤ 3) ∧ (-1 ≤ sort ∧ sort ≤ 2) from ⟨c.1, c.2.1⟩)] at K
    have e : (if sort = -1 then (1 : Int) else if 40 < n then -2 else if n < 0 then -14 else 1) = 1 := by
      split
      · rfl
      · rw [if_neg (by omega), if_neg (by omega)]
    rw [e] at K
    apply K
    · intro t ht
      dsimp only
      by_cases hts : t = s.toNat
      · subst hts
        rw [if_pos rfl]
        unfold zHo
        dsimp only
        refine ⟨h1, fun hs => ?_⟩
        obtain ⟨g1, g2, g3⟩ := h2 hs
        rw [if_neg hs]
        refine ⟨g1, ?_, ?_⟩
        · rw [g2]; congr 1; omega
        · intro i hi
          exact g3 _ (by omega) (by omega)
      · rw [if_neg hts]
        unfold zHo
        rw [(h3 t hts).1, (h3 t hts).2.1, (h3 t hts).2.2]
        have g := hH t ht
        refine ⟨g.1, fun hs => ?_⟩
        have g2 := g.2 hs
        refine ⟨g2.1, g2.2.1, fun i hi => ?_⟩
        rw [← g2.2.2 i hi]
        by_cases hi40 : i < 40
        · exact h4 _ (by omega)
        · have := (hw t ht).2
          omega
    · exact h5
  have bad : ∀ z : Int, ¬ ((0 ≤ s ∧ s ≤ 3) ∧ (-1 ≤ sort ∧ sort ≤ 2) ∧ (sort = -1 ∨ 0 ≤ n ∧ n ≤ 40)) → ((¬ ((0 ≤ s ∧ s ≤ 3) ∧ (-1 ≤ sort ∧ sort ≤ 2)) ∨ 40 < n) ∧ z = -2 ∨ ((0 ≤ s ∧ s ≤ 3) ∧ (-1 ≤ sort ∧ sort ≤ 2)) ∧ n < 0 ∧ z = -14) → Q (some (.int (Int32.ofInt z))) (V, T) := by
    intro z c hz
    have K := k V
    rw [if_neg c] at K
    have K := K hH (fun _ _ => rfl)
    rcases hz with ⟨c1 | c1, rfl⟩ | ⟨c1, c2, rfl⟩
    · rw [if_neg c1] at K
      exact K
    · by_cases c3 : (0 ≤ s ∧ s ≤ 3) ∧ (-1 ≤ sort ∧ sort ≤ 2)
      · rw [if_pos c3, if_neg (by omega), if_pos c1] at K
        exact K
      · rw [if_neg c3] at K
        exact K
    · rw [if_pos c1, if_neg (by omega), if_neg (by omega), if_pos c2] at K
      exact K
  have g54 : (0 ≤ s ∧ s ≤ 3) ∧ (0 ≤ sort ∧ sort ≤ 2) ∧ (0 ≤ n ∧ n ≤ 40) → E x F (d + 1 + 1) 199 54 [some (.ref 59), some (.int (Int32.ofInt (s))), some (.int (Int32.ofInt (sort))), some (.int (Int32.ofInt (n))), o4] [.int (Int32.ofInt (s)), .ref 77] (V, T) Q := by
    intro c
    obtain ⟨t, rfl⟩ : ∃ t : Nat, s = t := ⟨s.toNat, by omega⟩
    obtain ⟨m, rfl⟩ : ∃ m : Nat, n = m := ⟨n.toNat, by omega⟩
    simp only [Int.toNat_natCast] at good
    apply b199_54 hF (zsh_at hF rfl) (by omega)
    apply b199_59 hF (zsh_at hF rfl) (by omega) (i1 := t) (zI_nat t) (by omega) (i2 := t) (zI_nat t) (by omega) (i3 := t) (zI_nat t) (by omega)
    rw [yNar1]
    refine s199l hF (t := t) (n := m) (V := zu (zu (zu V 77 t (Int32.ofInt 1)) 78 t (Int32.ofInt sort)) 79 t (Int32.ofInt (m : Int))) (by omega) (by omega) (by omega) ?_ m 0 _ 0 rfl (Nat.zero_add _) (fun j => by rw [if_neg (by omega)]) (fun _ _ => rfl)
    intro V2 h1 h2
    apply good (by omega) V2
    · rw [h2 77 (by omega), zu_ne (by omega), zu_ne (by omega), zuN_at, if_neg (by omega)]
    · intro _
      refine ⟨?_, ?_, ?_⟩
      · rw [h2 78 (by omega), zu_ne (by omega), zuN_at]
      · rw [h2 79 (by omega), zuN_at]
      · intro j j1 j2
        rw [h1, if_pos (by omega)]
    · intro q hq
      rw [h2 77 (by omega), h2 78 (by omega), h2 79 (by omega)]
      refine ⟨?_, ?_, ?_⟩
      · rw [zu_ne (by omega), zu_ne (by omega), zuN_nk hq]
      · rw [zu_ne (by omega), zuN_nk hq, zu_ne (by omega)]
      · rw [zuN_nk hq, zu_ne (by omega), zu_ne (by omega)]
    · intro j hj
      rw [h1, if_neg (by omega), zu_ne (by omega), zu_ne (by omega), zu_ne (by omega)]
    · intro a ha
      rw [h2 a (by omega), zu_ne (by omega), zu_ne (by omega), zu_ne (by omega)]
  have g58 : (0 ≤ s ∧ s ≤ 3) ∧ sort = -1 → E x F (d + 1 + 1) 199 58 [some (.ref 59), some (.int (Int32.ofInt (s))), some (.int (Int32.ofInt (sort))), some (.int (Int32.ofInt (n))), o4] [.int (Int32.ofInt (s)), .ref 77] (V, T) Q := by
    intro c
    obtain ⟨t, rfl⟩ : ∃ t : Nat, s = t := ⟨s.toNat, by omega⟩
    obtain ⟨c1, rfl⟩ := c
    rw [Int.toNat_natCast] at good
    apply b199_58 hF (zsh_at hF rfl) (by omega)
    apply b199_59 hF (zsh_at hF rfl) (by omega) (i1 := t) (zI_nat t) (by omega) (i2 := t) (zI_nat t) (by omega) (i3 := t) (zI_nat t) (by omega)
    rw [yNar0]
    have fin : Q (some (.int (Int32.ofInt 1))) (zu (zu (zu V 77 t (Int32.ofInt 0)) 78 t (Int32.ofInt (-1))) 79 t (Int32.ofInt n), T) := by
      apply good ⟨by omega, by omega, Or.inl rfl⟩
      · rw [zu_ne (by omega), zu_ne (by omega), zuN_at, if_pos rfl]
      · intro h; exact absurd rfl h
      · intro q hq
        refine ⟨?_, ?_, ?_⟩
        · rw [zu_ne (by omega), zu_ne (by omega), zuN_nk hq]
        · rw [zu_ne (by omega), zuN_nk hq, zu_ne (by omega)]
        · rw [zuN_nk hq, zu_ne (by omega), zu_ne (by omega)]
      · intro j hj
        rw [zu_ne (by omega), zu_ne (by omega), zu_ne (by omega)]
      · intro a ha
        rw [zu_ne (by omega), zu_ne (by omega), zu_ne (by omega)]
    apply b199_77 hF
    · intro _
      exact b199_106 hF fin
    · intro _
      apply b199_83 hF
      · intro _
        exact b199_106 hF fin
      · intro c
        exact absurd (by decide) c
  repeat' (first
    | (intro c; (try simp (disch := omega) only [zI_lt, zI_le, zI_eq, zI_0, zI_add, zI_sub, zI_mul, zI_neg, Int.reduceNeg, Int.reduceAdd, Int.reduceSub, Int.reduceMul, Decidable.not_not, Int.not_lt, Int.not_le, not_true_eq_false, not_false_eq_true] at c); (try (exfalso; omega)))
    | simp only [zI_add, zI_sub, zI_mul, zI_neg]
    | apply s194 hF h_s
    | apply s132v hF h_sort (lo := -1) (hi := 2) (by omega) (by omega)
    | apply b199_0 hF
    | apply b199_4 hF
    | apply b199_7 hF
    | apply b199_18 hF
    | apply b199_21 hF
    | apply b199_25 hF
    | apply b199_31 hF
    | apply b199_34 hF
    | apply b199_38 hF
    | apply b199_42 hF
    | apply b199_45 hF
    | apply b199_77 hF
    | apply b199_83 hF
    | apply b199_87 hF
    | apply b199_106 hF
    | exact bad _ (by omega) (by omega)
    | exact g54 (by omega)
    | exact g58 (by omega)
    | with_reducible assumption
    | exact zI_nat _
    | exact zNb1
    | exact zNb0
    | omega
    | with_reducible rfl
    | exact zI_nI (by omega))
/-- a number as a sheet keeps it -/
def yNarr (so : Int) (v : Int32) : Int32 := if so = 0 then v.toInt8.toInt32 else if so = 1 then v.toInt16.toInt32 else v
def yCellH (H : Nat → Int × Nat × (Nat → Int32)) (s i : Int) (v : Int32) : Nat → Int × Nat × (Nat → Int32) := if (0 ≤ s ∧ s ≤ 3) ∧ (H s.toNat).1 ≠ -1 ∧ 0 ≤ i ∧ i < (H s.toNat).2.1 then (fun t => if t = s.toNat then ((H t).1, (H t).2.1, fun j => if j = i.toNat then yNarr (H t).1 v else (H t).2.2 j) else H t) else H
def yCell (H : Nat → Int × Nat × (Nat → Int32)) (s i : Int) : Int := if 0 ≤ s ∧ s ≤ 3 then (if (H s.toNat).1 = -1 then -11 else if 0 ≤ i ∧ i < (H s.toNat).2.1 then 1 else -12) else -2
theorem yCell_w {H : Nat → Int × Nat × (Nat → Int32)} (h : zHw H) (s i : Int) (v : Int32) : zHw (yCellH H s i v) := by
  unfold yCellH
  split
  · intro t ht
    dsimp only
    split
    · exact h t ht
    · exact h t ht
  · exact h
theorem s115 {x : zXs} {F : zF} (hF : zSh F) {d : Nat} {V : Nat → Nat → Int32} {T : Nat → Nat → Int64} {Q : Option Value → zG → Prop} {l : Nat} (hl : zSt4 l) {sz : Nat} (h : V l 2 = Int32.ofInt (sz : Int)) (hz : sz ≤ 40) {i n : Int} (h_i : -2147483648 ≤ i ∧ i ≤ 2147483647) (h_n : -2147483648 ≤ n ∧ n ≤ 2147483647) (k1 : 0 ≤ n ∧ 0 ≤ i ∧ i + n ≤ sz → Q (some (.int (Int32.ofInt 1))) (V, T)) (k0 : ¬ (0 ≤ n ∧ 0 ≤ i ∧ i + n ≤ sz) → Q (some (.int (Int32.ofInt 0))) (V, T)) : E x F d 115 0 [some (.ref l), some (.int (Int32.ofInt (i))), some (.int (Int32.ofInt (n)))] [] (V, T) Q := by
  repeat' (first
    | (intro c; (try simp (disch := omega) only [zI_lt, zI_le, zI_eq, zI_0, zI_add, zI_sub, zI_mul, zI_neg, Int.reduceNeg, Int.reduceAdd, Int.reduceSub, Int.reduceMul, Decidable.not_not, Int.not_lt, Int.not_le, not_true_eq_false, not_false_eq_true] at c); (try (exfalso; omega)))
    | simp only [zI_add, zI_sub, zI_mul, zI_neg]
    | apply b115_0 hF
    | apply b115_4 hF
    | apply b115_18 hF
    | apply b115_22 hF
    | apply b115_23 hF
    | exact k1 (by omega)
    | exact k0 (by omega)
    | with_reducible assumption
    | exact zI_nat _
    | exact zNb1
    | exact zNb0
    | omega
    | with_reducible rfl
    | exact zI_nI (by omega))
  apply b115_8 hF hl
  · rw [h, zI_sub]
    repeat' (first
      | (intro c; (try simp (disch := omega) only [zI_lt, zI_le, zI_eq, zI_0, zI_add, zI_sub, zI_mul, zI_neg, Int.reduceNeg, Int.reduceAdd, Int.reduceSub, Int.reduceMul, Decidable.not_not, Int.not_lt, Int.not_le, not_true_eq_false, not_false_eq_true] at c); (try (exfalso; omega)))
      | simp only [zI_add, zI_sub, zI_mul, zI_neg]
      | apply b115_0 hF
      | apply b115_4 hF
      | apply b115_8 hF
      | apply b115_18 hF
      | apply b115_22 hF
      | apply b115_23 hF
      | exact k1 (by omega)
      | exact k0 (by omega)
      | with_reducible assumption
      | exact zI_nat _
      | exact zNb1
      | exact zNb0
      | omega
      | with_reducible rfl
      | exact zI_nI (by omega))
  · rw [h, zI_sub]
    repeat' (first
      | (intro c; (try simp (disch := omega) only [zI_lt, zI_le, zI_eq, zI_0, zI_add, zI_sub, zI_mul, zI_neg, Int.reduceNeg, Int.reduceAdd, Int.reduceSub, Int.reduceMul, Decidable.not_not, Int.not_lt, Int.not_le, not_true_eq_false, not_false_eq_true] at c); (try (exfalso; omega)))
      | simp only [zI_add, zI_sub, zI_mul, zI_neg]
      | apply b115_0 hF
      | apply b115_4 hF
      | apply b115_8 hF
      | apply b115_18 hF
      | apply b115_22 hF
      | apply b115_23 hF
      | exact k1 (by omega)
      | exact k0 (by omega)
      | with_reducible assumption
      | exact zI_nat _
      | exact zNb1
      | exact zNb0
      | omega
      | with_reducible rfl
      | exact zI_nI (by omega))
theorem s114 {x : zXs} {F : zF} (hF : zSh F) {d : Nat} {V : Nat → Nat → Int32} {T : Nat → Nat → Int64} {Q : Option Value → zG → Prop} {l : Nat} (hl : zSt4 l) {so : Int} {sz : Nat} (h1 : V l 1 = Int32.ofInt so) (hso : -1 ≤ so ∧ so ≤ 2) (h2 : V l 2 = Int32.ofInt (sz : Int)) (hz : sz ≤ 40) {i : Int} (h_i : -2147483648 ≤ i ∧ i ≤ 2147483647) {v : Int32} (k1 : 0 ≤ i ∧ i < sz → Q (some (.int (Int32.ofInt 1))) (zu V (l + 1) i.toNat (yNarr so v), T)) (k0 : ¬ (0 ≤ i ∧ i < sz) → Q (some (.int (Int32.ofInt 0))) (V, T)) : E x F (d + 1) 114 0 [some (.ref l), some (.int (Int32.ofInt (i))), some (.int v)] [] (V, T) Q := by
  apply b114_0 hF hl
  refine s115 hF hl h2 hz h_i (n := 1) (by omega) ?_ ?_
  · intro c
    apply b114_6 hF
    rotate_left
    · intro c; exact absurd (by decide) c
    intro _
    obtain ⟨j, rfl⟩ : ∃ j : Nat, i = j := ⟨i.toNat, by omega⟩
    rw [Int.toNat_natCast] at k1
    have K := k1 (by omega)
    unfold yNarr at K
    have fin : ∀ (y : Int32) (o0 o1 o2 : Option Value), Q (some (.int (Int32.ofInt 1))) (zu V (l + 1) j y, T) → E x F (d + 1) 114 42 [o0, o1, o2] [.int y, .int (Int32.ofInt ((j:Int))), .ref (l + 1)] (V, T) Q := by
      intro y o0 o1 o2 hq
      exact b114_42 hF (zSt4_a0 hF hl) (by omega) (i1 := j) (zI_nat j) (by omega) hq
    apply b114_11 hF hl
    · rw [h1]
      intro c
      simp (disch := omega) only [zI_eq, zI_0] at c
      rw [if_neg c] at K
      apply b114_28 hF hl (zSt4_a0 hF hl) (by omega)
      · rw [h1]
        intro c
        simp (disch := omega) only [zI_eq] at c
        rw [if_neg c] at K
        apply b114_41 hF (zSt4_a0 hF hl) (by omega)
        exact fin _ _ _ _ K
      · rw [h1]
        intro c
        simp (disch := omega) only [zI_eq, Decidable.not_not] at c
        rw [if_pos c] at K
        apply b114_36 hF (zSt4_a0 hF hl) (by omega)
        exact fin _ _ _ _ K
    · rw [h1]
      intro c
      simp (disch := omega) only [zI_eq, zI_0, Decidable.not_not] at c
      rw [if_pos c] at K
      apply b114_23 hF (zSt4_a0 hF hl) (by omega)
      exact fin _ _ _ _ K
  · intro c
    apply b114_6 hF
    · intro c; exact absurd rfl c
    intro _
    exact b114_9 hF (k0 (by omega))
theorem s123 {x : zXs} {F : zF} (hF : zSh F) {d : Nat} {V : Nat → Nat → Int32} {T : Nat → Nat → Int64} {Q : Option Value → zG → Prop} {H : Nat → Int × Nat × (Nat → Int32)} (hw : zHw H) (hH : zHc V H) {s i : Int} (h_s : -2147483648 ≤ s ∧ s ≤ 2147483647) (h_i : -2147483648 ≤ i ∧ i ≤ 2147483647) {v : Int32} (k : ∀ V2, zHc V2 (yCellH H s i v) → (∀ a, (a < 51 ∨ 58 < a) → V2 a = V a) → Q (some (.int (Int32.ofInt (yCell H s i)))) (V2, T)) {o4 : Option Value} : E x F (d + 2) 123 0 [some (.ref 0), some (.int (Int32.ofInt (s))), some (.int (Int32.ofInt (i))), some (.int v), o4] [] (V, T) Q := by
  unfold yCellH yCell at k
  apply b123_0 hF
  refine s101 hF h_s ?_ ?_
  rotate_left
  · intro c
    rw [if_neg (by omega), if_neg c] at k
    apply b123_5 hF
    · intro c; exact absurd rfl c
    intro _
    exact b123_8 hF (k V hH (fun _ _ => rfl))
  intro c
  apply b123_5 hF
  rotate_left
  · intro c; exact absurd (by decide) c
  intro _
  obtain ⟨t, rfl⟩ : ∃ t : Nat, s = t := ⟨s.toNat, by omega⟩
  rw [Int.toNat_natCast] at k
  have ht : t < 4 := by omega
  have hl := zSt4_k ht
  obtain ⟨w1, w2⟩ := hw t ht
  obtain ⟨g1, g2, g3⟩ := hH t ht
  apply b123_11 hF (i1 := t) (zI_nat t) ht
  refine s102 hF hl w1 g1 ?_ ?_
  · intro c1
    rw [if_neg (by omega), if_pos c, if_pos c1] at k
    apply b123_24 hF
    · intro c; exact absurd c (by decide)
    intro _
    exact b123_27 hF (k V hH (fun _ _ => rfl))
  · intro c1
    apply b123_24 hF
    rotate_left
    · intro c; exact absurd rfl c
    intro _
    apply b123_30 hF hl
    refine s114 hF hl g1 w1 g2 w2 h_i ?_ ?_
    · intro c2
      rw [if_pos ⟨c, c1, c2⟩, if_pos c, if_neg c1, if_pos c2] at k
      apply b123_37 hF
      · intro c; exact absurd c (by decide)
      intro _
      apply b123_40 hF
      apply b123_46 hF
      apply k
      · intro q hq
        dsimp only
        by_cases hqt : q = t
        · subst hqt
          rw [if_pos rfl]
          dsimp only
          rw [zu_ne (by omega)]
          refine ⟨g1, g2, fun j hj => ?_⟩
          rw [zu_at]
          split
          · rfl
          · exact g3 j hj
        · rw [if_neg hqt, zu_ne (by omega), zu_ne (by omega)]
          exact hH q hq
      · intro a ha
        rw [zu_ne (by omega)]
    · intro c2
      rw [if_neg (by omega), if_pos c, if_neg c1, if_neg c2] at k
      apply b123_37 hF
      · intro _
        apply b123_44 hF
        exact b123_46 hF (k V hH (fun _ _ => rfl))
      · intro c; exact absurd rfl c
theorem s206 {x : zXs} {F : zF} (hF : zSh F) {d : Nat} {V : Nat → Nat → Int32} {T : Nat → Nat → Int64} {Q : Option Value → zG → Prop} {H : Nat → Int × Nat × (Nat → Int32)} (hw : zHw H) (hH : zHm V H) {s i : Int} (h_s : -2147483648 ≤ s ∧ s ≤ 2147483647) (h_i : -2147483648 ≤ i ∧ i ≤ 2147483647) {v : Int32} (k : ∀ V2, zHm V2 (yCellH H s i v) → (∀ a, (a < 77 ∨ 80 < a) → V2 a = V a) → Q (some (.int (Int32.ofInt (yCell H s i)))) (V2, T)) : E x F (d + 2) 206 0 [some (.ref 59), some (.int (Int32.ofInt (s))), some (.int (Int32.ofInt (i))), some (.int v)] [] (V, T) Q := by
  unfold yCellH yCell at k
  apply b206_0 hF
  refine s194 hF h_s ?_ ?_
  rotate_left
  · intro c
    rw [if_neg (by omega), if_neg c] at k
    apply b206_4 hF
    · intro c; exact absurd rfl c
    intro _
    exact b206_7 hF (k V hH (fun _ _ => rfl))
  intro c
  apply b206_4 hF
  rotate_left
  · intro c; exact absurd (by decide) c
  intro _
  obtain ⟨t, rfl⟩ : ∃ t : Nat, s = t := ⟨s.toNat, by omega⟩
  rw [Int.toNat_natCast] at k
  have ht : t < 4 := by omega
  obtain ⟨w1, w2⟩ := hw t ht
  obtain ⟨g1, g2⟩ := hH t ht
  apply b206_10 hF (i1 := t) (zI_nat t) ht
  rotate_left
  · intro c1
    have c1 := Decidable.not_not.mp c1
    have c2 : (H t).1 = -1 := by
      apply Decidable.byContradiction
      intro c3
      rw [if_neg c3] at g1
      rw [g1] at c1
      exact absurd c1 (by decide)
    rw [if_neg (by omega), if_pos c, if_pos c2] at k
    exact b206_19 hF (k V hH (fun _ _ => rfl))
  intro c1
  have c2 : ¬ (H t).1 = -1 := by
    intro c3
    rw [if_pos c3] at g1
    rw [g1] at c1
    exact c1 rfl
  obtain ⟨e1, e2, e3⟩ := g2 c2
  apply b206_22 hF (i1 := t) (zI_nat t) ht
  rw [e2, zI_sub, zJ_of (a := ((H t).2.1 : Int) - 1) (by omega)]
  refine s132v hF h_i (lo := 0) (hi := ((H t).2.1 : Int) - 1) (by omega) (by omega) ?_ ?_
  rotate_left
  · intro c3
    rw [if_neg (by omega), if_pos c, if_neg c2, if_neg (by omega)] at k
    apply b206_37 hF
    · intro c; exact absurd rfl c
    intro _
    exact b206_40 hF (k V hH (fun _ _ => rfl))
  intro c3
  apply b206_37 hF
  rotate_left
  · intro c; exact absurd (by decide) c
  intro _
  obtain ⟨j, rfl⟩ : ∃ j : Nat, i = j := ⟨i.toNat, by omega⟩
  rw [Int.toNat_natCast] at k
  rw [if_pos ⟨c, c2, by omega⟩, if_pos c, if_neg c2, if_pos (by omega)] at k
  have fin : ∀ (y : Int32) (o0 o1 o2 o3 : Option Value), y = yNarr (H t).1 v → E x F (d + 2) 206 83 [o0, o1, o2, o3] [.int y, .int (Int32.ofInt 40 * Int32.ofInt (t : Int) + Int32.ofInt (j : Int)), .ref 80] (V, T) Q := by
    intro y o0 o1 o2 o3 hy
    subst hy
    apply b206_83 hF (zsh_at hF rfl) (by omega) (i1 := 40 * t + j) (zI_40.trans (zI_nat _)) (by omega)
    apply k
    · intro q hq
      dsimp only
      by_cases hqt : q = t
      · subst hqt
        rw [if_pos rfl]
        unfold zHo
        rw [zu_ne (by omega), zu_ne (by omega), zu_ne (by omega)]
        dsimp only
        refine ⟨g1, fun _ => ⟨e1, e2, fun p hp => ?_⟩⟩
        rw [zu_at]
        by_cases hpj : p = j
        · subst hpj
          rw [if_pos rfl, if_pos rfl]
        · rw [if_neg (by omega), if_neg hpj]
          exact e3 p hp
      · rw [if_neg hqt]
        unfold zHo
        rw [zu_ne (by omega), zu_ne (by omega), zu_ne (by omega)]
        obtain ⟨f1, f2⟩ := hH q hq
        refine ⟨f1, fun hs => ⟨(f2 hs).1, (f2 hs).2.1, fun p hp => ?_⟩⟩
        have hp40 := (hw q hq).2
        rw [zuN_nk (by omega)]
        exact (f2 hs).2.2 p hp
    · intro a ha
      rw [zu_ne (by omega)]
  have eN : yNarr (H t).1 v = if (H t).1 = 0 then v.toInt8.toInt32 else if (H t).1 = 1 then v.toInt16.toInt32 else v := rfl
  apply b206_43 hF (i1 := t) (zI_nat t) ht
  · rw [e1]
    intro c
    simp (disch := omega) only [zI_eq, zI_0] at c
    rw [if_neg c] at eN
    apply b206_67 hF (zsh_at hF rfl) (by omega) (i1 := t) (zI_nat t) ht
    · rw [e1]
      intro c
      simp (disch := omega) only [zI_eq] at c
      rw [if_neg c] at eN
      exact b206_82 hF (zsh_at hF rfl) (by omega) (fin _ _ _ _ _ eN.symm)
    · rw [e1]
      intro c
      simp (disch := omega) only [zI_eq, Decidable.not_not] at c
      rw [if_pos c] at eN
      exact b206_77 hF (zsh_at hF rfl) (by omega) (fin _ _ _ _ _ eN.symm)
  · rw [e1]
    intro c
    simp (disch := omega) only [zI_eq, zI_0, Decidable.not_not] at c
    rw [if_pos c] at eN
    exact b206_62 hF (zsh_at hF rfl) (by omega) (fin _ _ _ _ _ eN.symm)
