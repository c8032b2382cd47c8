/-! set: the reference; run, asks, force, glean, night, count: both -/
theorem s137 {x : zXs} {F : zF} (hF : zSh F) {d : Nat} {V : Nat → Nat → Int32} {T : Nat → Nat → Int64} {Q : Option Value → zG → Prop} {v : Int} (h_v : -2147483648 ≤ v ∧ v ≤ 2147483647) (k : Q (some (.int (Int32.ofInt (if v = 1 then 9 else 999)))) (V, T)) : E x F d 137 0 [some (.int (Int32.ofInt (v)))] [] (V, T) Q := by
  repeat' (first
    | (intro c; (try simp (disch := omega) only [zI_lt, zI_le, zI_eq, zI_0, zI_add, zI_sub, zI_mul, zI_neg, Int.reduceNeg, Int.reduceAdd, Int.reduceSub, Int.reduceMul, Decidable.not_not, Int.not_lt, Int.not_le, not_true_eq_false, not_false_eq_true] at c); (try (exfalso; omega)))
    | simp only [zI_add, zI_sub, zI_mul, zI_neg]
    | apply b137_0 hF
    | apply b137_5 hF
    | apply b137_10 hF
    | apply b137_13 hF
    | (have := k; split at this <;> first | assumption | (exfalso; omega))
    | with_reducible assumption
    | exact zI_nat _
    | exact zNb1
    | exact zNb0
    | omega
    | with_reducible rfl
    | exact zI_nI (by omega))
/-- a thing laid into a state: 0 night, 1 number, 2 apron, 3 kind, 4 rule -/
def yLd (S : Nat → Nat → Nat) (sort who v : Nat) : Nat → Nat → Nat := if sort = 0 then zu S 5 1 v else if sort = 1 then zu S 3 who v else if sort = 2 then zu S 4 who v else if sort = 3 then zu S 2 who v else zu S 5 2 v
theorem s162 {x : zXs} {F : zF} (hF : zSh F) {d : Nat} {V : Nat → Nat → Int32} {T : Nat → Nat → Int64} {Q : Option Value → zG → Prop} {S : Nat → Nat → Nat} (hS : zMS V S) {sort v : Nat} (hs : sort ≤ 4) {who : Int} (hw : 0 < sort → sort < 4 → 0 ≤ who ∧ who < 5) (hk : ∀ V2, zMS V2 (yLd S sort who.toNat v) → (∀ a, a ≠ 59 → a ≠ 65 → a ≠ 66 → V2 a = V a) → (∀ j, j ≠ 4 → j ≠ 7 → V2 59 j = V 59 j) → Q none (V2, T)) : E x F d 162 0 [some (.ref 59), some (.int (Int32.ofInt (sort))), some (.int (Int32.ofInt (who))), some (.int (Int32.ofInt (v)))] [] (V, T) Q := by
  unfold yLd at hk
  apply b162_0 hF
  · intro c
    simp (disch := omega) only [zI_eq, zI_0] at c
    rw [if_neg (by omega)] at hk
    apply b162_12 hF
    · intro c1
      simp (disch := omega) only [zI_le] at c1
      rw [if_neg (by omega), if_neg (by omega)] at hk
      apply b162_33 hF
      · intro c2
        simp (disch := omega) only [zI_eq] at c2
        rw [if_neg (by omega)] at hk
        apply b162_48 hF
        apply b162_53 hF
        exact hk _ (zMS_z5 (i := 2) (by omega) hS) (fun a h1 h2 h3 => zu_ne h1) (fun j h1 h2 => zuN_nk h1)
      · intro c2
        simp (disch := omega) only [zI_eq, Decidable.not_not] at c2
        rw [if_pos (by omega)] at hk
        have hw2 := hw (by omega) (by omega)
        obtain ⟨i, rfl⟩ : ∃ i : Nat, who = i := ⟨who.toNat, by omega⟩
        rw [Int.toNat_natCast] at hk
        apply b162_38 hF (i1 := i) (zI_nat i) (by omega)
        apply b162_53 hF
        exact hk _ (zMS_z2 hS) (fun a h1 h2 h3 => zu_ne h2) (fun j h1 h2 => by rw [zu_ne (by omega)])
    · intro c1
      simp (disch := omega) only [zI_le] at c1
      have hw2 := hw (by omega) (by omega)
      obtain ⟨i, rfl⟩ : ∃ i : Nat, who = i := ⟨who.toNat, by omega⟩
      rw [Int.toNat_natCast] at hk
      have e : Int32.ofInt 2 * Int32.ofInt (i : Int) + Int32.ofInt (sort : Int) - Int32.ofInt 1 = Int32.ofInt ((2 * i + sort - 1 : Nat) : Int) := by
        rw [zI_mul, zI_add, zI_sub]; congr 1; omega
      apply b162_17 hF (i1 := 2 * i + sort - 1) (e.trans (zI_nat _)) (by omega)
      apply b162_53 hF
      by_cases h1 : sort = 1
      · subst h1
        rw [if_pos (by omega)] at hk
        rw [show 2 * i + 1 - 1 = 2 * i + 0 by omega]
        exact hk _ (zMS_z34 (f := 0) (by omega) hS) (fun a h1 h2 h3 => zu_ne h3) (fun j h1 h2 => by rw [zu_ne (by omega)])
      · have h2 : sort = 2 := by omega
        subst h2
        rw [if_neg (by omega), if_pos (by omega)] at hk
        rw [show 2 * i + 2 - 1 = 2 * i + 1 by omega]
        exact hk _ (zMS_z34 (f := 1) (by omega) hS) (fun a h1 h2 h3 => zu_ne h3) (fun j h1 h2 => by rw [zu_ne (by omega)])
  · intro c
    simp (disch := omega) only [zI_eq, zI_0, Decidable.not_not] at c
    rw [if_pos (by omega)] at hk
    apply b162_4 hF
    apply b162_53 hF
    exact hk _ (zMS_z5 (i := 1) (by omega) hS) (fun a h1 h2 h3 => zu_ne h1) (fun j h1 h2 => zuN_nk h2)
theorem s135 {x : zXs} {F : zF} (hF : zSh F) {d : Nat} {V : Nat → Nat → Int32} {T : Nat → Nat → Int64} {Q : Option Value → zG → Prop} {S : Nat → Nat → Nat} (hS : zMS V S) (hW : zWf S) {n : Nat} {w : Nat → Nat → (Nat → Int32) → Int32} (hR : zRd x F V n w) (hru : S 5 2 < n) {what who v : Int} (h_what : -2147483648 ≤ what ∧ what ≤ 2147483647) (h_who : -2147483648 ≤ who ∧ who ≤ 2147483647) (h_v : -2147483648 ≤ v ∧ v ≤ 2147483647) (k : ∀ V2 T2, zMS V2 (ySetS S what who v) → yFq V V2 → Q (some (.int (Int32.ofInt (ySet S what who v)))) (V2, T2)) {o4 : Option Value} : E x F (d + 54) 135 0 [some (.ref 59), some (.int (Int32.ofInt (what))), some (.int (Int32.ofInt (who))), some (.int (Int32.ofInt (v))), o4] [] (V, T) Q := by
  have h5 := hW.2.2.1
  have kb : ¬ ySetOk S what who v → Q (some (.int (Int32.ofInt (-2)))) (V, T) := by
    intro c
    have k0 := k V T (by unfold ySetS; rw [if_neg c]; exact hS) (yFq_rfl V)
    unfold ySet at k0
    rw [if_neg c] at k0
    exact k0
  have kb2 : ¬ ((what = 0 ∧ 0 ≤ v ∧ v ≤ 999) ∨ (what = 1 ∧ (0 ≤ who ∧ who < S 5 0) ∧ 0 ≤ v ∧ v ≤ 9) ∨ (what = 2 ∧ (0 ≤ who ∧ who < S 5 0) ∧ 0 ≤ v ∧ v ≤ 999)) → Q (some (.int (Int32.ofInt (-2)))) (V, T) := kb
  have good : ySetOk S what who v → E x F (d + 53 + 1) 135 41 [some (.ref 59), some (.int (Int32.ofInt (what))), some (.int (Int32.ofInt (who))), some (.int (Int32.ofInt (v))), o4] [] (V, T) Q := by
    intro c
    have c2 : (what = 0 ∧ 0 ≤ v ∧ v ≤ 999) ∨ (what = 1 ∧ (0 ≤ who ∧ who < S 5 0) ∧ 0 ≤ v ∧ v ≤ 9) ∨ (what = 2 ∧ (0 ≤ who ∧ who < S 5 0) ∧ 0 ≤ v ∧ v ≤ 999) := c
    obtain ⟨z, rfl⟩ : ∃ z : Nat, v = z := ⟨v.toNat, by omega⟩
    obtain ⟨m, rfl⟩ : ∃ m : Nat, what = m := ⟨what.toNat, by omega⟩
    apply b135_41 hF
    apply s138 hF hS hW hR hru h_who h_what
    intro V1 T1 hS1 f1
    apply b135_47 hF
    refine s162 hF hS1 (sort := m) (v := z) (by omega) (fun _ _ => by omega) ?_
    intro V2 hS2 f2 f3
    apply b135_56 hF
    have K := k V2 T1
    have e : yTold w S who (m : Int) = ySet S (m : Int) who (z : Int) := by
      unfold yTold ySet
      rw [if_pos c]
      split
      · rfl
      · rw [if_pos (by omega), if_pos (by omega)]
        split
        · rfl
        · rw [if_pos (by omega)]
    have e2 : ySetS S (m : Int) who (z : Int) = yLd S m who.toNat z := by
      unfold ySetS yLd
      rw [if_pos c, Int.toNat_natCast]
      by_cases h0 : m = 0
      · rw [if_pos (by omega), if_pos h0]
      · rw [if_neg (by omega), if_neg h0]
        by_cases h1 : m = 1
        · rw [if_pos (by omega), if_pos h1]
        · rw [if_neg (by omega), if_neg h1, if_pos (by omega)]
    rw [e]
    rw [e2] at K
    refine K hS2 ⟨?_, ?_⟩
    · intro a h1 h2
      rw [f2 a h1 (by omega) (by omega), f1.1 a h1 h2]
    · intro j hj
      rw [f3 j (by omega) (by omega), f1.2 j (by omega)]
  have good2 : ((what = 0 ∧ 0 ≤ v ∧ v ≤ 999) ∨ (what = 1 ∧ (0 ≤ who ∧ who < S 5 0) ∧ 0 ≤ v ∧ v ≤ 9) ∨ (what = 2 ∧ (0 ≤ who ∧ who < S 5 0) ∧ 0 ≤ v ∧ v ≤ 999)) → E x F (d + 53 + 1) 135 41 [some (.ref 59), some (.int (Int32.ofInt (what))), some (.int (Int32.ofInt (who))), some (.int (Int32.ofInt (v))), o4] [] (V, T) Q := good
  repeat' (first
    | (intro c; (try simp (disch := omega) only [zI_lt, zI_le, zI_eq, zI_0, zI_add, zI_sub, zI_mul, zI_neg, Int.reduceNeg, Int.reduceAdd, Int.reduceSub, Int.reduceMul, Decidable.not_not, Int.not_lt, Int.not_le, not_true_eq_false, not_false_eq_true] at c); (try (exfalso; omega)))
    | simp only [zI_add, zI_sub, zI_mul, zI_neg]
    | apply s132v hF h_what (lo := 0) (hi := 2) (by omega) (by omega)
    | apply s136 hF hS h5 h_who
    | apply b135_0 hF
    | apply b135_9 hF
    | apply b135_12 hF
    | apply b135_16 hF
    | apply b135_21 hF
    | apply b135_31 hF
    | apply b135_35 hF
    | apply b135_41 hF
    | apply b135_47 hF
    | apply b135_56 hF
    | with_reducible assumption
    | exact zI_nat _
    | exact zNb1
    | exact zNb0
    | omega
    | with_reducible rfl
    | exact zI_nI (by omega))
  all_goals try (apply b135_38 hF; exact kb2 (by omega))
  all_goals
    apply b135_24 hF
    apply s137 hF h_what
    apply b135_31 hF
    obtain ⟨M, hM, hM2⟩ : ∃ M : Int, (if what = 1 then (9 : Int) else 999) = M ∧ ((what = 1 ∧ M = 9) ∨ (¬ what = 1 ∧ M = 999)) := ⟨_, rfl, by split <;> omega⟩
    rw [hM, zJ_of (a := M) (by omega)]
    refine s132v hF (v := v) (lo := 0) (hi := M) h_v (by omega) (by omega) ?_ ?_
    · intro c
      apply b135_35 hF
      · intro _
        exact good2 (by omega)
      · intro c; exact absurd (by decide) c
    · intro c
      apply b135_35 hF
      · intro c; exact absurd rfl c
      · intro _
        exact b135_38 hF (kb2 (by omega))
def yRun (S : Nat → Nat → Nat) (row j : Int) : Int := if (0 ≤ row ∧ row ≤ 3) ∧ 0 ≤ j ∧ j < zrn (zgb S row.toNat) 24 then (zsz (zgb S row.toNat) j.toNat 24 : Int) else -2
theorem s36 {x : zXs} {F : zF} (hF : zSh F) {d : Nat} {V : Nat → Nat → Int32} {T : Nat → Nat → Int64} {Q : Option Value → zG → Prop} {S : Nat → Nat → Nat} (hS : zCS 1 V S) (hW : zWf S) {row j : Int} (h_row : -2147483648 ≤ row ∧ row ≤ 2147483647) (h_j : -2147483648 ≤ j ∧ j ≤ 2147483647) (k : Q (some (.int (Int32.ofInt (yRun S row j)))) (V, T)) : E x F (d + 2) 36 0 [some (.ref 0), some (.int (Int32.ofInt (row))), some (.int (Int32.ofInt (j)))] [] (V, T) Q := by
  have hb : zSt 1 := Or.inl rfl
  unfold yRun at k
  repeat' (first
    | (intro c; (try simp (disch := omega) only [zI_lt, zI_le, zI_eq, zI_0, zI_add, zI_sub, zI_mul, zI_neg, Int.reduceNeg, Int.reduceAdd, Int.reduceSub, Int.reduceMul, Decidable.not_not, Int.not_lt, Int.not_le, not_true_eq_false, not_false_eq_true] at c); (try (exfalso; omega)))
    | simp only [zI_add, zI_sub, zI_mul, zI_neg]
    | apply s12 hF h_row
    | apply b36_0 hF
    | apply b36_8 hF
    | apply b36_21 hF
    | apply b36_26 hF
    | apply b36_32 hF
    | apply b36_41 hF
    | with_reducible assumption
    | exact zI_nat _
    | exact zNb1
    | exact zNb0
    | omega
    | with_reducible rfl
    | exact zI_nI (by omega))
  rotate_left
  · rw [if_neg (by omega)] at k
    exact b36_29 hF k
  · obtain ⟨r, rfl⟩ : ∃ r : Nat, row = r := ⟨row.toNat, by omega⟩
    rw [Int.toNat_natCast] at k
    have hz := zrn_le (zgb S r) 24
    apply b36_11 hF
    apply s32 hF hb hS hW (by omega)
    apply b36_21 hF
    rw [zI_sub]
    repeat' (first
      | (intro c; (try simp (disch := omega) only [zI_lt, zI_le, zI_eq, zI_0, zI_add, zI_sub, zI_mul, zI_neg, Int.reduceNeg, Int.reduceAdd, Int.reduceSub, Int.reduceMul, Decidable.not_not, Int.not_lt, Int.not_le, not_true_eq_false, not_false_eq_true] at c); (try (exfalso; omega)))
      | simp only [zI_add, zI_sub, zI_mul, zI_neg]
      | apply s7 hF h_j (by omega) (by omega)
      | apply b36_8 hF
      | apply b36_26 hF
      | apply b36_41 hF
      | with_reducible assumption
      | exact zI_nat _
      | exact zNb1
      | exact zNb0
      | omega
      | with_reducible rfl
      | exact zI_nI (by omega))
    · rw [if_pos (by omega)] at k
      obtain ⟨i, rfl⟩ : ∃ i : Nat, j = i := ⟨j.toNat, by omega⟩
      rw [Int.toNat_natCast] at k
      apply b36_32 hF
      apply s34 hF hb hS hW (by omega) (by omega)
      exact b36_41 hF k
    · rw [if_neg (by omega)] at k
      exact b36_29 hF k
theorem s167 {x : zXs} {F : zF} (hF : zSh F) {d : Nat} {V : Nat → Nat → Int32} {T : Nat → Nat → Int64} {Q : Option Value → zG → Prop} {S : Nat → Nat → Nat} (hS : zMS V S) (hW : zWf S) {row j : Int} (h_row : -2147483648 ≤ row ∧ row ≤ 2147483647) (h_j : -2147483648 ≤ j ∧ j ≤ 2147483647) (k : ∀ V2, zMS V2 S → yFr V V2 → Q (some (.int (Int32.ofInt (yRun S row j)))) (V2, T)) : E x F (d + 2) 167 0 [some (.ref 59), some (.int (Int32.ofInt (row))), some (.int (Int32.ofInt (j)))] [] (V, T) Q := by
  unfold yRun at k
  repeat' (first
    | (intro c; (try simp (disch := omega) only [zI_lt, zI_le, zI_eq, zI_0, zI_add, zI_sub, zI_mul, zI_neg, Int.reduceNeg, Int.reduceAdd, Int.reduceSub, Int.reduceMul, Decidable.not_not, Int.not_lt, Int.not_le, not_true_eq_false, not_false_eq_true] at c); (try (exfalso; omega)))
    | simp only [zI_add, zI_sub, zI_mul, zI_neg]
    | apply s131 hF h_row
    | apply b167_0 hF
    | apply b167_4 hF
    | apply b167_15 hF
    | apply b167_21 hF
    | apply b167_24 hF
    | apply b167_35 hF
    | with_reducible assumption
    | exact zI_nat _
    | exact zNb1
    | exact zNb0
    | omega
    | with_reducible rfl
    | exact zI_nI (by omega))
  rotate_left
  · rw [if_neg (by omega)] at k
    exact b167_33 hF (b167_35 hF (k V hS (yFr_rfl V)))
  · obtain ⟨r, rfl⟩ : ∃ r : Nat, row = r := ⟨row.toNat, by omega⟩
    rw [Int.toNat_natCast] at k
    have hz := zrn_le (zgb S r) 24
    apply b167_7 hF
    apply s158m hF hS hW (by omega)
    intro V2 h68 hf
    have K := k V2 (zMS_67 hS hf) (yFr_67 hf)
    apply b167_15 hF
    rw [zI_sub, zJ_of (a := (zrn (zgb S r) 24 : Int) - 1) (by omega)]
    repeat' (first
      | (intro c; (try simp (disch := omega) only [zI_lt, zI_le, zI_eq, zI_0, zI_add, zI_sub, zI_mul, zI_neg, Int.reduceNeg, Int.reduceAdd, Int.reduceSub, Int.reduceMul, Decidable.not_not, Int.not_lt, Int.not_le, not_true_eq_false, not_false_eq_true] at c); (try (exfalso; omega)))
      | simp only [zI_add, zI_sub, zI_mul, zI_neg]
      | apply s132v hF h_j (lo := 0) (hi := (zrn (zgb S r) 24 : Int) - 1) (by omega) (by omega)
      | apply b167_4 hF
      | apply b167_21 hF
      | apply b167_35 hF
      | with_reducible assumption
      | exact zI_nat _
      | exact zNb1
      | exact zNb0
      | omega
      | with_reducible rfl
      | exact zI_nI (by omega))
    · rw [if_pos (by omega)] at K
      obtain ⟨i, rfl⟩ : ∃ i : Nat, j = i := ⟨j.toNat, by omega⟩
      rw [Int.toNat_natCast] at K
      apply b167_24 hF (i1 := i) (zI_nat i) (by omega)
      rw [h68 i (by omega)]
      exact b167_35 hF K
    · rw [if_neg (by omega)] at K
      exact b167_33 hF (b167_35 hF K)
def yAsks (w : Nat → Nat → (Nat → Int32) → Int32) (S : Nat → Nat → Nat) (one g : Int) : Int := if (0 ≤ one ∧ one < S 5 0) ∧ 1 ≤ g ∧ g ≤ 24 then yWant S one.toNat g.toNat (yTk w S one.toNat g.toNat 0 24) else -100
theorem s37 {x : zXs} {F : zF} (hF : zSh F) {d : Nat} {V : Nat → Nat → Int32} {T : Nat → Nat → Int64} {Q : Option Value → zG → Prop} {S : Nat → Nat → Nat} (hS : zCS 1 V S) (hW : zWf S) {n : Nat} {w : Nat → Nat → (Nat → Int32) → Int32} (hR : zRu V n w) (hru : S 5 2 < n) {one g : Int} (h_one : -2147483648 ≤ one ∧ one ≤ 2147483647) (h_g : -2147483648 ≤ g ∧ g ≤ 2147483647) (k : ∀ V2, (∀ a, a ≠ 22 → a ≠ 23 → V2 a = V a) → Q (some (.int (Int32.ofInt (yAsks w S one g)))) (V2, T)) : E x F (d + 3) 37 0 [some (.ref 0), some (.int (Int32.ofInt (one))), some (.int (Int32.ofInt (g)))] [] (V, T) Q := by
  have hb : zSt 1 := Or.inl rfl
  have h5 := hW.2.2.1
  have k0 := k V (fun _ _ _ => rfl)
  unfold yAsks at k k0
  have kb : ¬ ((0 ≤ one ∧ one < S 5 0) ∧ 1 ≤ g ∧ g ≤ 24) → Q (some (.int (Int32.ofInt (-100)))) (V, T) := by
    intro c
    rw [if_neg c] at k0
    exact k0
  repeat' (first
    | (intro c; (try simp (disch := omega) only [zI_lt, zI_le, zI_eq, zI_0, zI_add, zI_sub, zI_mul, zI_neg, Int.reduceNeg, Int.reduceAdd, Int.reduceSub, Int.reduceMul, Decidable.not_not, Int.not_lt, Int.not_le, not_true_eq_false, not_false_eq_true] at c); (try (exfalso; omega)))
    | simp only [zI_add, zI_sub, zI_mul, zI_neg]
    | apply s19 hF hb hS hW h_one
    | apply s7 hF h_g (by omega) (by omega)
    | apply b37_0 hF
    | apply b37_8 hF
    | apply b37_11 hF
    | apply b37_18 hF
    | apply b37_21 hF
    | apply b37_50 hF
    | apply b37_53 hF
    | exact kb (by omega)
    | with_reducible assumption
    | exact zI_nat _
    | exact zNb1
    | exact zNb0
    | omega
    | with_reducible rfl
    | exact zI_nI (by omega))
  rw [if_pos (by omega)] at k
  obtain ⟨i, rfl⟩ : ∃ i : Nat, one = i := ⟨one.toNat, by omega⟩
  obtain ⟨a, rfl⟩ : ∃ a : Nat, g = a := ⟨g.toNat, by omega⟩
  rw [Int.toNat_natCast, Int.toNat_natCast] at k
  apply b37_24 hF
  refine s38 hF hb hS hW.2.1 hR hru (nth := 0) (len := 24) (by omega) ?_
  intro V2 f2
  apply b37_50 hF hb
  have hv := yTk_in w S i a 0 24
  apply s39 hF hb (zCS_fr hS (fun a h1 h2 => f2 a (by omega) (by omega))) hW.2.1 (by omega) (by omega) hv
  exact b37_53 hF (k V2 f2)
theorem s168 {x : zXs} {F : zF} (hF : zSh F) {d : Nat} {V : Nat → Nat → Int32} {T : Nat → Nat → Int64} {Q : Option Value → zG → Prop} {S : Nat → Nat → Nat} (hS : zMS V S) (hW : zWf S) {n : Nat} {w : Nat → Nat → (Nat → Int32) → Int32} (hR : zRd x F V n w) (hru : S 5 2 < n) {one g : Int} (h_one : -2147483648 ≤ one ∧ one ≤ 2147483647) (h_g : -2147483648 ≤ g ∧ g ≤ 2147483647) (k : ∀ V2 T2, zMS V2 S → yFr V V2 → Q (some (.int (Int32.ofInt (yAsks w S one g)))) (V2, T2)) : E x F (d + 53) 168 0 [some (.ref 59), some (.int (Int32.ofInt (one))), some (.int (Int32.ofInt (g)))] [] (V, T) Q := by
  have h5 := hW.2.2.1
  have k0 := k V T hS (yFr_rfl V)
  unfold yAsks at k k0
  have kb : ¬ ((0 ≤ one ∧ one < S 5 0) ∧ 1 ≤ g ∧ g ≤ 24) → Q (some (.int (Int32.ofInt (-100)))) (V, T) := by
    intro c
    rw [if_neg c] at k0
    exact k0
  repeat' (first
    | (intro c; (try simp (disch := omega) only [zI_lt, zI_le, zI_eq, zI_0, zI_add, zI_sub, zI_mul, zI_neg, Int.reduceNeg, Int.reduceAdd, Int.reduceSub, Int.reduceMul, Decidable.not_not, Int.not_lt, Int.not_le, not_true_eq_false, not_false_eq_true] at c); (try (exfalso; omega)))
    | simp only [zI_add, zI_sub, zI_mul, zI_neg]
    | apply s136 hF hS h5 h_one
    | apply s132v hF h_g (lo := 1) (hi := 24) (by omega) (by omega)
    | apply b168_0 hF
    | apply b168_5 hF
    | apply b168_8 hF
    | apply b168_17 hF
    | apply b168_29 hF
    | apply b168_32 hF
    | apply b168_34 hF
    | exact kb (by omega)
    | with_reducible assumption
    | exact zI_nat _
    | exact zNb1
    | exact zNb0
    | omega
    | with_reducible rfl
    | exact zI_nI (by omega))
  simp (disch := omega) only [if_pos] at k
  obtain ⟨i, rfl⟩ : ∃ i : Nat, one = i := ⟨one.toNat, by omega⟩
  obtain ⟨a, rfl⟩ : ∃ a : Nat, g = a := ⟨g.toNat, by omega⟩
  rw [Int.toNat_natCast, Int.toNat_natCast] at k
  apply b168_20 hF
  apply s169 hF hR hS hW.2.1 hru (nth := 0) (len := 24) (by omega) (by omega)
  intro V2 T2 f1 f2
  exact b168_29 hF (b168_34 hF (k V2 T2 (zMS_59 hS f1 f2) (yFr_59 f1 f2)))
def yForceS (S : Nat → Nat → Nat) (n : Nat) (t : Int) : Nat → Nat → Nat := if 0 ≤ t ∧ t < n then zu S 5 2 t.toNat else S
def yForce (S : Nat → Nat → Nat) (n : Nat) (t : Int) : Int := if 0 ≤ t ∧ t < n then (S 5 2 : Int) else -2
theorem s72 {x : zXs} {F : zF} (hF : zSh F) {d : Nat} {V : Nat → Nat → Int32} {T : Nat → Nat → Int64} {Q : Option Value → zG → Prop} {S : Nat → Nat → Nat} (hS : zCS 1 V S) (hW : zWf S) {n : Nat} (hn : V 20 3 = Int32.ofInt (n : Int)) (h6 : n ≤ 6) {t : Int} (h_t : -2147483648 ≤ t ∧ t ≤ 2147483647) (k : ∀ V2, zCS 1 V2 (yForceS S n t) → yFn V V2 → Q (some (.int (Int32.ofInt (yForce S n t)))) (V2, T)) {o2 : Option Value} : E x F (d + 1) 72 0 [some (.ref 0), some (.int (Int32.ofInt (t))), o2] [] (V, T) Q := by
  unfold yForce yForceS at k
  apply b72_0 hF
  rw [hn, zI_sub]
  repeat' (first
    | (intro c; (try simp (disch := omega) only [zI_lt, zI_le, zI_eq, zI_0, zI_add, zI_sub, zI_mul, zI_neg, Int.reduceNeg, Int.reduceAdd, Int.reduceSub, Int.reduceMul, Decidable.not_not, Int.not_lt, Int.not_le, not_true_eq_false, not_false_eq_true] at c); (try (exfalso; omega)))
    | simp only [zI_add, zI_sub, zI_mul, zI_neg]
    | apply s7 hF h_t (by omega) (by omega)
    | apply b72_14 hF
    | with_reducible assumption
    | exact zI_nat _
    | exact zNb1
    | exact zNb0
    | omega
    | with_reducible rfl
    | exact zI_nI (by omega))
  · rw [if_pos (by omega), if_pos (by omega)] at k
    obtain ⟨i, rfl⟩ : ∃ i : Nat, t = i := ⟨t.toNat, by omega⟩
    rw [Int.toNat_natCast] at k
    apply b72_20 hF
    rw [hS.2.2.2.2.2.2.2]
    exact k _ (zCS_z5 (i := 2) (by omega) hS) (fun a h1 h2 h3 h4 h5 h6 h7 => zu_ne (by omega))
  · rw [if_neg (by omega), if_neg (by omega)] at k
    exact b72_17 hF (k V hS (yFn_rfl V))
theorem s166 {x : zXs} {F : zF} (hF : zSh F) {d : Nat} {V : Nat → Nat → Int32} {T : Nat → Nat → Int64} {Q : Option Value → zG → Prop} {S : Nat → Nat → Nat} (hS : zMS V S) (hW : zWf S) {n : Nat} (hn : V 59 3 = Int32.ofInt (n : Int)) (h6 : n ≤ 6) {t : Int} (h_t : -2147483648 ≤ t ∧ t ≤ 2147483647) (k : ∀ V2, zMS V2 (yForceS S n t) → yFq V V2 → Q (some (.int (Int32.ofInt (yForce S n t)))) (V2, T)) {o2 : Option Value} : E x F (d + 1) 166 0 [some (.ref 59), some (.int (Int32.ofInt (t))), o2] [] (V, T) Q := by
  unfold yForce yForceS at k
  apply b166_0 hF
  rw [hn, zI_sub, zJ_of (a := (n : Int) - 1) (by omega)]
  repeat' (first
    | (intro c; (try simp (disch := omega) only [zI_lt, zI_le, zI_eq, zI_0, zI_add, zI_sub, zI_mul, zI_neg, Int.reduceNeg, Int.reduceAdd, Int.reduceSub, Int.reduceMul, Decidable.not_not, Int.not_lt, Int.not_le, not_true_eq_false, not_false_eq_true] at c); (try (exfalso; omega)))
    | simp only [zI_add, zI_sub, zI_mul, zI_neg]
    | apply s132v hF h_t (lo := 0) (hi := (n : Int) - 1) (by omega) (by omega)
    | apply b166_13 hF
    | with_reducible assumption
    | exact zI_nat _
    | exact zNb1
    | exact zNb0
    | omega
    | with_reducible rfl
    | exact zI_nI (by omega))
  · rw [if_pos (by omega), if_pos (by omega)] at k
    obtain ⟨i, rfl⟩ : ∃ i : Nat, t = i := ⟨t.toNat, by omega⟩
    rw [Int.toNat_natCast] at k
    apply b166_19 hF
    rw [hS.2.2.2.2.2.2.2]
    exact k _ (zMS_z5 (i := 2) (by omega) hS) ⟨fun a h1 h2 => by simp (disch := omega) only [zu_ne], fun j hj => zuN_nk (by omega)⟩
  · rw [if_neg (by omega), if_neg (by omega)] at k
    exact b166_16 hF (k V hS (yFq_rfl V))
def yGlnS (w : Nat → Nat → (Nat → Int32) → Int32) (S : Nat → Nat → Nat) (one row : Int) : Nat → Nat → Nat := if (0 ≤ one ∧ one < S 5 0) ∧ 0 ≤ row ∧ row ≤ 3 then yGS w S one.toNat row.toNat else S
def yGln (w : Nat → Nat → (Nat → Int32) → Int32) (S : Nat → Nat → Nat) (one row : Int) : Int := if (0 ≤ one ∧ one < S 5 0) ∧ 0 ≤ row ∧ row ≤ 3 then (yGl w S one.toNat (S 0 row.toNat) (S 1 row.toNat)).2.2.2.2.2.2.1 else -100
theorem s73 {x : zXs} {F : zF} (hF : zSh F) {d : Nat} {V : Nat → Nat → Int32} {T : Nat → Nat → Int64} {Q : Option Value → zG → Prop} {S : Nat → Nat → Nat} (hS : zCS 1 V S) (hW : zWf S) {n : Nat} {w : Nat → Nat → (Nat → Int32) → Int32} (hR : zRu V n w) (hru : S 5 2 < n) {one row : Int} (h_one : -2147483648 ≤ one ∧ one ≤ 2147483647) (h_row : -2147483648 ≤ row ∧ row ≤ 2147483647) (k : ∀ V2, zCS 1 V2 (yGlnS w S one row) → yFn V V2 → Q (some (.int (Int32.ofInt (yGln w S one row)))) (V2, T)) : E x F (d + 4) 73 0 [some (.ref 0), some (.int (Int32.ofInt (one))), some (.int (Int32.ofInt (row)))] [] (V, T) Q := by
  have hb : zSt 1 := Or.inl rfl
  have h5 := hW.2.2.1
  unfold yGln yGlnS at k
  have kb : ¬ ((0 ≤ one ∧ one < S 5 0) ∧ 0 ≤ row ∧ row ≤ 3) → Q (some (.int (Int32.ofInt (-100)))) (V, T) := by
    intro c
    rw [if_neg c, if_neg c] at k
    exact k V hS (yFn_rfl V)
  repeat' (first
    | (intro c; (try simp (disch := omega) only [zI_lt, zI_le, zI_eq, zI_0, zI_add, zI_sub, zI_mul, zI_neg, Int.reduceNeg, Int.reduceAdd, Int.reduceSub, Int.reduceMul, Decidable.not_not, Int.not_lt, Int.not_le, not_true_eq_false, not_false_eq_true] at c); (try (exfalso; omega)))
    | simp only [zI_add, zI_sub, zI_mul, zI_neg]
    | apply s19 hF hb hS hW h_one
    | apply s12 hF h_row
    | apply b73_0 hF
    | apply b73_8 hF
    | apply b73_11 hF
    | apply b73_19 hF
    | apply b73_22 hF
    | apply b73_38 hF
    | exact kb (by omega)
    | with_reducible assumption
    | exact zI_nat _
    | exact zNb1
    | exact zNb0
    | omega
    | with_reducible rfl
    | exact zI_nI (by omega))
  rw [if_pos (by omega), if_pos (by omega)] at k
  obtain ⟨i, rfl⟩ : ∃ i : Nat, one = i := ⟨one.toNat, by omega⟩
  obtain ⟨r, rfl⟩ : ∃ r : Nat, row = r := ⟨row.toNat, by omega⟩
  rw [Int.toNat_natCast, Int.toNat_natCast] at k
  apply b73_25 hF
  apply s74 hF hb hS hW hR hru (by omega) (by omega)
  intro V2 hS2 _ _ f2
  exact b73_38 hF (k V2 hS2 (fun a h1 h2 h3 h4 h5 h6 h7 => f2 a (by omega) h2 h3 h4 h5))
theorem s170 {x : zXs} {F : zF} (hF : zSh F) {d : Nat} {V : Nat → Nat → Int32} {T : Nat → Nat → Int64} {Q : Option Value → zG → Prop} {S : Nat → Nat → Nat} (hS : zMS V S) (hW : zWf S) {n : Nat} {w : Nat → Nat → (Nat → Int32) → Int32} (hR : zRd x F V n w) (hru : S 5 2 < n) {one row : Int} (h_one : -2147483648 ≤ one ∧ one ≤ 2147483647) (h_row : -2147483648 ≤ row ∧ row ≤ 2147483647) (k : ∀ V2 T2, zMS V2 (yGlnS w S one row) → yFq V V2 → Q (some (.int (Int32.ofInt (yGln w S one row)))) (V2, T2)) : E x F (d + 54) 170 0 [some (.ref 59), some (.int (Int32.ofInt (one))), some (.int (Int32.ofInt (row)))] [] (V, T) Q := by
  have h5 := hW.2.2.1
  unfold yGln yGlnS at k
  have kb : ¬ ((0 ≤ one ∧ one < S 5 0) ∧ 0 ≤ row ∧ row ≤ 3) → Q (some (.int (Int32.ofInt (-100)))) (V, T) := by
    intro c
    rw [if_neg c, if_neg c] at k
    exact k V T hS (yFq_rfl V)
  repeat' (first
    | (intro c; (try simp (disch := omega) only [zI_lt, zI_le, zI_eq, zI_0, zI_add, zI_sub, zI_mul, zI_neg, Int.reduceNeg, Int.reduceAdd, Int.reduceSub, Int.reduceMul, Decidable.not_not, Int.not_lt, Int.not_le, not_true_eq_false, not_false_eq_true] at c); (try (exfalso; omega)))
    | simp only [zI_add, zI_sub, zI_mul, zI_neg]
    | apply s136 hF hS h5 h_one
    | apply s131 hF h_row
    | apply b170_0 hF
    | apply b170_5 hF
    | apply b170_8 hF
    | apply b170_12 hF
    | apply b170_21 hF
    | apply b170_24 hF
    | apply b170_26 hF
    | exact kb (by omega)
    | with_reducible assumption
    | exact zI_nat _
    | exact zNb1
    | exact zNb0
    | omega
    | with_reducible rfl
    | exact zI_nI (by omega))
  rw [if_pos (by omega), if_pos (by omega)] at k
  obtain ⟨i, rfl⟩ : ∃ i : Nat, one = i := ⟨one.toNat, by omega⟩
  obtain ⟨r, rfl⟩ : ∃ r : Nat, row = r := ⟨row.toNat, by omega⟩
  rw [Int.toNat_natCast, Int.toNat_natCast] at k
  apply b170_15 hF
  apply s171 hF hR hS hW.2.1 hru (by omega) (by omega) (hW.1 r (by omega)).1 (hW.1 r (by omega)).2
  intro V2 T2 hS2 _ _ f1 f2
  exact b170_21 hF (b170_26 hF (k V2 T2 hS2 ⟨fun a h1 h2 => f1 a h1 (by omega) (by omega) (by omega) (by omega) (by omega) (by omega), fun j hj => f2 j (by omega)⟩))
def yNgtS (w : Nat → Nat → (Nat → Int32) → Int32) (S : Nat → Nat → Nat) : Nat → Nat → Nat := if S 5 1 < 999 then yNi w S else S
def yNgt (w : Nat → Nat → (Nat → Int32) → Int32) (S : Nat → Nat → Nat) : Int := if S 5 1 < 999 then (zll (yNi w S) 4 : Int) else -3
theorem s79 {x : zXs} {F : zF} (hF : zSh F) {d : Nat} {V : Nat → Nat → Int32} {T : Nat → Nat → Int64} {Q : Option Value → zG → Prop} {S : Nat → Nat → Nat} (hS : zCS 1 V S) (hW : zWf S) {n : Nat} {w : Nat → Nat → (Nat → Int32) → Int32} (hR : zRu V n w) (hru : S 5 2 < n) (hn : S 5 1 ≤ 999) (k : ∀ V2, zCS 1 V2 (yNgtS w S) → yFn V V2 → Q (some (.int (Int32.ofInt (yNgt w S)))) (V2, T)) : E x F (d + 5) 79 0 [some (.ref 0)] [] (V, T) Q := by
  have hb : zSt 1 := Or.inl rfl
  unfold yNgt yNgtS at k
  apply b79_0 hF
  · rw [hS.2.2.2.2.2.2.1]
    intro c
    simp (disch := omega) only [zI_lt] at c
    rw [if_pos (by omega), if_pos (by omega)] at k
    apply b79_16 hF
    apply s80 hF hb hS hW hR hru
    intro V2 hS2 f2
    apply b79_27 hF
    apply s81 hF hb hS2 (yNi_wf hW (by omega))
    exact b79_34 hF (k V2 hS2 (fun a h1 h2 h3 h4 h5 h6 h7 => f2 a (by omega) h3 h4))
  · rw [hS.2.2.2.2.2.2.1]
    intro c
    simp (disch := omega) only [zI_lt] at c
    rw [if_neg (by omega), if_neg (by omega)] at k
    exact b79_13 hF (k V hS (yFn_rfl V))
theorem s175 {x : zXs} {F : zF} (hF : zSh F) {d : Nat} {V : Nat → Nat → Int32} {T : Nat → Nat → Int64} {Q : Option Value → zG → Prop} {S : Nat → Nat → Nat} (hS : zMS V S) (hW : zWf S) {n : Nat} {w : Nat → Nat → (Nat → Int32) → Int32} (hR : zRd x F V n w) (hru : S 5 2 < n) (hn : S 5 1 ≤ 999) (k : ∀ V2 T2, zMS V2 (yNgtS w S) → yFq V V2 → Q (some (.int (Int32.ofInt (yNgt w S)))) (V2, T2)) : E x F (d + 54) 175 0 [some (.ref 59)] [] (V, T) Q := by
  unfold yNgt yNgtS at k
  apply b175_0 hF
  · rw [hS.2.2.2.2.2.2.1]
    intro c
    simp (disch := omega) only [zI_eq] at c
    rw [if_pos (by omega), if_pos (by omega)] at k
    apply b175_13 hF
    apply s176 hF hR hS hW hru
    intro V2 T2 hS2 f1 f2
    apply b175_17 hF
    apply s177 hF hS2 (yNi_wf hW (by omega))
    exact b175_21 hF (k V2 T2 hS2 ⟨fun a h1 h2 => f1 a h1 (by omega) (by omega) (by omega) (by omega), fun j hj => f2 j (by omega)⟩)
  · rw [hS.2.2.2.2.2.2.1]
    intro c
    simp (disch := omega) only [zI_eq, Decidable.not_not] at c
    rw [if_neg (by omega), if_neg (by omega)] at k
    exact b175_10 hF (k V T hS (yFq_rfl V))
def yCount (S : Nat → Nat → Nat) (n tn : Nat) (what : Int) : Int := if what = 0 then (S 5 0 : Int) else if what = 1 then (zll S 4 : Int) else if what = 2 then (S 5 1 : Int) else if what = 3 then (n : Int) else if what = 4 then (tn : Int) else if what = 5 then (S 5 2 : Int) else -2
theorem s121 {x : zXs} {F : zF} (hF : zSh F) {d : Nat} {V : Nat → Nat → Int32} {T : Nat → Nat → Int64} {Q : Option Value → zG → Prop} {S : Nat → Nat → Nat} (hS : zCS 1 V S) (hW : zWf S) {n tn : Nat} (hn : V 20 3 = Int32.ofInt (n : Int)) (ht : V 45 1 = Int32.ofInt (tn : Int)) {what : Int} (h_what : -2147483648 ≤ what ∧ what ≤ 2147483647) (k : Q (some (.int (Int32.ofInt (yCount S n tn what)))) (V, T)) : E x F (d + 3) 121 0 [some (.ref 0), some (.int (Int32.ofInt (what)))] [] (V, T) Q := by
  have hb : zSt 1 := Or.inl rfl
  unfold yCount at k
  apply b121_0 hF
  · intro c
    simp (disch := omega) only [zI_eq] at c
    rw [if_pos (by omega)] at k
    apply b121_40 hF
    rw [hS.2.2.2.2.2.1]
    exact k
  · intro c
    simp (disch := omega) only [zI_eq] at c
    rw [if_neg (by omega), if_pos (by omega)] at k
    apply b121_48 hF
    apply s81 hF hb hS hW
    exact b121_55 hF k
  · intro c
    simp (disch := omega) only [zI_eq] at c
    rw [if_neg (by omega), if_neg (by omega), if_pos (by omega)] at k
    apply b121_56 hF
    rw [hS.2.2.2.2.2.2.1]
    exact k
  · intro c
    simp (disch := omega) only [zI_eq] at c
    rw [if_neg (by omega), if_neg (by omega), if_neg (by omega), if_pos (by omega)] at k
    apply b121_64 hF
    rw [hn]
    exact k
  · intro c
    simp (disch := omega) only [zI_eq] at c
    rw [if_neg (by omega), if_neg (by omega), if_neg (by omega), if_neg (by omega), if_pos (by omega)] at k
    apply b121_72 hF
    rw [ht]
    exact k
  · intro c
    simp (disch := omega) only [zI_eq] at c
    rw [if_neg (by omega), if_neg (by omega), if_neg (by omega), if_neg (by omega), if_neg (by omega), if_pos (by omega)] at k
    apply b121_80 hF
    rw [hS.2.2.2.2.2.2.2]
    exact k
  · intro c
    simp (disch := omega) only [zI_eq] at c
    rw [if_neg (by omega), if_neg (by omega), if_neg (by omega), if_neg (by omega), if_neg (by omega), if_neg (by omega)] at k
    exact b121_88 hF k
theorem s205 {x : zXs} {F : zF} (hF : zSh F) {d : Nat} {V : Nat → Nat → Int32} {T : Nat → Nat → Int64} {Q : Option Value → zG → Prop} {S : Nat → Nat → Nat} (hS : zMS V S) (hW : zWf S) {n tn : Nat} (hn : V 59 3 = Int32.ofInt (n : Int)) (ht : V 59 6 = Int32.ofInt (tn : Int)) {what : Int} (h_what : -2147483648 ≤ what ∧ what ≤ 2147483647) (k : Q (some (.int (Int32.ofInt (yCount S n tn what)))) (V, T)) : E x F (d + 3) 205 0 [some (.ref 59), some (.int (Int32.ofInt (what)))] [] (V, T) Q := by
  unfold yCount at k
  repeat' (first
    | (intro c; (try simp (disch := omega) only [zI_lt, zI_le, zI_eq, zI_0, zI_add, zI_sub, zI_mul, zI_neg, Int.reduceNeg, Int.reduceAdd, Int.reduceSub, Int.reduceMul, Decidable.not_not, Int.not_lt, Int.not_le, not_true_eq_false, not_false_eq_true] at c); (try (exfalso; omega)))
    | simp only [zI_add, zI_sub, zI_mul, zI_neg]
    | apply s132v hF h_what (lo := 0) (hi := 5) (by omega) (by omega)
    | apply s177 hF hS hW
    | apply b205_0 hF
    | apply b205_9 hF
    | apply b205_15 hF
    | apply b205_26 hF
    | apply b205_35 hF
    | apply b205_38 hF
    | apply b205_50 hF
    | apply b205_62 hF
    | apply b205_78 hF
    | with_reducible assumption
    | exact zI_nat _
    | exact zNb1
    | exact zNb0
    | omega
    | with_reducible rfl
    | exact zI_nI (by omega))
  · rw [if_neg (by omega), if_neg (by omega), if_neg (by omega), if_neg (by omega), if_neg (by omega), if_pos (by omega)] at k
    apply b205_74 hF
    rw [hS.2.2.2.2.2.2.2]
    exact b205_78 hF k
  · rw [if_neg (by omega), if_neg (by omega), if_neg (by omega), if_neg (by omega), if_pos (by omega)] at k
    apply b205_67 hF
    rw [ht]
    exact b205_78 hF k
  · rw [if_neg (by omega), if_neg (by omega), if_neg (by omega), if_pos (by omega)] at k
    apply b205_55 hF
    rw [hn]
    exact b205_78 hF k
  · rw [if_neg (by omega), if_neg (by omega), if_pos (by omega)] at k
    apply b205_43 hF
    rw [hS.2.2.2.2.2.2.1]
    exact b205_78 hF k
  · rw [if_neg (by omega), if_pos (by omega)] at k
    apply b205_31 hF
    apply s177 hF hS hW
    exact b205_35 hF (b205_78 hF k)
  · rw [if_pos (by omega)] at k
    apply b205_19 hF
    rw [hS.2.2.2.2.2.1]
    exact b205_78 hF k
  · rw [if_neg (by omega), if_neg (by omega), if_neg (by omega), if_neg (by omega), if_neg (by omega), if_neg (by omega)] at k
    exact b205_12 hF k
