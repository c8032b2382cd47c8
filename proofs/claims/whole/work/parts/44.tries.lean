/-! tries, rowFor, longest: both -/
theorem yClose_tk {w : Nat → Nat → (Nat → Int32) → Int32} {S : Nat → Nat → Nat} {one L k : Nat} {p : yG} (h : S 3 one ≤ 9) (hp : yOk L k p) (hL : L ≤ 24) (hk : k ≤ L) (ht : ∀ j, -9 ≤ p.2.2.2.2.2.2.2 j ∧ p.2.2.2.2.2.2.2 j ≤ 24) : ∀ j, -9 ≤ (yClose w S one p).2.2.2.2.2.2.2 j ∧ (yClose w S one p).2.2.2.2.2.2.2 j ≤ 24 := by
  obtain ⟨sz, rn, ap, ln, pl, st, tot, tk⟩ := p
  obtain ⟨h1, h2, h3, h4, h5⟩ := hp
  dsimp only at h1 h2 h3 h4 h5 ht
  have ht2 := yT_in (w := w) (S := S) (one := one) (g := sz) (nth := rn) (ap := ap) (ln := ln) h h3
  intro j
  unfold yClose
  dsimp only
  by_cases h0 : sz = 0
  · rw [if_pos h0]; exact ht j
  · rw [if_neg h0]; dsimp only
    split
    · omega
    · exact ht j
theorem yFrom_tot {w : Nat → Nat → (Nat → Int32) → Int32} {S : Nat → Nat → Nat} {one B L : Nat} (h : S 3 one ≤ 9) (hL : L ≤ 24) : ∀ (m k : Nat) (p : yG), k + m = L → yOk L k p → (p.2.2.2.1 : Int) + p.2.2.2.2.2.2.1 = L → (∀ j, -9 ≤ p.2.2.2.2.2.2.2 j ∧ p.2.2.2.2.2.2.2 j ≤ 24) → ((yFrom w S one B k m p).2.2.2.1 : Int) + (yFrom w S one B k m p).2.2.2.2.2.2.1 = L ∧ (∀ j, -9 ≤ (yFrom w S one B k m p).2.2.2.2.2.2.2 j ∧ (yFrom w S one B k m p).2.2.2.2.2.2.2 j ≤ 24) := by
  intro m
  induction m with
  | zero =>
    intro k p hk hp ht hj
    exact ⟨yClose_tot h hp (by omega) ht, yClose_tk h hp hL (by omega) hj⟩
  | succ m ih =>
    intro k p hk hp ht hj
    rw [yFrom]
    apply ih (k + 1) _ (by omega) (yScan_ok h hp (by omega))
    · have a := yClose_tot (w := w) h hp (by omega) ht
      unfold yScan
      split
      · exact a
      · exact ht
    · have a := yClose_tk (w := w) h hp hL (by omega) hj
      unfold yScan
      split
      · exact a
      · exact hj
theorem yGl_tot {w : Nat → Nat → (Nat → Int32) → Int32} {S : Nat → Nat → Nat} {one L B : Nat} (h : zWg S) (ho : one < 5) (hL : L ≤ 24) : (-24 ≤ (yGl w S one L B).2.2.2.2.2.2.1 ∧ (yGl w S one L B).2.2.2.2.2.2.1 ≤ 24) ∧ ∀ j, -9 ≤ (yGl w S one L B).2.2.2.2.2.2.2 j ∧ (yGl w S one L B).2.2.2.2.2.2.2 j ≤ 24 := by
  have a := yFrom_tot (w := w) (S := S) (one := one) (B := B) (h one ho).2.1 hL L 0 (0, 0, S 4 one, L, 0, 0, 0, fun _ => 0) (Nat.zero_add _) ⟨by dsimp only; omega, (h one ho).2.2, hL, by dsimp only; omega, by dsimp only; omega⟩ (by dsimp only; omega) (fun j => by dsimp only; omega)
  have b := yGl_ok (w := w) (B := B) h ho hL
  refine ⟨?_, a.2⟩
  have a1 := a.1
  unfold yGl at b ⊢
  omega
theorem yTry_0 {w : Nat → Nat → (Nat → Int32) → Int32} {S : Nat → Nat → Nat} (hW : zWf S) {one r : Nat} (ho : one < 5) (hr : r < 4) : -24 ≤ yTry w S one r 0 ∧ yTry w S one r 0 ≤ 24 := by
  unfold yTry
  rw [if_pos rfl]
  exact (yGl_tot hW.2.1 ho (hW.1 r hr).1).1
def yTries (w : Nat → Nat → (Nat → Int32) → Int32) (S : Nat → Nat → Nat) (one row what : Int) : Int := if (0 ≤ one ∧ one < S 5 0) ∧ (0 ≤ row ∧ row ≤ 3) ∧ (0 ≤ what ∧ what ≤ 3) then yTry w S one.toNat row.toNat what.toNat else -100
theorem s82 {x : zXs} {F : zF} (hF : zSh F) {d : Nat} {V : Nat → Nat → Int32} {T : Nat → Nat → Int64} {Q : Option Value → zG → Prop} {S : Nat → Nat → Nat} (hS : zCS 1 V S) (hW : zWf S) {n : Nat} {w : Nat → Nat → (Nat → Int32) → Int32} (hR : zRu V n w) (hru : S 5 2 < n) {one row what : Int} (h_one : -2147483648 ≤ one ∧ one ≤ 2147483647) (h_row : -2147483648 ≤ row ∧ row ≤ 2147483647) (h_what : -2147483648 ≤ what ∧ what ≤ 2147483647) (k : ∀ V2, zFt V V2 → Q (some (.int (Int32.ofInt (yTries w S one row what)))) (V2, T)) {o4 : Option Value} : E x F (d + 4) 82 0 [some (.ref 0), some (.int (Int32.ofInt (one))), some (.int (Int32.ofInt (row))), some (.int (Int32.ofInt (what))), o4] [] (V, T) Q := by
  have hb : zSt 1 := Or.inl rfl
  have hb7 : zSt 7 := Or.inr (Or.inl rfl)
  have h5 := hW.2.2.1
  have k0 := k V (fun _ _ _ _ _ _ _ _ => rfl)
  unfold yTries at k k0
  have kb : ¬ ((0 ≤ one ∧ one < S 5 0) ∧ (0 ≤ row ∧ row ≤ 3) ∧ (0 ≤ what ∧ what ≤ 3)) → Q (some (.int (Int32.ofInt (-100)))) (V, T) := by
    intro c
    rw [if_neg c] at k0
    exact k0
  repeat' (first
    | (intro c; (try simp (disch := omega) only [zI_lt, zI_le, zI_eq, zI_0, zI_add, zI_sub, zI_mul, zI_neg, Int.reduceNeg, Int.reduceAdd, Int.reduceSub, Int.reduceMul, Decidable.not_not, Int.not_lt, Int.not_le, not_true_eq_false, not_false_eq_true] at c); (try (exfalso; omega)))
    | simp only [zI_add, zI_sub, zI_mul, zI_neg]
    | apply s19 hF hb hS hW h_one
    | apply s12 hF h_row
    | apply s7 hF h_what (by omega) (by omega)
    | apply b82_0 hF
    | apply b82_8 hF
    | apply b82_11 hF
    | apply b82_19 hF
    | apply b82_22 hF
    | apply b82_28 hF
    | apply b82_31 hF
    | apply b82_45 hF
    | apply b82_58 hF
    | apply b82_88 hF
    | apply b82_91 hF
    | apply b82_99 hF
    | apply b82_100 hF
    | apply b82_110 hF
    | apply b82_118 hF
    | exact kb (by omega)
    | with_reducible assumption
    | exact zI_nat _
    | exact zNb1
    | exact zNb0
    | omega
    | with_reducible rfl
    | exact zI_nI (by omega))
  have c : (0 ≤ one ∧ one < S 5 0) ∧ (0 ≤ row ∧ row ≤ 3) ∧ (0 ≤ what ∧ what ≤ 3) := by omega
  simp only [if_pos c] at k
  obtain ⟨i, rfl⟩ : ∃ i : Nat, one = i := ⟨one.toNat, by omega⟩
  obtain ⟨r, rfl⟩ : ∃ r : Nat, row = r := ⟨row.toNat, by omega⟩
  obtain ⟨m, rfl⟩ : ∃ m : Nat, what = m := ⟨what.toNat, by omega⟩
  simp only [Int.toNat_natCast] at k
  apply b82_34 hF
  apply s83 hF hb7 hb (by omega) hS
  intro V1 hS1 f1
  apply b82_45 hF
  have hR1 : zRu V1 n w := zRu_fr hR (fun a ha => f1 a (by omega))
  apply s74 hF hb7 hS1 hW hR1 hru (by omega) (by omega)
  intro V2 hS2 _ _ f2
  have hW2 := yGS_wf (w := w) hW (show i < 5 by omega) (show r < 4 by omega)
  have K := k V2 (fun a a1 a2 a3 a4 a5 a6 a7 => (f2 a (by omega) a2 a3 a4 a5).trans (f1 a (by omega)))
  unfold yTry at K
  apply b82_58 hF
  · intro c
    simp (disch := omega) only [zI_eq] at c
    rw [if_pos (by omega)] at K
    exact b82_88 hF K
  · intro c
    simp (disch := omega) only [zI_eq] at c
    rw [if_neg (by omega), if_pos (by omega)] at K
    apply b82_91 hF
    apply s13 hF hb7 hS2 hW2 (by omega)
    exact b82_99 hF K
  · intro c
    simp (disch := omega) only [zI_eq] at c
    rw [if_neg (by omega), if_neg (by omega), if_pos (by omega)] at K
    apply b82_100 hF (i1 := i) (zI_nat i) (by omega)
    rw [hS2.2.2.2.2.1 i (by omega)]
    exact K
  · intro c
    simp (disch := omega) only [zI_eq] at c
    rw [if_neg (by omega), if_neg (by omega), if_neg (by omega)] at K
    apply b82_110 hF
    apply s33 hF hb7 hS2 hW2 (by omega)
    exact b82_118 hF K
theorem s178 {x : zXs} {F : zF} (hF : zSh F) {d : Nat} {V : Nat → Nat → Int32} {T : Nat → Nat → Int64} {Q : Option Value → zG → Prop} {S : Nat → Nat → Nat} (hS : zMS V S) (hW : zWf S) {n : Nat} {w : Nat → Nat → (Nat → Int32) → Int32} (hR : zRd x F V n w) (hru : S 5 2 < n) {one row what : Int} (h_one : -2147483648 ≤ one ∧ one ≤ 2147483647) (h_row : -2147483648 ≤ row ∧ row ≤ 2147483647) (h_what : -2147483648 ≤ what ∧ what ≤ 2147483647) (k : ∀ V2 T2, zMS V2 S → yFr V V2 → Q (some (.int (Int32.ofInt (yTries w S one row what)))) (V2, T2)) : E x F (d + 55) 178 0 [some (.ref 59), some (.int (Int32.ofInt (one))), some (.int (Int32.ofInt (row))), some (.int (Int32.ofInt (what)))] [] (V, T) Q := by
  have h5 := hW.2.2.1
  have k0 := k V T hS (yFr_rfl V)
  unfold yTries at k k0
  have kb : ¬ ((0 ≤ one ∧ one < S 5 0) ∧ (0 ≤ row ∧ row ≤ 3) ∧ (0 ≤ what ∧ what ≤ 3)) → Q (some (.int (Int32.ofInt (-100)))) (V, T) := by
    intro c
    rw [if_neg c] at k0
    exact k0
  repeat' (first
    | (intro c; (try simp (disch := omega) only [zI_lt, zI_le, zI_eq, zI_0, zI_add, zI_sub, zI_mul, zI_neg, Int.reduceNeg, Int.reduceAdd, Int.reduceSub, Int.reduceMul, Decidable.not_not, Int.not_lt, Int.not_le, not_true_eq_false, not_false_eq_true] at c); (try (exfalso; omega)))
    | simp only [zI_add, zI_sub, zI_mul, zI_neg]
    | apply s136 hF hS h5 h_one
    | apply s131 hF h_row
    | apply s132v hF h_what (lo := 0) (hi := 3) (by omega) (by omega)
    | apply b178_0 hF
    | apply b178_5 hF
    | apply b178_8 hF
    | apply b178_12 hF
    | apply b178_15 hF
    | apply b178_24 hF
    | apply b178_34 hF
    | apply b178_37 hF
    | apply b178_39 hF
    | exact kb (by omega)
    | with_reducible assumption
    | exact zI_nat _
    | exact zNb1
    | exact zNb0
    | omega
    | with_reducible rfl
    | exact zI_nI (by omega))
  have c : (0 ≤ one ∧ one < S 5 0) ∧ (0 ≤ row ∧ row ≤ 3) ∧ (0 ≤ what ∧ what ≤ 3) := by omega
  simp only [if_pos c] at k
  obtain ⟨i, rfl⟩ : ∃ i : Nat, one = i := ⟨one.toNat, by omega⟩
  obtain ⟨r, rfl⟩ : ∃ r : Nat, row = r := ⟨row.toNat, by omega⟩
  obtain ⟨m, rfl⟩ : ∃ m : Nat, what = m := ⟨what.toNat, by omega⟩
  simp only [Int.toNat_natCast] at k
  apply b178_27 hF
  apply s179 hF hR hS hW hru (by omega) (by omega) (by omega)
  intro V2 T2 hS2 f1 f2
  exact b178_34 hF (b178_39 hF (k V2 T2 hS2 ⟨fun a h1 h2 => f1 a h1 (by omega) (by omega) (by omega) (by omega) (by omega) (by omega) (by omega), fun j hj => f2 j (by omega)⟩))
/-- the best of the first rows, and how much -/
def yRf (w : Nat → Nat → (Nat → Int32) → Int32) (S : Nat → Nat → Nat) (one : Nat) : Nat → Int × Int
  | 0 => (-1, 0)
  | k + 1 => if (yRf w S one k).1 = -1 ∨ (yRf w S one k).2 < yTry w S one k 0 then ((k : Int), yTry w S one k 0) else yRf w S one k
theorem yRf_in {w : Nat → Nat → (Nat → Int32) → Int32} {S : Nat → Nat → Nat} (hW : zWf S) {one : Nat} (ho : one < 5) : ∀ k, k ≤ 4 → (-1 ≤ (yRf w S one k).1 ∧ (yRf w S one k).1 ≤ k) ∧ (-24 ≤ (yRf w S one k).2 ∧ (yRf w S one k).2 ≤ 24) := by
  intro k
  induction k with
  | zero => intro _; exact ⟨by simp only [yRf]; omega, by simp only [yRf]; omega⟩
  | succ k ih =>
    intro hk
    have a := ih (by omega)
    have b := yTry_0 (w := w) hW ho (show k < 4 by omega)
    simp only [yRf]
    split
    · dsimp only; omega
    · omega
def yRowFor (w : Nat → Nat → (Nat → Int32) → Int32) (S : Nat → Nat → Nat) (one what : Int) : Int := if (0 ≤ one ∧ one < S 5 0) ∧ (0 ≤ what ∧ what ≤ 1) then (if what = 0 then (yRf w S one.toNat 4).1 else (yRf w S one.toNat 4).2) else -1000
theorem s95l {x : zXs} {F : zF} (hF : zSh F) {d : Nat} {V : Nat → Nat → Int32} {T : Nat → Nat → Int64} {Q : Option Value → zG → Prop} {S : Nat → Nat → Nat} (hS : zCS 1 V S) (hW : zWf S) {n : Nat} {w : Nat → Nat → (Nat → Int32) → Int32} (hR : zRu V n w) (hru : S 5 2 < n) {i : Nat} (hi : i < 5) {o2 : Option Value} : ∀ (m r : Nat) (V1 : Nat → Nat → Int32) (P A B : Int), P = r → r + m = 4 → A = (yRf w S i r).1 → B = (yRf w S i r).2 → zFt V V1 → (∀ V2, zFt V V2 → ∀ o5 o6 : Option Value, E x F (d + 4) 95 90 [some (.ref 0), some (.int (Int32.ofInt ((i:Int)))), o2, some (.int (Int32.ofInt ((yRf w S i 4).1))), some (.int (Int32.ofInt ((yRf w S i 4).2))), o5, o6] [] (V2, T) Q) → ∀ o6 : Option Value, E x F (d + 4) 95 32 [some (.ref 0), some (.int (Int32.ofInt ((i:Int)))), o2, some (.int (Int32.ofInt (A))), some (.int (Int32.ofInt (B))), some (.int (Int32.ofInt (P))), o6] [] (V1, T) Q := by
  have hb : zSt 1 := Or.inl rfl
  have hb7 : zSt 7 := Or.inr (Or.inl rfl)
  intro m
  induction m with
  | zero =>
    intro r V1 P A B hP hr hA hB hf K o6
    subst hP
    subst hA
    subst hB
    have hr4 : r = 4 := by omega
    subst hr4
    apply b95_32 hF
    · intro _
      exact K V1 hf _ _
    · intro c
      simp (disch := omega) only [zI_le] at c
      exfalso; omega
  | succ m ih =>
    intro r V1 P A B hP hr hA hB hf K o6
    have hin := yRf_in (w := w) hW hi r (by omega)
    have ht := yTry_0 (w := w) hW hi (show r < 4 by omega)
    have hn : yRf w S i (r + 1) = if (yRf w S i r).1 = -1 ∨ (yRf w S i r).2 < yTry w S i r 0 then ((r : Int), yTry w S i r 0) else yRf w S i r := rfl
    subst hP
    apply b95_32 hF
    · intro c
      simp (disch := omega) only [zI_le] at c
      exfalso; omega
    · intro _
      apply b95_38 hF
      have hS1 : zCS 1 V1 S := zCS_fr hS (fun a a1 a2 => hf a (by omega) (by omega) (by omega) (by omega) (by omega) (by omega) (by omega))
      have hR1 : zRu V1 n w := zRu_fr hR (fun a ha => hf a (by omega) (by omega) (by omega) (by omega) (by omega) (by omega) (by omega))
      apply s83 hF hb7 hb (by omega) hS1
      intro V2 hS2 f2
      apply b95_49 hF
      have hR2 : zRu V2 n w := zRu_fr hR1 (fun a ha => f2 a (by omega))
      apply s74 hF hb7 hS2 hW hR2 hru (by omega) (by omega)
      intro V3 _ _ _ f3
      have hf3 : zFt V V3 := fun a a1 a2 a3 a4 a5 a6 a7 => ((f3 a (by omega) a2 a3 a4 a5).trans (f2 a (by omega))).trans (hf a a1 a2 a3 a4 a5 a6 a7)
      have et : (yGl w S i (S 0 r) (S 1 r)).2.2.2.2.2.2.1 = yTry w S i r 0 := by
        unfold yTry; rw [if_pos rfl]
      rw [et]
      generalize yTry w S i r 0 = t at *
      apply b95_63 hF
      · intro c
        simp (disch := omega) only [zI_eq] at c
        apply b95_77 hF
        apply b95_84 hF
        rw [zI_add]
        rw [if_pos (by omega)] at hn
        exact ih (r + 1) V3 _ _ _ (by omega) (by omega) (by rw [hn]) (by rw [hn]) hf3 K _
      · intro c
        simp (disch := omega) only [zI_eq] at c
        apply b95_70 hF
        · intro c1
          simp (disch := omega) only [zI_le] at c1
          apply b95_84 hF
          rw [zI_add]
          rw [if_neg (by omega)] at hn
          exact ih (r + 1) V3 _ _ _ (by omega) (by omega) (by rw [hn]; exact hA) (by rw [hn]; exact hB) hf3 K _
        · intro c1
          simp (disch := omega) only [zI_le] at c1
          apply b95_77 hF
          apply b95_84 hF
          rw [zI_add]
          rw [if_pos (by omega)] at hn
          exact ih (r + 1) V3 _ _ _ (by omega) (by omega) (by rw [hn]) (by rw [hn]) hf3 K _
theorem s95 {x : zXs} {F : zF} (hF : zSh F) {d : Nat} {V : Nat → Nat → Int32} {T : Nat → Nat → Int64} {Q : Option Value → zG → Prop} {S : Nat → Nat → Nat} (hS : zCS 1 V S) (hW : zWf S) {n : Nat} {w : Nat → Nat → (Nat → Int32) → Int32} (hR : zRu V n w) (hru : S 5 2 < n) {one what : Int} (h_one : -2147483648 ≤ one ∧ one ≤ 2147483647) (h_what : -2147483648 ≤ what ∧ what ≤ 2147483647) (k : ∀ V2, zFt V V2 → Q (some (.int (Int32.ofInt (yRowFor w S one what)))) (V2, T)) {o3 o4 o5 o6 : Option Value} : E x F (d + 4) 95 0 [some (.ref 0), some (.int (Int32.ofInt (one))), some (.int (Int32.ofInt (what))), o3, o4, o5, o6] [] (V, T) Q := by
  have hb : zSt 1 := Or.inl rfl
  have h5 := hW.2.2.1
  have k0 := k V (fun _ _ _ _ _ _ _ _ => rfl)
  unfold yRowFor at k k0
  have kb : ¬ ((0 ≤ one ∧ one < S 5 0) ∧ (0 ≤ what ∧ what ≤ 1)) → Q (some (.int (Int32.ofInt (-1000)))) (V, T) := by
    intro c
    rw [if_neg c] at k0
    exact k0
  repeat' (first
    | (intro c; (try simp (disch := omega) only [zI_lt, zI_le, zI_eq, zI_0, zI_add, zI_sub, zI_mul, zI_neg, Int.reduceNeg, Int.reduceAdd, Int.reduceSub, Int.reduceMul, Decidable.not_not, Int.not_lt, Int.not_le, not_true_eq_false, not_false_eq_true] at c); (try (exfalso; omega)))
    | simp only [zI_add, zI_sub, zI_mul, zI_neg]
    | apply s19 hF hb hS hW h_one
    | apply s7 hF h_what (by omega) (by omega)
    | apply b95_0 hF
    | apply b95_8 hF
    | apply b95_11 hF
    | apply b95_17 hF
    | apply b95_20 hF
    | apply b95_32 hF
    | apply b95_38 hF
    | apply b95_49 hF
    | apply b95_63 hF
    | apply b95_70 hF
    | apply b95_77 hF
    | apply b95_84 hF
    | apply b95_90 hF
    | apply b95_94 hF
    | apply b95_98 hF
    | apply b95_100 hF
    | exact kb (by omega)
    | with_reducible assumption
    | exact zI_nat _
    | exact zNb1
    | exact zNb0
    | omega
    | with_reducible rfl
    | exact zI_nI (by omega))
  have c : (0 ≤ one ∧ one < S 5 0) ∧ (0 ≤ what ∧ what ≤ 1) := by omega
  simp only [if_pos c] at k
  obtain ⟨i, rfl⟩ : ∃ i : Nat, one = i := ⟨one.toNat, by omega⟩
  simp only [Int.toNat_natCast] at k
  apply b95_24 hF
  refine s95l hF hS hW hR hru (i := i) (by omega) 4 0 V 0 (-1) 0 rfl rfl rfl rfl (fun _ _ _ _ _ _ _ _ => rfl) ?_ _
  intro V2 hf o5 o6
  have K := k V2 hf
  apply b95_90 hF
  · intro c
    simp (disch := omega) only [zI_eq, zI_0] at c
    rw [if_neg c] at K
    exact b95_98 hF (b95_100 hF K)
  · intro c
    simp (disch := omega) only [zI_eq, zI_0, Decidable.not_not] at c
    rw [if_pos c] at K
    exact b95_94 hF (b95_100 hF K)
theorem s189l {x : zXs} {F : zF} (hF : zSh F) {d : Nat} {V : Nat → Nat → Int32} {T : Nat → Nat → Int64} {Q : Option Value → zG → Prop} {S : Nat → Nat → Nat} (hS : zMS V S) (hW : zWf S) {n : Nat} {w : Nat → Nat → (Nat → Int32) → Int32} (hR : zRd x F V n w) (hru : S 5 2 < n) {i : Nat} (hi : i < 5) {o2 : Option Value} : ∀ (m r : Nat) (V1 : Nat → Nat → Int32) (T1 : Nat → Nat → Int64) (P A B : Int), P = r → r + m = 4 → A = (yRf w S i r).1 → B = (yRf w S i r).2 → zMS V1 S → yFr V V1 → (∀ V2 T2, zMS V2 S → yFr V V2 → ∀ o5 o6 : Option Value, E x F (d + 55) 189 71 [some (.ref 59), some (.int (Int32.ofInt ((i:Int)))), o2, some (.int (Int32.ofInt ((yRf w S i 4).1))), some (.int (Int32.ofInt ((yRf w S i 4).2))), o5, o6] [] (V2, T2) Q) → ∀ o6 : Option Value, E x F (d + 55) 189 30 [some (.ref 59), some (.int (Int32.ofInt ((i:Int)))), o2, some (.int (Int32.ofInt (A))), some (.int (Int32.ofInt (B))), some (.int (Int32.ofInt (P))), o6] [] (V1, T1) Q := by
  intro m
  induction m with
  | zero =>
    intro r V1 T1 P A B hP hr hA hB hS1 hf K o6
    subst hP
    subst hA
    subst hB
    have hr4 : r = 4 := by omega
    subst hr4
    apply b189_30 hF
    · intro _
      exact K V1 T1 hS1 hf _ _
    · intro c
      simp (disch := omega) only [zI_le] at c
      exfalso; omega
  | succ m ih =>
    intro r V1 T1 P A B hP hr hA hB hS1 hf K o6
    have hin := yRf_in (w := w) hW hi r (by omega)
    have ht := yTry_0 (w := w) hW hi (show r < 4 by omega)
    have hn : yRf w S i (r + 1) = if (yRf w S i r).1 = -1 ∨ (yRf w S i r).2 < yTry w S i r 0 then ((r : Int), yTry w S i r 0) else yRf w S i r := rfl
    subst hP
    apply b189_30 hF
    · intro c
      simp (disch := omega) only [zI_le] at c
      exfalso; omega
    · intro _
      apply b189_36 hF
      have hR1 : zRd x F V1 n w := zRd_fr hR (hf.1 60 (by omega) (by omega)) (hf.1 61 (by omega) (by omega))
      refine s179 hF hR1 hS1 hW hru (what := 0) (by omega) (by omega) (by omega) ?_
      intro V3 T3 hS3 f1 f2
      have hf3 : yFr V V3 := yFr_tr hf ⟨fun a h1 h2 => f1 a h1 (by omega) (by omega) (by omega) (by omega) (by omega) (by omega) (by omega), fun j hj => f2 j (by omega)⟩
      generalize yTry w S i r 0 = t at *
      apply b189_44 hF
      · intro c
        simp (disch := omega) only [zI_eq] at c
        apply b189_58 hF
        apply b189_65 hF
        rw [zI_add]
        rw [if_pos (by omega)] at hn
        exact ih (r + 1) V3 T3 _ _ _ (by omega) (by omega) (by rw [hn]) (by rw [hn]) hS3 hf3 K _
      · intro c
        simp (disch := omega) only [zI_eq] at c
        apply b189_51 hF
        · intro c1
          simp (disch := omega) only [zI_le] at c1
          apply b189_65 hF
          rw [zI_add]
          rw [if_neg (by omega)] at hn
          exact ih (r + 1) V3 T3 _ _ _ (by omega) (by omega) (by rw [hn]; exact hA) (by rw [hn]; exact hB) hS3 hf3 K _
        · intro c1
          simp (disch := omega) only [zI_le] at c1
          apply b189_58 hF
          apply b189_65 hF
          rw [zI_add]
          rw [if_pos (by omega)] at hn
          exact ih (r + 1) V3 T3 _ _ _ (by omega) (by omega) (by rw [hn]) (by rw [hn]) hS3 hf3 K _
theorem s189 {x : zXs} {F : zF} (hF : zSh F) {d : Nat} {V : Nat → Nat → Int32} {T : Nat → Nat → Int64} {Q : Option Value → zG → Prop} {S : Nat → Nat → Nat} (hS : zMS V S) (hW : zWf S) {n : Nat} {w : Nat → Nat → (Nat → Int32) → Int32} (hR : zRd x F V n w) (hru : S 5 2 < n) {one what : Int} (h_one : -2147483648 ≤ one ∧ one ≤ 2147483647) (h_what : -2147483648 ≤ what ∧ what ≤ 2147483647) (k : ∀ V2 T2, zMS V2 S → yFr V V2 → Q (some (.int (Int32.ofInt (yRowFor w S one what)))) (V2, T2)) {o3 o4 o5 o6 : Option Value} : E x F (d + 55) 189 0 [some (.ref 59), some (.int (Int32.ofInt (one))), some (.int (Int32.ofInt (what))), o3, o4, o5, o6] [] (V, T) Q := by
  have h5 := hW.2.2.1
  have k0 := k V T hS (yFr_rfl V)
  unfold yRowFor at k k0
  have kb : ¬ ((0 ≤ one ∧ one < S 5 0) ∧ (0 ≤ what ∧ what ≤ 1)) → Q (some (.int (Int32.ofInt (-1000)))) (V, T) := by
    intro c
    rw [if_neg c] at k0
    exact k0
  repeat' (first
    | (intro c; (try simp (disch := omega) only [zI_lt, zI_le, zI_eq, zI_0, zI_add, zI_sub, zI_mul, zI_neg, Int.reduceNeg, Int.reduceAdd, Int.reduceSub, Int.reduceMul, Decidable.not_not, Int.not_lt, Int.not_le, not_true_eq_false, not_false_eq_true] at c); (try (exfalso; omega)))
    | simp only [zI_add, zI_sub, zI_mul, zI_neg]
    | apply s136 hF hS h5 h_one
    | apply s132v hF h_what (lo := 0) (hi := 1) (by omega) (by omega)
    | apply b189_0 hF
    | apply b189_5 hF
    | apply b189_8 hF
    | apply b189_15 hF
    | apply b189_18 hF
    | apply b189_30 hF
    | apply b189_36 hF
    | apply b189_44 hF
    | apply b189_51 hF
    | apply b189_58 hF
    | apply b189_65 hF
    | apply b189_71 hF
    | apply b189_75 hF
    | apply b189_79 hF
    | apply b189_81 hF
    | exact kb (by omega)
    | with_reducible assumption
    | exact zI_nat _
    | exact zNb1
    | exact zNb0
    | omega
    | with_reducible rfl
    | exact zI_nI (by omega))
  have c : (0 ≤ one ∧ one < S 5 0) ∧ (0 ≤ what ∧ what ≤ 1) := by omega
  simp only [if_pos c] at k
  obtain ⟨i, rfl⟩ : ∃ i : Nat, one = i := ⟨one.toNat, by omega⟩
  simp only [Int.toNat_natCast] at k
  apply b189_22 hF
  refine s189l hF (T := T) hS hW hR hru (i := i) (by omega) 4 0 V T 0 (-1) 0 rfl rfl rfl rfl hS (yFr_rfl V) ?_ _
  intro V2 T2 hS2 hf o5 o6
  have K := k V2 T2 hS2 hf
  apply b189_71 hF
  · intro c
    simp (disch := omega) only [zI_eq, zI_0] at c
    rw [if_neg c] at K
    exact b189_79 hF (b189_81 hF K)
  · intro c
    simp (disch := omega) only [zI_eq, zI_0, Decidable.not_not] at c
    rw [if_pos c] at K
    exact b189_75 hF (b189_81 hF K)
