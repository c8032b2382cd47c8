/-! tells: the class, its top -/
theorem s107l {x : zXs} {F : zF} (hF : zSh F) {d : Nat} {V : Nat → Nat → Int32} {T : Nat → Nat → Int64} {Q : Option Value → zG → Prop} {S : Nat → Nat → Nat} (hS : zCS 1 V S) (hW : zWf S) {n : Nat} {w : Nat → Nat → (Nat → Int32) → Int32} (hR : zRu V n w) (hru : S 5 2 < n) {t : Nat} (ht : t < 4) {X : Int × Nat × (Nat → Int32)} (h2 : V (51 + 2 * t) 2 = Int32.ofInt (X.2.1 : Int)) (h3 : ∀ i, i < X.2.1 → V (51 + 2 * t + 1) i = X.2.2 i) {one r : Nat} (ho : one < 5) (hr : r < 4) (hz : X.2.1 ≤ zrn (zgb S r) 24) {b4 : Int} (hb4 : b4 = 0 ∨ b4 = 1) (K : ∀ V2, zFt V V2 → Q (some (.int (Int32.ofInt (if b4 = 0 then (yPC (yQ w S X one r 2) 100 : Int) else yPL (yQ w S X one r 2) 100)))) (V2, T)) : ∀ (m i : Nat) (V1 : Nat → Nat → Int32) (P C L : Int), P = i → C = (yPC (yQ w S X one r 2) i : Int) → L = yPL (yQ w S X one r 2) i → i + m = 100 → zFt V V1 → E x F (d + 5) 107 9 [some (.ref 0), some (.ref (51 + 2 * t)), some (.int (Int32.ofInt ((one:Int)))), some (.int (Int32.ofInt ((r:Int)))), some (.int (Int32.ofInt (b4))), some (.int (Int32.ofInt (C))), some (.int (Int32.ofInt (L))), some (.int (Int32.ofInt (P)))] [] (V1, T) Q := by
  have hb : zSt 1 := Or.inl rfl
  have hb7 : zSt 7 := Or.inr (Or.inl rfl)
  have hl := zSt4_k ht
  intro m
  induction m with
  | zero =>
    intro i V1 P C L hP hC hL hi hf
    subst hP
    subst hC
    subst hL
    have hin : i = 100 := by omega
    subst hin
    have k := K V1 hf
    have b1 := yPC_le (yQ w S X one r 2) 100
    apply b107_9 hF
    · intro _
      apply b107_72 hF
      · intro c
        simp (disch := omega) only [zI_eq, zI_0] at c
        rw [if_pos c] at k
        exact b107_82 hF (b107_84 hF k)
      · intro c
        simp (disch := omega) only [zI_eq, zI_0] at c
        rw [if_neg c] at k
        exact b107_77 hF (b107_84 hF k)
    · intro c
      simp (disch := omega) only [zI_le] at c
      exfalso; omega
  | succ m ih =>
    intro i V1 P C L hP hC hL hi hf
    subst hP
    subst hC
    subst hL
    have bC := yPC_le (yQ w S X one r 2) i
    have bL := yPL_in (yQ w S X one r 2) i
    apply b107_9 hF
    · intro c
      simp (disch := omega) only [zI_le] at c
      exfalso; omega
    intro _
    have hS1 := zFt_S hS hf
    have hR1 := zFt_R hR hf
    apply b107_16 hF
    apply s83 hF hb7 hb (by omega) hS1
    intro V2 hS2 f2
    apply b107_27 hF hl (i1 := one) (zI_nat one) (by omega)
    have hS3 : zCS 7 (zu V2 12 one (Int32.ofInt (i : Int))) (yLd S 2 one i) := zCS_zu (b := 7) (f := 4) (by omega) hS2
    have hf3 : zFt V (zu V2 12 one (Int32.ofInt (i : Int))) := fun a a1 a2 a3 a4 a5 a6 a7 => by rw [zu_ne (by omega), f2 a (by omega)]; exact hf a a1 a2 a3 a4 a5 a6 a7
    have hR3 := zFt_R hR hf3
    apply s103 hF hS3 (yLd_wf hW (by omega)) hR3 (yLd_52 hru (by omega)) ht (by rw [zFt_o hf3 (by omega)]; exact h2) (fun j hj => by rw [zFt_o hf3 (by omega)]; exact h3 j hj) ho hr (by rw [yLd_gb]; exact hz)
    intro V4 f4
    have hf4 := zFt_tr hf3 f4
    have hin := yFoF_in (it := X.2.2) (g := yTn w (yLd S 2 one i) one r) X.2.1 0
    have hin2 : -1 ≤ yFo w (yLd S 2 one i) X one r ∧ yFo w (yLd S 2 one i) X one r ≤ 100 := by
      have := zrn_le (zgb S r) 24
      have e : yFo w (yLd S 2 one i) X one r = yFoF X.2.2 (yTn w (yLd S 2 one i) one r) X.2.1 0 := rfl
      rw [e]; omega
    have hq : yQ w S X one r 2 i = decide (yFo w (yLd S 2 one i) X one r = -1) := rfl
    have hnC : yPC (yQ w S X one r 2) (i + 1) = yPC (yQ w S X one r 2) i + (if yQ w S X one r 2 i = true then 1 else 0) := rfl
    have hnL : yPL (yQ w S X one r 2) (i + 1) = if yQ w S X one r 2 i = true ∧ yPC (yQ w S X one r 2) i = 0 then (i : Int) else yPL (yQ w S X one r 2) i := rfl
    generalize yFo w (yLd S 2 one i) X one r = z at *
    apply b107_45 hF
    · intro c
      simp (disch := omega) only [zI_eq] at c
      have hqf : ¬ yQ w S X one r 2 i = true := by rw [hq]; simp only [decide_eq_true_eq]; exact c
      rw [if_neg hqf] at hnC
      rw [if_neg (fun h => hqf h.1)] at hnL
      apply b107_66 hF
      rw [zI_add]
      exact ih (i + 1) V4 _ _ _ (by omega) (by rw [hnC, Nat.add_zero]) (by rw [hnL]) (by omega) hf4
    · intro c
      simp (disch := omega) only [zI_eq, Decidable.not_not] at c
      have hqt : yQ w S X one r 2 i = true := by rw [hq]; simp only [decide_eq_true_eq]; exact c
      rw [if_pos hqt] at hnC
      apply b107_49 hF
      · intro c2
        simp (disch := omega) only [zI_eq, zI_0] at c2
        rw [if_neg (fun h => by omega)] at hnL
        apply b107_59 hF
        apply b107_61 hF
        apply b107_66 hF
        rw [zI_add, zI_add]
        exact ih (i + 1) V4 _ _ _ (by omega) (by omega) (by rw [hnL]) (by omega) hf4
      · intro c2
        simp (disch := omega) only [zI_eq, zI_0, Decidable.not_not] at c2
        rw [if_pos ⟨hqt, by omega⟩] at hnL
        apply b107_54 hF
        apply b107_61 hF
        apply b107_66 hF
        rw [zI_add, zI_add]
        exact ih (i + 1) V4 _ _ _ (by omega) (by omega) (by rw [hnL]) (by omega) hf4
def yQg (w : Nat → Nat → (Nat → Int32) → Int32) (S : Nat → Nat → Nat) (X : Int × Nat × (Nat → Int32)) (r one : Nat) : Bool := decide (yFo w S X one r = -1)
def yQr (w : Nat → Nat → (Nat → Int32) → Int32) (S : Nat → Nat → Nat) (X : Int × Nat × (Nat → Int32)) (one r : Nat) : Bool := decide (X.2.1 ≤ zrn (zgb S r) 24 ∧ yFo w S X one r = -1)
theorem yFo_in {w : Nat → Nat → (Nat → Int32) → Int32} {S : Nat → Nat → Nat} {X : Int × Nat × (Nat → Int32)} {one r : Nat} (hX : X.2.1 ≤ 40) : -1 ≤ yFo w S X one r ∧ yFo w S X one r ≤ 100 := by
  have hin := yFoF_in (it := X.2.2) (g := yTn w S one r) X.2.1 0
  have e : yFo w S X one r = yFoF X.2.2 (yTn w S one r) X.2.1 0 := rfl
  rw [e]; omega
theorem s109l {x : zXs} {F : zF} (hF : zSh F) {d : Nat} {V : Nat → Nat → Int32} {T : Nat → Nat → Int64} {Q : Option Value → zG → Prop} {S : Nat → Nat → Nat} (hS : zCS 1 V S) (hW : zWf S) {n : Nat} {w : Nat → Nat → (Nat → Int32) → Int32} (hR : zRu V n w) (hru : S 5 2 < n) {t : Nat} (ht : t < 4) {X : Int × Nat × (Nat → Int32)} (h2 : V (51 + 2 * t) 2 = Int32.ofInt (X.2.1 : Int)) (h3 : ∀ i, i < X.2.1 → V (51 + 2 * t + 1) i = X.2.2 i) {r : Nat} (hr : r < 4) (hz : X.2.1 ≤ zrn (zgb S r) 24) (K : ∀ V2, zFt V V2 → Q (some (.int (Int32.ofInt (yPB (yQg w S X r) (S 5 0) : Int)))) (V2, T)) : ∀ (m i : Nat) (V1 : Nat → Nat → Int32) (P B : Int), P = i → B = (yPB (yQg w S X r) i : Int) → i + m = S 5 0 → zFt V V1 → E x F (d + 5) 109 5 [some (.ref 0), some (.ref (51 + 2 * t)), some (.int (Int32.ofInt ((r:Int)))), some (.int (Int32.ofInt (B))), some (.int (Int32.ofInt (P)))] [] (V1, T) Q := by
  have hb : zSt 1 := Or.inl rfl
  have hb7 : zSt 7 := Or.inr (Or.inl rfl)
  have hl := zSt4_k ht
  have h5 := hW.2.2.1
  have hz24 := zrn_le (zgb S r) 24
  intro m
  induction m with
  | zero =>
    intro i V1 P B hP hB hi hf
    subst hP
    subst hB
    have hin : i = S 5 0 := by omega
    rw [hin]
    have hS1 := zFt_S hS hf
    apply b109_5 hF
    · intro _
      exact b109_59 hF (K V1 hf)
    · rw [hS1.2.2.2.2.2.1]
      intro c
      simp (disch := omega) only [zI_le] at c
      exfalso; omega
  | succ m ih =>
    intro i V1 P B hP hB hi hf
    subst hP
    subst hB
    have hS1 := zFt_S hS hf
    have hR1 := zFt_R hR hf
    apply b109_5 hF
    · rw [hS1.2.2.2.2.2.1]
      intro c
      simp (disch := omega) only [zI_le] at c
      exfalso; omega
    intro _
    apply b109_17 hF
    apply s83 hF hb7 hb (by omega) hS1
    intro V2 hS2 f2
    apply b109_28 hF hl
    have hf2 : zFt V V2 := fun a a1 a2 a3 a4 a5 a6 a7 => by rw [f2 a (by omega)]; exact hf a a1 a2 a3 a4 a5 a6 a7
    have hR2 := zFt_R hR hf2
    apply s103 hF hS2 hW hR2 hru ht (by rw [zFt_o hf2 (by omega)]; exact h2) (fun j hj => by rw [zFt_o hf2 (by omega)]; exact h3 j hj) (by omega) hr hz
    intro V4 f4
    have hf4 := zFt_tr hf2 f4
    have hin2 := yFo_in (w := w) (S := S) (X := X) (one := i) (r := r) (by omega)
    have hq : yQg w S X r i = decide (yFo w S X i r = -1) := rfl
    have hnx : yPB (yQg w S X r) (i + 1) = yPB (yQg w S X r) i ||| (if yQg w S X r i = true then 2 ^ i else 0) := rfl
    have go : ∀ z : Int, z = (if yQg w S X r i = true then 1 else 0) → E x F (d + 5) 109 46 [some (.ref 0), some (.ref (51 + 2 * t)), some (.int (Int32.ofInt ((r:Int)))), some (.int (Int32.ofInt ((yPB (yQg w S X r) i : Int)))), some (.int (Int32.ofInt ((i:Int))))] [.int (Int32.ofInt (z)), .int (Int32.ofInt ((yPB (yQg w S X r) i : Int)))] (V4, T) Q := by
      intro z hz
      apply b109_46 hF
      apply s105 hF (v := i) (by omega) hz
      apply b109_51 hF
      rw [zB_or, zI_add]
      exact ih (i + 1) V4 _ _ (by omega) (by rw [hnx]) (by omega) hf4
    generalize yFo w S X i r = z at *
    apply b109_37 hF
    · intro c
      simp (disch := omega) only [zI_eq] at c
      apply b109_45 hF
      exact go 0 (by rw [if_neg (by rw [hq]; simp only [decide_eq_true_eq]; exact c)])
    · intro c
      simp (disch := omega) only [zI_eq, Decidable.not_not] at c
      apply b109_41 hF
      exact go 1 (by rw [if_pos (by rw [hq]; simp only [decide_eq_true_eq]; exact c)])
theorem s110l {x : zXs} {F : zF} (hF : zSh F) {d : Nat} {V : Nat → Nat → Int32} {T : Nat → Nat → Int64} {Q : Option Value → zG → Prop} {S : Nat → Nat → Nat} (hS : zCS 1 V S) (hW : zWf S) {n : Nat} {w : Nat → Nat → (Nat → Int32) → Int32} (hR : zRu V n w) (hru : S 5 2 < n) {t : Nat} (ht : t < 4) {X : Int × Nat × (Nat → Int32)} (h2 : V (51 + 2 * t) 2 = Int32.ofInt (X.2.1 : Int)) (h3 : ∀ i, i < X.2.1 → V (51 + 2 * t + 1) i = X.2.2 i) (hX : X.2.1 ≤ 40) {one : Nat} (ho : one < 5) (K : ∀ V2, zFt V V2 → Q (some (.int (Int32.ofInt (yPB (yQr w S X one) 4 : Int)))) (V2, T)) : ∀ (m i : Nat) (V1 : Nat → Nat → Int32) (P B : Int), P = i → B = (yPB (yQr w S X one) i : Int) → i + m = 4 → zFt V V1 → E x F (d + 5) 110 5 [some (.ref 0), some (.ref (51 + 2 * t)), some (.int (Int32.ofInt ((one:Int)))), some (.int (Int32.ofInt (B))), some (.int (Int32.ofInt (P)))] [] (V1, T) Q := by
  have hb : zSt 1 := Or.inl rfl
  have hb7 : zSt 7 := Or.inr (Or.inl rfl)
  have hl := zSt4_k ht
  intro m
  induction m with
  | zero =>
    intro i V1 P B hP hB hi hf
    subst hP
    subst hB
    have hin : i = 4 := by omega
    subst hin
    apply b110_5 hF
    · intro _
      exact b110_69 hF (K V1 hf)
    · intro c
      simp (disch := omega) only [zI_le] at c
      exfalso; omega
  | succ m ih =>
    intro i V1 P B hP hB hi hf
    subst hP
    subst hB
    have hS1 := zFt_S hS hf
    have hR1 := zFt_R hR hf
    have hz24 := zrn_le (zgb S i) 24
    apply b110_5 hF
    · intro c
      simp (disch := omega) only [zI_le] at c
      exfalso; omega
    intro _
    apply b110_11 hF
    apply s83 hF hb7 hb (by omega) hS1
    intro V2 hS2 f2
    have hf2 : zFt V V2 := fun a a1 a2 a3 a4 a5 a6 a7 => by rw [f2 a (by omega)]; exact hf a a1 a2 a3 a4 a5 a6 a7
    have hR2 := zFt_R hR hf2
    have e2 : V2 (51 + 2 * t) 2 = Int32.ofInt (X.2.1 : Int) := by rw [zFt_o hf2 (by omega)]; exact h2
    have hq : yQr w S X one i = decide (X.2.1 ≤ zrn (zgb S i) 24 ∧ yFo w S X one i = -1) := rfl
    have hnx : yPB (yQr w S X one) (i + 1) = yPB (yQr w S X one) i ||| (if yQr w S X one i = true then 2 ^ i else 0) := rfl
    have go : ∀ V4, zFt V V4 → ∀ z : Int, z = (if yQr w S X one i = true then 1 else 0) → E x F (d + 5) 110 56 [some (.ref 0), some (.ref (51 + 2 * t)), some (.int (Int32.ofInt ((one:Int)))), some (.int (Int32.ofInt ((yPB (yQr w S X one) i : Int)))), some (.int (Int32.ofInt ((i:Int))))] [.int (Int32.ofInt (z)), .int (Int32.ofInt ((yPB (yQr w S X one) i : Int)))] (V4, T) Q := by
      intro V4 hf4 z hz
      apply b110_56 hF
      apply s105 hF (v := i) (by omega) hz
      apply b110_61 hF
      rw [zB_or, zI_add]
      exact ih (i + 1) V4 _ _ (by omega) (by rw [hnx]) (by omega) hf4
    apply b110_22 hF hl
    apply s32 hF hb (zFt_S hS hf2) hW (by omega)
    rw [e2]
    apply b110_36 hF
    · intro c
      simp (disch := omega) only [zI_lt] at c
      apply b110_55 hF
      exact go V2 hf2 0 (by rw [if_neg (by rw [hq]; simp only [decide_eq_true_eq]; omega)])
    · intro c
      simp (disch := omega) only [zI_lt] at c
      apply b110_39 hF hl
      apply s103 hF hS2 hW hR2 hru ht e2 (fun j hj => by rw [zFt_o hf2 (by omega)]; exact h3 j hj) ho (by omega) (by omega)
      intro V4 f4
      have hf4 := zFt_tr hf2 f4
      have hin2 := yFo_in (w := w) (S := S) (one := one) (r := i) hX
      generalize yFo w S X one i = z at *
      apply b110_47 hF
      · intro c1
        simp (disch := omega) only [zI_eq] at c1
        apply b110_55 hF
        exact go V4 hf4 0 (by rw [if_neg (by rw [hq]; simp only [decide_eq_true_eq]; omega)])
      · intro c1
        simp (disch := omega) only [zI_eq, Decidable.not_not] at c1
        apply b110_51 hF
        exact go V4 hf4 1 (by rw [if_pos (by rw [hq]; simp only [decide_eq_true_eq]; omega)])
abbrev yTlOk (S : Nat → Nat → Nat) (s one row what : Int) : Prop := (0 ≤ s ∧ s ≤ 3) ∧ (0 ≤ one ∧ one < S 5 0) ∧ (0 ≤ row ∧ row ≤ 3) ∧ (0 ≤ what ∧ what ≤ 7)
/-- what a sheet tells, by what is asked -/
def yTell (w : Nat → Nat → (Nat → Int32) → Int32) (S : Nat → Nat → Nat) (n : Nat) (X : Int × Nat × (Nat → Int32)) (one r : Nat) (what : Int) : Int :=
  if what = 0 then yFo w S X one r else if what = 1 then (yPB (yQ w S X one r 3) 6 : Int) else if what = 2 then (yPB (yQ w S X one r 1) 10 : Int) else if what = 3 then (yPC (yQ w S X one r 2) 100 : Int) else if what = 4 then yPL (yQ w S X one r 2) 100 else if what = 5 then (yPB (yQ w S X one r 4) n : Int) else if what = 6 then (yPB (yQg w S X r) (S 5 0) : Int) else (yPB (yQr w S X one) 4 : Int)
def yTells (w : Nat → Nat → (Nat → Int32) → Int32) (H : Nat → Int × Nat × (Nat → Int32)) (S : Nat → Nat → Nat) (n : Nat) (s one row what : Int) : Int := if yTlOk S s one row what then (if (H s.toNat).1 = -1 then -11 else if zrn (zgb S row.toNat) 24 < (H s.toNat).2.1 then -2 else yTell w S n (H s.toNat) one.toNat row.toNat what) else -2
theorem s100 {x : zXs} {F : zF} (hF : zSh F) {d : Nat} {V : Nat → Nat → Int32} {T : Nat → Nat → Int64} {Q : Option Value → zG → Prop} {S : Nat → Nat → Nat} (hS : zCS 1 V S) (hW : zWf S) {n : Nat} {w : Nat → Nat → (Nat → Int32) → Int32} (hR : zRu V n w) (hru : S 5 2 < n) {H : Nat → Int × Nat × (Nat → Int32)} (hw : zHw H) (hH : zHc V H) {s one row what : Int} (h_s : -2147483648 ≤ s ∧ s ≤ 2147483647) (h_one : -2147483648 ≤ one ∧ one ≤ 2147483647) (h_row : -2147483648 ≤ row ∧ row ≤ 2147483647) (h_what : -2147483648 ≤ what ∧ what ≤ 2147483647) (k : ∀ V2, zFt V V2 → Q (some (.int (Int32.ofInt (yTells w H S n s one row what)))) (V2, T)) {o5 : Option Value} : E x F (d + 6) 100 0 [some (.ref 0), some (.int (Int32.ofInt (s))), some (.int (Int32.ofInt (one))), some (.int (Int32.ofInt (row))), some (.int (Int32.ofInt (what))), o5] [] (V, T) Q := by
  have hb : zSt 1 := Or.inl rfl
  have hb7 : zSt 7 := Or.inr (Or.inl rfl)
  have h5 := hW.2.2.1
  unfold yTells yTlOk at k
  have kb : ¬ ((0 ≤ s ∧ s ≤ 3) ∧ (0 ≤ one ∧ one < S 5 0) ∧ (0 ≤ row ∧ row ≤ 3) ∧ (0 ≤ what ∧ what ≤ 7)) → Q (some (.int (Int32.ofInt (-2)))) (V, T) := by
    intro c
    rw [if_neg c] at k
    exact k V (zFt_rfl V)
  repeat' (first
    | (intro c; (try simp (disch := omega) only [zI_lt, zI_le, zI_eq, zI_0, zI_add, zI_sub, zI_mul, zI_neg, Int.reduceNeg, Int.reduceAdd, Int.reduceSub, Int.reduceMul, Decidable.not_not, Int.not_lt, Int.not_le, not_true_eq_false, not_false_eq_true] at c); (try (exfalso; omega)))
    | simp only [zI_add, zI_sub, zI_mul, zI_neg]
    | apply s101 hF h_s
    | apply s19 hF hb hS hW h_one
    | apply s12 hF h_row
    | apply s7 hF h_what (by omega) (by omega)
    | apply b100_0 hF
    | apply b100_5 hF
    | apply b100_8 hF
    | apply b100_16 hF
    | apply b100_19 hF
    | apply b100_27 hF
    | apply b100_30 hF
    | apply b100_38 hF
    | apply b100_41 hF
    | apply b100_57 hF
    | apply b100_60 hF
    | apply b100_63 hF
    | apply b100_76 hF
    | apply b100_79 hF
    | apply b100_82 hF
    | apply b100_128 hF
    | apply b100_139 hF
    | apply b100_147 hF
    | apply b100_148 hF
    | apply b100_156 hF
    | apply b100_157 hF
    | apply b100_165 hF
    | apply b100_166 hF
    | apply b100_177 hF
    | apply b100_181 hF
    | apply b100_182 hF
    | apply b100_185 hF
    | apply b100_186 hF
    | apply b100_194 hF
    | apply b100_195 hF
    | apply b100_202 hF
    | apply b100_203 hF
    | apply b100_210 hF
    | exact kb (by omega)
    | with_reducible assumption
    | exact zI_nat _
    | exact zNb1
    | exact zNb0
    | omega
    | with_reducible rfl
    | exact zI_nI (by omega))
  have c : (0 ≤ s ∧ s ≤ 3) ∧ (0 ≤ one ∧ one < S 5 0) ∧ (0 ≤ row ∧ row ≤ 3) ∧ (0 ≤ what ∧ what ≤ 7) := by omega
  rw [if_pos c] at k
  obtain ⟨t, rfl⟩ : ∃ t : Nat, s = t := ⟨s.toNat, by omega⟩
  obtain ⟨i, rfl⟩ : ∃ i : Nat, one = i := ⟨one.toNat, by omega⟩
  obtain ⟨r, rfl⟩ : ∃ r : Nat, row = r := ⟨row.toNat, by omega⟩
  simp only [Int.toNat_natCast] at k
  have hr : r < 4 := by omega
  have ho : i < 5 := by omega
  have ht : t < 4 := by omega
  have hl := zSt4_k ht
  have hz24 := zrn_le (zgb S r) 24
  obtain ⟨w1, w2⟩ := hw t ht
  obtain ⟨g1, g2, g3⟩ := hH t ht
  generalize H t = X at *
  apply b100_44 hF (i1 := t) (zI_nat t) ht
  refine s102 hF hl w1 g1 ?_ ?_
  · intro c1
    rw [if_pos c1] at k
    apply b100_57 hF
    · intro c; exact absurd c (by decide)
    intro _
    exact b100_60 hF (k V (zFt_rfl V))
  intro c1
  rw [if_neg c1] at k
  apply b100_57 hF
  rotate_left
  · intro c; exact absurd rfl c
  intro _
  apply b100_63 hF hl
  apply s32 hF hb hS hW hr
  rw [g2]
  apply b100_76 hF
  rotate_left
  · intro c2
    simp (disch := omega) only [zI_le] at c2
    rw [if_pos (by omega)] at k
    exact b100_79 hF (k V (zFt_rfl V))
  intro c2
  simp (disch := omega) only [zI_le] at c2
  have hz : X.2.1 ≤ zrn (zgb S r) 24 := by omega
  rw [if_neg (by omega)] at k
  unfold yTell at k
  have go107 : ∀ b4 : Int, (what = 3 ∧ b4 = 0) ∨ (what = 4 ∧ b4 = 1) → E x F (d + 6) 100 182 [some (.ref 0), some (.int (Int32.ofInt ((t:Int)))), some (.int (Int32.ofInt ((i:Int)))), some (.int (Int32.ofInt ((r:Int)))), some (.int (Int32.ofInt (what))), some (.ref (51 + 2 * t))] [.int (Int32.ofInt (b4)), .int (Int32.ofInt ((r:Int))), .int (Int32.ofInt ((i:Int))), .ref (51 + 2 * t), .ref 0] (V, T) Q := by
    intro b4 h
    apply b100_182 hF hl
    apply b107_0 hF
    refine s107l hF hS hW hR hru ht g2 g3 ho hr hz (b4 := b4) (by omega) ?_ 100 0 V 0 0 (-1) rfl rfl rfl rfl (zFt_rfl V)
    intro V2 f2
    have K := k V2 f2
    rw [if_neg (by omega), if_neg (by omega), if_neg (by omega)] at K
    apply b100_185 hF
    rcases h with ⟨q1, rfl⟩ | ⟨q1, rfl⟩
    · rw [if_pos q1] at K
      rw [if_pos rfl]
      exact K
    · rw [if_neg (by omega), if_pos q1] at K
      rw [if_neg (by omega)]
      exact K
  apply b100_82 hF
  · intro c
    simp (disch := omega) only [zI_eq] at c
    simp only [if_pos c] at k
    apply b100_128 hF
    apply s83 hF hb7 hb (by omega) hS
    intro V2 hS2 f2
    have hf2 : zFt V V2 := fun a a1 a2 a3 a4 a5 a6 a7 => f2 a (by omega)
    apply b100_139 hF hl
    apply s103 hF hS2 hW (zFt_R hR hf2) hru ht (by rw [zFt_o hf2 (by omega)]; exact g2) (fun j hj => by rw [zFt_o hf2 (by omega)]; exact g3 j hj) ho hr hz
    intro V3 f3
    exact b100_147 hF (k V3 (zFt_tr hf2 f3))
  · intro c
    simp (disch := omega) only [zI_eq] at c
    rw [if_neg (by omega), if_pos c] at k
    apply b100_148 hF hl
    apply b104_0 hF
    refine s104l hF hS hW hR hru ht g2 g3 ho hr hz ?_ 6 0 V 0 0 rfl rfl rfl (zFt_rfl V)
    intro V2 f2
    exact b100_156 hF (k V2 f2)
  · intro c
    simp (disch := omega) only [zI_eq] at c
    rw [if_neg (by omega), if_neg (by omega), if_pos c] at k
    apply b100_157 hF hl
    apply b106_0 hF
    refine s106l hF hS hW hR hru ht g2 g3 ho hr hz ?_ 10 0 V 0 0 rfl rfl rfl (zFt_rfl V)
    intro V2 f2
    exact b100_165 hF (k V2 f2)
  · intro c
    simp (disch := omega) only [zI_eq] at c
    apply b100_166 hF hl
    · intro _
      apply b100_181 hF hl
      exact go107 0 (by omega)
    · intro c3
      simp (disch := omega) only [zI_eq, Decidable.not_not] at c3
      exfalso; omega
  · intro c
    simp (disch := omega) only [zI_eq] at c
    apply b100_166 hF hl
    · intro c3
      simp (disch := omega) only [zI_eq] at c3
      exfalso; omega
    · intro _
      apply b100_177 hF hl
      exact go107 1 (by omega)
  · intro c
    simp (disch := omega) only [zI_eq] at c
    rw [if_neg (by omega), if_neg (by omega), if_neg (by omega), if_neg (by omega), if_neg (by omega), if_pos c] at k
    apply b100_186 hF hl
    apply b108_0 hF
    refine s108l hF hS hW hR hru ht g2 g3 ho hr hz ?_ n 0 V 0 0 rfl rfl (Nat.zero_add _) (zFt_rfl V)
    intro V2 f2
    exact b100_194 hF (k V2 f2)
  · intro c
    simp (disch := omega) only [zI_eq] at c
    rw [if_neg (by omega), if_neg (by omega), if_neg (by omega), if_neg (by omega), if_neg (by omega), if_neg (by omega), if_pos c] at k
    apply b100_195 hF hl
    apply b109_0 hF
    refine s109l hF hS hW hR hru ht g2 g3 hr hz ?_ (S 5 0) 0 V 0 0 rfl rfl (Nat.zero_add _) (zFt_rfl V)
    intro V2 f2
    exact b100_202 hF (k V2 f2)
  · intro c
    simp (disch := omega) only [zI_eq] at c
    rw [if_neg (by omega), if_neg (by omega), if_neg (by omega), if_neg (by omega), if_neg (by omega), if_neg (by omega), if_neg (by omega)] at k
    apply b100_203 hF hl
    apply b110_0 hF
    refine s110l hF hS hW hR hru ht g2 g3 w2 ho ?_ 4 0 V 0 0 rfl rfl rfl (zFt_rfl V)
    intro V2 f2
    exact b100_210 hF (k V2 f2)
