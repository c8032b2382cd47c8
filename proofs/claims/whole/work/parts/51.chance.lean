/-! drawn, chance, film: both -/
theorem yDm_in {w : Nat → Nat → (Nat → Int32) → Int32} {S : Nat → Nat → Nat} (hW : zWg S) {one L B : Nat} (ho : one < 5) (hL : L ≤ 24) : -24 ≤ yDm w S one L B ∧ yDm w S one L B ≤ 24 := (yGl_tot hW ho hL).1
def yDrw (w : Nat → Nat → (Nat → Int32) → Int32) (S : Nat → Nat → Nat) (seed : Int32) (one : Int) : Int := if 0 ≤ one ∧ one < S 5 0 then yDn w S seed one.toNat else -100
theorem s116 {x : zXs} {F : zF} (hF : zSh F) {d : Nat} {V : Nat → Nat → Int32} {T : Nat → Nat → Int64} {Q : Option Value → zG → Prop} {S : Nat → Nat → Nat} (hS : zCS 1 V S) (hW : zWf S) {n : Nat} {w : Nat → Nat → (Nat → Int32) → Int32} (hR : zRu V n w) (hru : S 5 2 < n) {seed : Int32} {one : Int} (h_one : -2147483648 ≤ one ∧ one ≤ 2147483647) (k : ∀ V2, zFt V V2 → Q (some (.int (Int32.ofInt (yDrw w S seed one)))) (V2, T)) : E x F (d + 5) 116 0 [some (.ref 0), some (.int seed), some (.int (Int32.ofInt (one)))] [] (V, T) Q := by
  have hb : zSt 1 := Or.inl rfl
  have h5 := hW.2.2.1
  unfold yDrw at k
  apply b116_0 hF
  refine s19 hF hb hS hW h_one ?_ ?_
  · intro c
    rw [if_pos c] at k
    apply b116_8 hF
    · intro c; exact absurd c (by decide)
    intro _
    obtain ⟨i, rfl⟩ : ∃ i : Nat, one = i := ⟨one.toNat, by omega⟩
    rw [Int.toNat_natCast] at k
    apply b116_11 hF
    apply s117 hF hS hW hR hru (by omega)
    intro V2 f2
    exact b116_17 hF (b116_22 hF (k V2 f2))
  · intro c
    rw [if_neg c] at k
    apply b116_8 hF
    · intro _
      exact b116_20 hF (b116_22 hF (k V (fun _ _ _ _ _ _ _ _ => rfl)))
    · intro c; exact absurd rfl c
theorem s200 {x : zXs} {F : zF} (hF : zSh F) {d : Nat} {V : Nat → Nat → Int32} {T : Nat → Nat → Int64} {Q : Option Value → zG → Prop} {S : Nat → Nat → Nat} (hS : zMS V S) (hW : zWf S) {n : Nat} {w : Nat → Nat → (Nat → Int32) → Int32} (hR : zRd x F V n w) (hru : S 5 2 < n) {seed : Int32} {one : Int} (h_one : -2147483648 ≤ one ∧ one ≤ 2147483647) (k : ∀ V2 T2, zMS V2 S → yFr V V2 → Q (some (.int (Int32.ofInt (yDrw w S seed one)))) (V2, T2)) : E x F (d + 55) 200 0 [some (.ref 59), some (.int seed), some (.int (Int32.ofInt (one)))] [] (V, T) Q := by
  have h5 := hW.2.2.1
  unfold yDrw at k
  apply b200_0 hF
  refine s136 hF hS h5 h_one ?_ ?_
  · intro c
    rw [if_pos c] at k
    apply b200_5 hF
    · intro c; exact absurd c (by decide)
    intro _
    obtain ⟨i, rfl⟩ : ∃ i : Nat, one = i := ⟨one.toNat, by omega⟩
    rw [Int.toNat_natCast] at k
    apply b200_8 hF
    apply s201 hF hS hW hR hru (by omega)
    intro V2 T2 h2 f2
    exact b200_14 hF (b200_19 hF (k V2 T2 h2 f2))
  · intro c
    rw [if_neg c] at k
    apply b200_5 hF
    · intro _
      exact b200_17 hF (b200_19 hF (k V T hS (yFr_rfl V)))
    · intro c; exact absurd rfl c
/-- of the first seeds, how many take so much -/
def yCh (w : Nat → Nat → (Nat → Int32) → Int32) (S : Nat → Nat → Nat) (seed : Int32) (one : Nat) (g : Int) : Nat → Nat
  | 0 => 0
  | m + 1 => yCh w S seed one g m + (if yDn w S (seed + Int32.ofInt (m : Int)) one < g then 0 else 1)
theorem yCh_le {w : Nat → Nat → (Nat → Int32) → Int32} {S : Nat → Nat → Nat} {seed : Int32} {one : Nat} {g : Int} : ∀ m, yCh w S seed one g m ≤ m := by
  intro m
  induction m with
  | zero => exact Nat.le_refl _
  | succ m ih =>
    rw [yCh]
    split <;> omega
def yChance (w : Nat → Nat → (Nat → Int32) → Int32) (S : Nat → Nat → Nat) (seed : Int32) (m one g part : Int) : Int := if (1 ≤ m ∧ m ≤ 20) ∧ (0 ≤ one ∧ one < S 5 0) ∧ (0 ≤ g ∧ g ≤ 24) ∧ (0 ≤ part ∧ part ≤ 1) then yLow (yCh w S seed one.toNat g m.toNat) m.toNat part else -4611686018427387904
theorem s118l {x : zXs} {F : zF} (hF : zSh F) {d : Nat} {V : Nat → Nat → Int32} {T : Nat → Nat → Int64} {Q : Option Value → zG → Prop} {S : Nat → Nat → Nat} (hS : zCS 1 V S) (hW : zWf S) {n : Nat} {w : Nat → Nat → (Nat → Int32) → Int32} (hR : zRu V n w) (hru : S 5 2 < n) {seed : Int32} {one M : Nat} (ho : one < 5) (hM : M ≤ 20) {g : Int} (hg : 0 ≤ g ∧ g ≤ 24) {o5 : Option Value} : ∀ (m i : Nat) (V1 : Nat → Nat → Int32) (P C : Int), P = i → i + m = M → C = (yCh w S seed one g i : Int) → zFt V V1 → (∀ V2, zFt V V2 → ∀ o7 : Option Value, E x F (d + 5) 118 81 [some (.ref 0), some (.int seed), some (.int (Int32.ofInt ((M:Int)))), some (.int (Int32.ofInt ((one:Int)))), some (.int (Int32.ofInt (g))), o5, some (.int (Int32.ofInt ((yCh w S seed one g M : Int)))), o7] [] (V2, T) Q) → E x F (d + 5) 118 52 [some (.ref 0), some (.int seed), some (.int (Int32.ofInt ((M:Int)))), some (.int (Int32.ofInt ((one:Int)))), some (.int (Int32.ofInt (g))), o5, some (.int (Int32.ofInt (C))), some (.int (Int32.ofInt (P)))] [] (V1, T) Q := by
  intro m
  induction m with
  | zero =>
    intro i V1 P C hP hi hC hf K
    subst hP
    subst hC
    have hiM : i = M := by omega
    subst hiM
    apply b118_52 hF
    · intro _
      exact K V1 hf _
    · intro c
      simp (disch := omega) only [zI_le] at c
      exfalso; omega
  | succ m ih =>
    intro i V1 P C hP hi hC hf K
    subst hP
    have hn : yCh w S seed one g (i + 1) = yCh w S seed one g i + (if yDn w S (seed + Int32.ofInt (i : Int)) one < g then 0 else 1) := rfl
    have hbd := yDm_in (w := w) (B := (yDr (seed + Int32.ofInt (i : Int)) 24).2) hW.2.1 ho (Nat.le_refl 24)
    have hbd2 : -24 ≤ yDn w S (seed + Int32.ofInt (i : Int)) one ∧ yDn w S (seed + Int32.ofInt (i : Int)) one ≤ 24 := hbd
    clear hbd
    apply b118_52 hF
    · intro c
      simp (disch := omega) only [zI_le] at c
      exfalso; omega
    intro _
    apply b118_58 hF
    have hS1 : zCS 1 V1 S := zCS_fr hS (fun a a1 a2 => hf a (by omega) (by omega) (by omega) (by omega) (by omega) (by omega) (by omega))
    have hR1 : zRu V1 n w := zRu_fr hR (fun a ha => hf a (by omega) (by omega) (by omega) (by omega) (by omega) (by omega) (by omega))
    apply s117 hF hS1 hW hR1 hru ho
    intro V2 f2
    have hf2 : zFt V V2 := fun a a1 a2 a3 a4 a5 a6 a7 => (f2 a a1 a2 a3 a4 a5 a6 a7).trans (hf a a1 a2 a3 a4 a5 a6 a7)
    generalize yDn w S (seed + Int32.ofInt (i : Int)) one = z at *
    apply b118_67 hF
    · intro c
      simp (disch := omega) only [zI_lt] at c
      rw [if_pos c] at hn
      apply b118_75 hF
      rw [zI_add]
      exact ih (i + 1) V2 _ _ (by omega) (by omega) (by omega) hf2 K
    · intro c
      simp (disch := omega) only [zI_lt] at c
      rw [if_neg c] at hn
      apply b118_72 hF
      apply b118_75 hF
      rw [zI_add, zI_add]
      exact ih (i + 1) V2 _ _ (by omega) (by omega) (by omega) hf2 K
theorem s118 {x : zXs} {F : zF} (hF : zSh F) {d : Nat} {V : Nat → Nat → Int32} {T : Nat → Nat → Int64} {Q : Option Value → zG → Prop} {S : Nat → Nat → Nat} (hS : zCS 1 V S) (hW : zWf S) {n : Nat} {w : Nat → Nat → (Nat → Int32) → Int32} (hR : zRu V n w) (hru : S 5 2 < n) {seed : Int32} {m one g part : Int} (h_m : -2147483648 ≤ m ∧ m ≤ 2147483647) (h_one : -2147483648 ≤ one ∧ one ≤ 2147483647) (h_g : -2147483648 ≤ g ∧ g ≤ 2147483647) (h_part : -2147483648 ≤ part ∧ part ≤ 2147483647) (k : ∀ V2, zFt V V2 → Q (some (.long (Int64.ofInt (yChance w S seed m one g part)))) (V2, T)) {o6 o7 : Option Value} : E x F (d + 5) 118 0 [some (.ref 0), some (.int seed), some (.int (Int32.ofInt (m))), some (.int (Int32.ofInt (one))), some (.int (Int32.ofInt (g))), some (.int (Int32.ofInt (part))), o6, o7] [] (V, T) Q := by
  have hb : zSt 1 := Or.inl rfl
  have h5 := hW.2.2.1
  unfold yChance at k
  have kb : ¬ ((1 ≤ m ∧ m ≤ 20) ∧ (0 ≤ one ∧ one < S 5 0) ∧ (0 ≤ g ∧ g ≤ 24) ∧ (0 ≤ part ∧ part ≤ 1)) → Q (some (.long (-4611686018427387904 : Int64))) (V, T) := by
    intro c
    rw [if_neg c] at k
    exact k V (fun _ _ _ _ _ _ _ _ => rfl)
  repeat' (first
    | (intro c; (try simp (disch := omega) only [zI_lt, zI_le, zI_eq, zI_0, zI_add, zI_sub, zI_mul, zI_neg, Int.reduceNeg, Int.reduceAdd, Int.reduceSub, Int.reduceMul, Decidable.not_not, Int.not_lt, Int.not_le, not_true_eq_false, not_false_eq_true] at c); (try (exfalso; omega)))
    | simp only [zI_add, zI_sub, zI_mul, zI_neg]
    | apply s19 hF hb hS hW h_one
    | apply s7 hF h_m (by omega) (by omega)
    | apply s7 hF h_g (by omega) (by omega)
    | apply s7 hF h_part (by omega) (by omega)
    | apply b118_0 hF
    | apply b118_7 hF
    | apply b118_10 hF
    | apply b118_18 hF
    | apply b118_21 hF
    | apply b118_29 hF
    | apply b118_32 hF
    | apply b118_39 hF
    | apply b118_42 hF
    | apply b118_52 hF
    | apply b118_58 hF
    | apply b118_67 hF
    | apply b118_72 hF
    | apply b118_75 hF
    | apply b118_81 hF
    | apply b118_89 hF
    | exact kb (by omega)
    | with_reducible assumption
    | exact zI_nat _
    | exact zNb1
    | exact zNb0
    | omega
    | with_reducible rfl
    | exact zI_nI (by omega))
  have c : (1 ≤ m ∧ m ≤ 20) ∧ (0 ≤ one ∧ one < S 5 0) ∧ (0 ≤ g ∧ g ≤ 24) ∧ (0 ≤ part ∧ part ≤ 1) := by omega
  simp only [if_pos c] at k
  obtain ⟨i, rfl⟩ : ∃ i : Nat, one = i := ⟨one.toNat, by omega⟩
  obtain ⟨M, rfl⟩ : ∃ M : Nat, m = M := ⟨m.toNat, by omega⟩
  simp only [Int.toNat_natCast] at k
  apply b118_46 hF
  refine s118l hF hS hW hR hru (by omega) (by omega) (by omega) M 0 V 0 0 rfl (Nat.zero_add _) rfl (fun _ _ _ _ _ _ _ _ => rfl) ?_
  intro V2 f2 o7
  have hle := yCh_le (w := w) (S := S) (seed := seed) (one := i) (g := g) M
  apply b118_81 hF
  apply s98 hF (by omega) (by omega) h_part
  exact b118_89 hF (k V2 f2)
theorem s202l {x : zXs} {F : zF} (hF : zSh F) {d : Nat} {V : Nat → Nat → Int32} {T : Nat → Nat → Int64} {Q : Option Value → zG → Prop} {S : Nat → Nat → Nat} (hS : zMS V S) (hW : zWf S) {n : Nat} {w : Nat → Nat → (Nat → Int32) → Int32} (hR : zRd x F V n w) (hru : S 5 2 < n) {seed : Int32} {one M : Nat} (ho : one < 5) (hM : M ≤ 20) {g : Int} (hg : 0 ≤ g ∧ g ≤ 24) {o5 : Option Value} : ∀ (m i : Nat) (V1 : Nat → Nat → Int32) (T1 : Nat → Nat → Int64) (P C : Int), P = i → i + m = M → C = (yCh w S seed one g i : Int) → zMS V1 S → yFr V V1 → (∀ V2 T2, zMS V2 S → yFr V V2 → ∀ o7 o8 : Option Value, E x F (d + 55) 202 90 [some (.ref 59), some (.int seed), some (.int (Int32.ofInt ((M:Int)))), some (.int (Int32.ofInt ((one:Int)))), some (.int (Int32.ofInt (g))), o5, some (.long (Int64.ofInt (yCh w S seed one g M : Int))), o7, o8] [] (V2, T2) Q) → E x F (d + 55) 202 54 [some (.ref 59), some (.int seed), some (.int (Int32.ofInt ((M:Int)))), some (.int (Int32.ofInt ((one:Int)))), some (.int (Int32.ofInt (g))), o5, some (.long (Int64.ofInt C)), none, some (.int (Int32.ofInt (P)))] [] (V1, T1) Q := by
  intro m
  induction m with
  | zero =>
    intro i V1 T1 P C hP hi hC hS1 hf K
    subst hP
    subst hC
    have hiM : i = M := by omega
    subst hiM
    apply b202_54 hF
    · intro _
      exact K V1 T1 hS1 hf _ _
    · intro c
      simp (disch := omega) only [zI_le] at c
      exfalso; omega
  | succ m ih =>
    intro i V1 T1 P C hP hi hC hS1 hf K
    subst hP
    have hn : yCh w S seed one g (i + 1) = yCh w S seed one g i + (if yDn w S (seed + Int32.ofInt (i : Int)) one < g then 0 else 1) := rfl
    have hbd := yDm_in (w := w) (B := (yDr (seed + Int32.ofInt (i : Int)) 24).2) hW.2.1 ho (Nat.le_refl 24)
    have hbd2 : -24 ≤ yDn w S (seed + Int32.ofInt (i : Int)) one ∧ yDn w S (seed + Int32.ofInt (i : Int)) one ≤ 24 := hbd
    clear hbd
    apply b202_54 hF
    · intro c
      simp (disch := omega) only [zI_le] at c
      exfalso; omega
    intro _
    apply b202_60 hF
    have hR1 : zRd x F V1 n w := zRd_fr hR (hf.1 60 (by omega) (by omega)) (hf.1 61 (by omega) (by omega))
    apply s201 hF hS1 hW hR1 hru ho
    intro V2 T2 hS2 f2
    have hf2 := yFr_tr hf f2
    generalize yDn w S (seed + Int32.ofInt (i : Int)) one = z at *
    apply b202_71 hF
    · intro c
      simp (disch := omega) only [zI_lt] at c
      rw [if_pos c] at hn
      apply b202_80 hF
      apply b202_81 hF
      rw [zI_add, show Int64.ofInt C + 0 = Int64.ofInt (C + 0) from (Int64.ofInt_add C 0).symm]
      exact ih (i + 1) V2 T2 _ _ (by omega) (by omega) (by omega) hS2 hf2 K
    · intro c
      simp (disch := omega) only [zI_lt] at c
      rw [if_neg c] at hn
      apply b202_76 hF
      apply b202_81 hF
      rw [zI_add, show Int64.ofInt C + 1 = Int64.ofInt (C + 1) from (Int64.ofInt_add C 1).symm]
      exact ih (i + 1) V2 T2 _ _ (by omega) (by omega) (by omega) hS2 hf2 K
theorem s202 {x : zXs} {F : zF} (hF : zSh F) {d : Nat} {V : Nat → Nat → Int32} {T : Nat → Nat → Int64} {Q : Option Value → zG → Prop} {S : Nat → Nat → Nat} (hS : zMS V S) (hW : zWf S) {n : Nat} {w : Nat → Nat → (Nat → Int32) → Int32} (hR : zRd x F V n w) (hru : S 5 2 < n) {seed : Int32} {m one g part : Int} (h_m : -2147483648 ≤ m ∧ m ≤ 2147483647) (h_one : -2147483648 ≤ one ∧ one ≤ 2147483647) (h_g : -2147483648 ≤ g ∧ g ≤ 2147483647) (h_part : -2147483648 ≤ part ∧ part ≤ 2147483647) (k : ∀ V2 T2, zMS V2 S → yFr V V2 → Q (some (.long (Int64.ofInt (yChance w S seed m one g part)))) (V2, T2)) {o6 o7 o8 : Option Value} : E x F (d + 55) 202 0 [some (.ref 59), some (.int seed), some (.int (Int32.ofInt (m))), some (.int (Int32.ofInt (one))), some (.int (Int32.ofInt (g))), some (.int (Int32.ofInt (part))), o6, o7, o8] [] (V, T) Q := by
  have h5 := hW.2.2.1
  unfold yChance at k
  have kb : ¬ ((1 ≤ m ∧ m ≤ 20) ∧ (0 ≤ one ∧ one < S 5 0) ∧ (0 ≤ g ∧ g ≤ 24) ∧ (0 ≤ part ∧ part ≤ 1)) → Q (some (.long (-4611686018427387904 : Int64))) (V, T) := by
    intro c
    rw [if_neg c] at k
    exact k V T hS (yFr_rfl V)
  repeat' (first
    | (intro c; (try simp (disch := omega) only [zI_lt, zI_le, zI_eq, zI_0, zI_add, zI_sub, zI_mul, zI_neg, Int.reduceNeg, Int.reduceAdd, Int.reduceSub, Int.reduceMul, Decidable.not_not, Int.not_lt, Int.not_le, not_true_eq_false, not_false_eq_true] at c); (try (exfalso; omega)))
    | simp only [zI_add, zI_sub, zI_mul, zI_neg]
    | apply s136 hF hS h5 h_one
    | apply s132v hF h_m (lo := 1) (hi := 20) (by omega) (by omega)
    | apply s132v hF h_g (lo := 0) (hi := 24) (by omega) (by omega)
    | apply s132v hF h_part (lo := 0) (hi := 1) (by omega) (by omega)
    | apply b202_0 hF
    | apply b202_9 hF
    | apply b202_12 hF
    | apply b202_17 hF
    | apply b202_20 hF
    | apply b202_30 hF
    | apply b202_33 hF
    | apply b202_41 hF
    | apply b202_44 hF
    | apply b202_54 hF
    | apply b202_60 hF
    | apply b202_71 hF
    | apply b202_76 hF
    | apply b202_80 hF
    | apply b202_81 hF
    | apply b202_90 hF
    | apply b202_99 hF
    | exact kb (by omega)
    | with_reducible assumption
    | exact zI_nat _
    | exact zNb1
    | exact zNb0
    | omega
    | with_reducible rfl
    | exact zI_nI (by omega))
  have c : (1 ≤ m ∧ m ≤ 20) ∧ (0 ≤ one ∧ one < S 5 0) ∧ (0 ≤ g ∧ g ≤ 24) ∧ (0 ≤ part ∧ part ≤ 1) := by omega
  simp only [if_pos c] at k
  obtain ⟨i, rfl⟩ : ∃ i : Nat, one = i := ⟨one.toNat, by omega⟩
  obtain ⟨M, rfl⟩ : ∃ M : Nat, m = M := ⟨m.toNat, by omega⟩
  simp only [Int.toNat_natCast] at k
  apply b202_48 hF
  refine s202l hF (T := T) hS hW hR hru (by omega) (by omega) (by omega) M 0 V T 0 0 rfl (Nat.zero_add _) rfl hS (yFr_rfl V) ?_
  intro V2 T2 hS2 f2 o7 o8
  have hle := yCh_le (w := w) (S := S) (seed := seed) (one := i) (g := g) M
  apply b202_90 hF
  rw [zJ_of (a := (M : Int)) (by omega)]
  apply s192 hF (by omega) (by omega) h_part
  exact b202_99 hF (k V2 T2 hS2 f2)
