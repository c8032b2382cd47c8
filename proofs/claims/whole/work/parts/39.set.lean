/-! set, gleaner: both -/
abbrev ySetOk (S : Nat → Nat → Nat) (what who v : Int) : Prop := (what = 0 ∧ 0 ≤ v ∧ v ≤ 999) ∨ (what = 1 ∧ (0 ≤ who ∧ who < S 5 0) ∧ 0 ≤ v ∧ v ≤ 9) ∨ (what = 2 ∧ (0 ≤ who ∧ who < S 5 0) ∧ 0 ≤ v ∧ v ≤ 999)
def ySetS (S : Nat → Nat → Nat) (what who v : Int) : Nat → Nat → Nat := if ySetOk S what who v then (if what = 0 then zu S 5 1 v.toNat else if what = 1 then zu S 3 who.toNat v.toNat else zu S 4 who.toNat v.toNat) else S
def ySet (S : Nat → Nat → Nat) (what who v : Int) : Int := if ySetOk S what who v then (if what = 0 then (S 5 1 : Int) else if what = 1 then (S 3 who.toNat : Int) else (S 4 who.toNat : Int)) else -2
theorem zWf_3 {S : Nat → Nat → Nat} (hW : zWf S) {i v : Nat} (hv : v ≤ 9) : zWf (zu S 3 i v) := by
  obtain ⟨h0, h1, h2, h3, h4⟩ := hW
  refine ⟨?_, ?_, ?_, ?_, ?_⟩
  · intro j hj
    rw [zu_ne (by omega), zu_ne (by omega)]; exact h0 j hj
  · intro j hj
    obtain ⟨g1, g2, g3⟩ := h1 j hj
    refine ⟨?_, ?_, ?_⟩
    · rw [zu_ne (by omega)]; exact g1
    · rw [zu_if]; split <;> omega
    · rw [zu_ne (by omega)]; exact g3
  · rw [zu_ne (by omega)]; exact h2
  · rw [zu_ne (by omega)]; exact h3
  · rw [zu_ne (by omega)]; exact h4
theorem zWf_4 {S : Nat → Nat → Nat} (hW : zWf S) {i v : Nat} (hv : v ≤ 999) : zWf (zu S 4 i v) := by
  obtain ⟨h0, h1, h2, h3, h4⟩ := hW
  refine ⟨?_, ?_, ?_, ?_, ?_⟩
  · intro j hj
    rw [zu_ne (by omega), zu_ne (by omega)]; exact h0 j hj
  · intro j hj
    obtain ⟨g1, g2, g3⟩ := h1 j hj
    refine ⟨?_, ?_, ?_⟩
    · rw [zu_ne (by omega)]; exact g1
    · rw [zu_ne (by omega)]; exact g2
    · rw [zu_if]; split <;> omega
  · rw [zu_ne (by omega)]; exact h2
  · rw [zu_ne (by omega)]; exact h3
  · rw [zu_ne (by omega)]; exact h4
theorem zWf_2 {S : Nat → Nat → Nat} (hW : zWf S) {i v : Nat} (hv : v ≤ 5) : zWf (zu S 2 i v) := by
  obtain ⟨h0, h1, h2, h3, h4⟩ := hW
  refine ⟨?_, ?_, ?_, ?_, ?_⟩
  · intro j hj
    rw [zu_ne (by omega), zu_ne (by omega)]; exact h0 j hj
  · intro j hj
    obtain ⟨g1, g2, g3⟩ := h1 j hj
    refine ⟨?_, ?_, ?_⟩
    · rw [zu_if]; split <;> omega
    · rw [zu_ne (by omega)]; exact g2
    · rw [zu_ne (by omega)]; exact g3
  · rw [zu_ne (by omega)]; exact h2
  · rw [zu_ne (by omega)]; exact h3
  · rw [zu_ne (by omega)]; exact h4
theorem zWf_5 {S : Nat → Nat → Nat} (hW : zWf S) {i v : Nat} (h : (i = 0 → v ≤ 5) ∧ (i = 1 → v ≤ 1000000) ∧ (i = 2 → v < 6)) : zWf (zu S 5 i v) := by
  obtain ⟨h0, h1, h2, h3, h4⟩ := hW
  refine ⟨?_, ?_, ?_, ?_, ?_⟩
  · intro j hj
    rw [zu_ne (by omega), zu_ne (by omega)]; exact h0 j hj
  · intro j hj
    rw [zu_ne (by omega), zu_ne (by omega), zu_ne (by omega)]; exact h1 j hj
  · rw [zu_if]; split <;> omega
  · rw [zu_if]; split <;> omega
  · rw [zu_if]; split <;> omega
theorem ySet_wf {S : Nat → Nat → Nat} (hW : zWf S) (what who v : Int) : zWf (ySetS S what who v) := by
  unfold ySetS
  split
  · rename_i c
    unfold ySetOk at c
    split
    · exact zWf_5 hW ⟨by omega, by omega, by omega⟩
    · split
      · exact zWf_3 hW (by omega)
      · exact zWf_4 hW (by omega)
  · exact hW
theorem s18 {x : zXs} {F : zF} (hF : zSh F) {d : Nat} {V : Nat → Nat → Int32} {T : Nat → Nat → Int64} {Q : Option Value → zG → Prop} {S : Nat → Nat → Nat} (hS : zCS 1 V S) (hW : zWf S) {l : Nat} (hl : zsh F l = 100 ∧ zln F l = 5) {who : Int} (h_who : -2147483648 ≤ who ∧ who ≤ 2147483647) {z : Int32} {o4 : Option Value} (k1 : 0 ≤ who ∧ who < S 5 0 → Q (some (.int (V l who.toNat))) (zu V l who.toNat z, T)) (k0 : ¬ (0 ≤ who ∧ who < S 5 0) → Q (some (.int (Int32.ofInt (-2)))) (V, T)) : E x F (d + 2) 18 0 [some (.ref 0), some (.ref l), some (.int (Int32.ofInt (who))), some (.int z), o4] [] (V, T) Q := by
  have hb : zSt 1 := Or.inl rfl
  have h5 := hW.2.2.1
  repeat' (first
    | (intro c; (try simp (disch := omega) only [zI_lt, zI_le, zI_eq, zI_0, zI_add, zI_sub, zI_mul, zI_neg, Int.reduceNeg, Int.reduceAdd, Int.reduceSub, Int.reduceMul, Decidable.not_not, Int.not_lt, Int.not_le, not_true_eq_false, not_false_eq_true] at c); (try (exfalso; omega)))
    | simp only [zI_add, zI_sub, zI_mul, zI_neg]
    | apply s19 hF hb hS hW h_who
    | apply b18_0 hF
    | apply b18_8 hF
    | apply b18_11 hF
    | exact k0 (by omega)
    | with_reducible assumption
    | exact zI_nat _
    | exact zNb1
    | exact zNb0
    | omega
    | with_reducible rfl
    | exact zI_nI (by omega))
  obtain ⟨i, rfl⟩ : ∃ i : Nat, who = i := ⟨who.toNat, by omega⟩
  rw [Int.toNat_natCast] at k1
  exact b18_14 hF hl (by omega) (i1 := i) (zI_nat i) (by omega) (i2 := i) (zI_nat i) (by omega) (k1 (by omega))
theorem s16 {x : zXs} {F : zF} (hF : zSh F) {d : Nat} {V : Nat → Nat → Int32} {T : Nat → Nat → Int64} {Q : Option Value → zG → Prop} {S : Nat → Nat → Nat} (hS : zCS 1 V S) (hW : zWf S) {what who v : Int} (h_what : -2147483648 ≤ what ∧ what ≤ 2147483647) (h_who : -2147483648 ≤ who ∧ who ≤ 2147483647) (h_v : -2147483648 ≤ v ∧ v ≤ 2147483647) (k : ∀ V2, zCS 1 V2 (ySetS S what who v) → yFn V V2 → Q (some (.int (Int32.ofInt (ySet S what who v)))) (V2, T)) : E x F (d + 3) 16 0 [some (.ref 0), some (.int (Int32.ofInt (what))), some (.int (Int32.ofInt (who))), some (.int (Int32.ofInt (v)))] [] (V, T) Q := by
  have hb : zSt 1 := Or.inl rfl
  have h5 := hW.2.2.1
  have kb : ¬ ySetOk S what who v → Q (some (.int (Int32.ofInt (-2)))) (V, T) := by
    intro c
    have k0 := k V (by unfold ySetS; rw [if_neg c]; exact hS) (yFn_rfl V)
    unfold ySet at k0
    rw [if_neg c] at k0
    exact k0
  have kb2 : ¬ ((what = 0 ∧ 0 ≤ v ∧ v ≤ 999) ∨ (what = 1 ∧ (0 ≤ who ∧ who < S 5 0) ∧ 0 ≤ v ∧ v ≤ 9) ∨ (what = 2 ∧ (0 ≤ who ∧ who < S 5 0) ∧ 0 ≤ v ∧ v ≤ 999)) → Q (some (.int (Int32.ofInt (-2)))) (V, T) := kb
  repeat' (first
    | (intro c; (try simp (disch := omega) only [zI_lt, zI_le, zI_eq, zI_0, zI_add, zI_sub, zI_mul, zI_neg, Int.reduceNeg, Int.reduceAdd, Int.reduceSub, Int.reduceMul, Decidable.not_not, Int.not_lt, Int.not_le, not_true_eq_false, not_false_eq_true] at c); (try (exfalso; omega)))
    | simp only [zI_add, zI_sub, zI_mul, zI_neg]
    | apply s7 hF h_v (by omega) (by omega)
    | apply b16_0 hF
    | apply b16_28 hF
    | apply b16_36 hF
    | apply b16_44 hF
    | apply b16_47 hF
    | apply b16_49 hF
    | apply b16_50 hF
    | apply b16_57 hF
    | apply b16_73 hF
    | apply b16_76 hF
    | apply b16_78 hF
    | apply b16_79 hF
    | apply b16_87 hF
    | apply b16_103 hF
    | apply b16_106 hF
    | apply b16_108 hF
    | apply b16_109 hF
    | exact kb2 (by omega)
    | with_reducible assumption
    | exact zI_nat _
    | exact zNb1
    | exact zNb0
    | omega
    | with_reducible rfl
    | exact zI_nI (by omega))
  · have c : ySetOk S what who v := by unfold ySetOk; omega
    obtain ⟨z, rfl⟩ : ∃ z : Nat, v = z := ⟨v.toNat, by omega⟩
    apply b16_39 hF
    apply b17_0 hF
    apply b16_44 hF
    apply b16_49 hF
    rw [hS.2.2.2.2.2.2.1]
    have e : ySet S what who (z : Int) = (S 5 1 : Int) := by
      unfold ySet
      rw [if_pos c, if_pos (by omega)]
    have e2 : ySetS S what who (z : Int) = zu S 5 1 z := by
      unfold ySetS
      rw [if_pos c, if_pos (by omega), Int.toNat_natCast]
    rw [e, e2] at k
    exact k _ (zCS_z5 (b := 1) (i := 1) (by omega) hS) (fun a h1 h2 h3 h4 h5 h6 h7 => zu_ne (by omega))
  · apply b16_60 hF
    refine s18 hF hS hW (zsh_at hF rfl) h_who ?_ ?_
    · intro c1
      have c : ySetOk S what who v := by unfold ySetOk; omega
      obtain ⟨z, rfl⟩ : ∃ z : Nat, v = z := ⟨v.toNat, by omega⟩
      obtain ⟨i, rfl⟩ : ∃ i : Nat, who = i := ⟨who.toNat, by omega⟩
      have e : ySet S what (i : Int) (z : Int) = (S 3 i : Int) := by
        unfold ySet
        rw [if_pos c, if_neg (by omega), if_pos (by omega), Int.toNat_natCast]
      have e2 : ySetS S what (i : Int) (z : Int) = zu S 3 i z := by
        unfold ySetS
        rw [if_pos c, if_neg (by omega), if_pos (by omega), Int.toNat_natCast, Int.toNat_natCast]
      rw [e, e2] at k
      apply b16_73 hF
      apply b16_78 hF
      rw [Int.toNat_natCast, hS.2.2.2.1 i (by omega)]
      exact k _ (zCS_zu (b := 1) (f := 3) (by omega) hS) (fun a h1 h2 h3 h4 h5 h6 h7 => zu_ne (by omega))
    · intro c1
      apply b16_73 hF
      apply b16_78 hF
      exact kb2 (by omega)
  · apply b16_90 hF
    refine s18 hF hS hW (zsh_at hF rfl) h_who ?_ ?_
    · intro c1
      have c : ySetOk S what who v := by unfold ySetOk; omega
      obtain ⟨z, rfl⟩ : ∃ z : Nat, v = z := ⟨v.toNat, by omega⟩
      obtain ⟨i, rfl⟩ : ∃ i : Nat, who = i := ⟨who.toNat, by omega⟩
      have e : ySet S what (i : Int) (z : Int) = (S 4 i : Int) := by
        unfold ySet
        rw [if_pos c, if_neg (by omega), if_neg (by omega), Int.toNat_natCast]
      have e2 : ySetS S what (i : Int) (z : Int) = zu S 4 i z := by
        unfold ySetS
        rw [if_pos c, if_neg (by omega), if_neg (by omega), Int.toNat_natCast, Int.toNat_natCast]
      rw [e, e2] at k
      apply b16_103 hF
      apply b16_108 hF
      rw [Int.toNat_natCast, hS.2.2.2.2.1 i (by omega)]
      exact k _ (zCS_zu (b := 1) (f := 4) (by omega) hS) (fun a h1 h2 h3 h4 h5 h6 h7 => zu_ne (by omega))
    · intro c1
      apply b16_103 hF
      apply b16_108 hF
      exact kb2 (by omega)
/-- one comes -/
def yComS (S : Nat → Nat → Nat) (kind num : Int) : Nat → Nat → Nat := if ((0 ≤ kind ∧ kind ≤ 5) ∧ (0 ≤ num ∧ num ≤ 9)) ∧ S 5 0 < 5 then zu (zu (zu (zu S 2 (S 5 0) kind.toNat) 3 (S 5 0) num.toNat) 4 (S 5 0) 0) 5 0 (S 5 0 + 1) else S
def yCom (S : Nat → Nat → Nat) (kind num : Int) : Int := if (0 ≤ kind ∧ kind ≤ 5) ∧ (0 ≤ num ∧ num ≤ 9) then (if S 5 0 < 5 then (S 5 0 : Int) else -4) else -2
theorem yCom_wf {S : Nat → Nat → Nat} (hW : zWf S) (kind num : Int) : zWf (yComS S kind num) := by
  unfold yComS
  split
  · exact zWf_5 (zWf_4 (zWf_3 (zWf_2 hW (by omega)) (by omega)) (by omega)) ⟨by omega, by omega, by omega⟩
  · exact hW
theorem s21 {x : zXs} {F : zF} (hF : zSh F) {d : Nat} {V : Nat → Nat → Int32} {T : Nat → Nat → Int64} {Q : Option Value → zG → Prop} {S : Nat → Nat → Nat} (hS : zCS 1 V S) (hW : zWf S) {kind num : Int} (h_kind : -2147483648 ≤ kind ∧ kind ≤ 2147483647) (h_num : -2147483648 ≤ num ∧ num ≤ 2147483647) {o3 : Option Value} (k : ∀ V2, zCS 1 V2 (yComS S kind num) → yFn V V2 → Q (some (.int (Int32.ofInt (yCom S kind num)))) (V2, T)) : E x F (d + 1) 21 0 [some (.ref 1), some (.int (Int32.ofInt (kind))), some (.int (Int32.ofInt (num))), o3] [] (V, T) Q := by
  have hb : zSt 1 := Or.inl rfl
  have h5 := hW.2.2.1
  have hc := hS.2.2.2.2.2.1
  have kb : ¬ ((0 ≤ kind ∧ kind ≤ 5) ∧ (0 ≤ num ∧ num ≤ 9)) → Q (some (.int (Int32.ofInt (-2)))) (V, T) := by
    intro c
    have k0 := k V (by unfold yComS; rw [if_neg (by omega)]; exact hS) (yFn_rfl V)
    unfold yCom at k0
    rw [if_neg c] at k0
    exact k0
  repeat' (first
    | (intro c; (try simp (disch := omega) only [zI_lt, zI_le, zI_eq, zI_0, zI_add, zI_sub, zI_mul, zI_neg, Int.reduceNeg, Int.reduceAdd, Int.reduceSub, Int.reduceMul, Decidable.not_not, Int.not_lt, Int.not_le, not_true_eq_false, not_false_eq_true] at c); (try (exfalso; omega)))
    | simp only [zI_add, zI_sub, zI_mul, zI_neg]
    | apply s7 hF h_kind (by omega) (by omega)
    | apply s7 hF h_num (by omega) (by omega)
    | apply b21_0 hF
    | apply b21_6 hF
    | apply b21_9 hF
    | apply b21_16 hF
    | apply b21_19 hF
    | exact kb (by omega)
    | with_reducible assumption
    | exact zI_nat _
    | exact zNb1
    | exact zNb0
    | omega
    | with_reducible rfl
    | exact zI_nI (by omega))
  have c : (0 ≤ kind ∧ kind ≤ 5) ∧ (0 ≤ num ∧ num ≤ 9) := by omega
  unfold yCom at k
  rw [if_pos c] at k
  unfold yComS at k
  apply b21_22 hF hb
  · rw [hc]
    intro c2
    simp (disch := omega) only [zI_lt] at c2
    rw [if_pos (by omega), if_pos (by omega)] at k
    obtain ⟨a, rfl⟩ : ∃ a : Nat, kind = a := ⟨kind.toNat, by omega⟩
    obtain ⟨b, rfl⟩ : ∃ b : Nat, num = b := ⟨num.toNat, by omega⟩
    simp only [Int.toNat_natCast] at k
    apply b21_33 hF hb (i1 := S 5 0) (by rw [hc]; exact zI_nat _) (by omega) (i2 := S 5 0) (by rw [hc]; exact zI_nat _) (by omega) (i3 := S 5 0) (by rw [hc]; exact zI_nat _) (by omega)
    simp (disch := omega) only [zu_ne]
    rw [hc, zI_add]
    have e : (S 5 0 : Int) + 1 = ((S 5 0 + 1 : Nat) : Int) := by omega
    rw [e]
    exact k _ (zCS_z5 (i := 0) (by omega) (zCS_zu (f := 4) (by omega) (zCS_zu (f := 3) (by omega) (zCS_zu (f := 2) (by omega) hS)))) (fun a h1 h2 h3 h4 h5 h6 h7 => by simp (disch := omega) only [zu_ne])
  · rw [hc]
    intro c2
    simp (disch := omega) only [zI_lt] at c2
    rw [if_neg (by omega), if_neg (by omega)] at k
    exact b21_30 hF (k V hS (yFn_rfl V))
theorem s20 {x : zXs} {F : zF} (hF : zSh F) {d : Nat} {V : Nat → Nat → Int32} {T : Nat → Nat → Int64} {Q : Option Value → zG → Prop} {S : Nat → Nat → Nat} (hS : zCS 1 V S) (hW : zWf S) {kind num : Int} (h_kind : -2147483648 ≤ kind ∧ kind ≤ 2147483647) (h_num : -2147483648 ≤ num ∧ num ≤ 2147483647) (k : ∀ V2, zCS 1 V2 (yComS S kind num) → yFn V V2 → Q (some (.int (Int32.ofInt (yCom S kind num)))) (V2, T)) : E x F (d + 2) 20 0 [some (.ref 0), some (.int (Int32.ofInt (kind))), some (.int (Int32.ofInt (num)))] [] (V, T) Q := by
  apply b20_0 hF
  apply s21 hF hS hW h_kind h_num
  intro V2 h1 h2
  exact b20_9 hF (k V2 h1 h2)
theorem s163 {x : zXs} {F : zF} (hF : zSh F) {d : Nat} {V : Nat → Nat → Int32} {T : Nat → Nat → Int64} {Q : Option Value → zG → Prop} {S : Nat → Nat → Nat} (hS : zMS V S) (hW : zWf S) {kind num : Int} (h_kind : -2147483648 ≤ kind ∧ kind ≤ 2147483647) (h_num : -2147483648 ≤ num ∧ num ≤ 2147483647) (k : ∀ V2, zMS V2 (yComS S kind num) → yFq V V2 → Q (some (.int (Int32.ofInt (yCom S kind num)))) (V2, T)) : E x F (d + 1) 163 0 [some (.ref 59), some (.int (Int32.ofInt (kind))), some (.int (Int32.ofInt (num)))] [] (V, T) Q := by
  have h5 := hW.2.2.1
  have hc := hS.2.2.2.2.2.1
  have kb : ¬ ((0 ≤ kind ∧ kind ≤ 5) ∧ (0 ≤ num ∧ num ≤ 9)) → Q (some (.int (Int32.ofInt (-2)))) (V, T) := by
    intro c
    have k0 := k V (by unfold yComS; rw [if_neg (by omega)]; exact hS) (yFq_rfl V)
    unfold yCom at k0
    rw [if_neg c] at k0
    exact k0
  repeat' (first
    | (intro c; (try simp (disch := omega) only [zI_lt, zI_le, zI_eq, zI_0, zI_add, zI_sub, zI_mul, zI_neg, Int.reduceNeg, Int.reduceAdd, Int.reduceSub, Int.reduceMul, Decidable.not_not, Int.not_lt, Int.not_le, not_true_eq_false, not_false_eq_true] at c); (try (exfalso; omega)))
    | simp only [zI_add, zI_sub, zI_mul, zI_neg]
    | apply s132v hF h_kind (lo := 0) (hi := 5) (by omega) (by omega)
    | apply s132v hF h_num (lo := 0) (hi := 9) (by omega) (by omega)
    | apply b163_0 hF
    | apply b163_9 hF
    | apply b163_12 hF
    | apply b163_21 hF
    | apply b163_24 hF
    | exact kb (by omega)
    | with_reducible assumption
    | exact zI_nat _
    | exact zNb1
    | exact zNb0
    | omega
    | with_reducible rfl
    | exact zI_nI (by omega))
  have c : (0 ≤ kind ∧ kind ≤ 5) ∧ (0 ≤ num ∧ num ≤ 9) := by omega
  unfold yCom at k
  rw [if_pos c] at k
  unfold yComS at k
  apply b163_27 hF
  · rw [hc]
    intro c2
    simp (disch := omega) only [zI_eq] at c2
    rw [if_pos (by omega), if_pos (by omega)] at k
    obtain ⟨a, rfl⟩ : ∃ a : Nat, kind = a := ⟨kind.toNat, by omega⟩
    obtain ⟨b, rfl⟩ : ∃ b : Nat, num = b := ⟨num.toNat, by omega⟩
    simp only [Int.toNat_natCast] at k
    have e2 : Int32.ofInt 2 * Int32.ofInt (S 5 0 : Int) = Int32.ofInt ((2 * S 5 0 : Nat) : Int) := by
      rw [zI_mul]; congr 1
    have e3 : Int32.ofInt 2 * Int32.ofInt (S 5 0 : Int) + Int32.ofInt 1 = Int32.ofInt ((2 * S 5 0 + 1 : Nat) : Int) := by
      rw [e2, zI_add]; congr 1
    apply b163_38 hF (i1 := S 5 0) (by rw [hc]; exact zI_nat _) (by omega) (i2 := 2 * S 5 0) (by simp (disch := omega) only [zu_ne]; rw [hc]; exact e2.trans (zI_nat _)) (by omega) (i3 := 2 * S 5 0 + 1) (by simp (disch := omega) only [zu_ne]; rw [hc]; exact e3.trans (zI_nat _)) (by omega)
    rw [zuN_at]
    simp (disch := omega) only [zu_ne]
    rw [hc, zI_add, zI_sub]
    have e : (S 5 0 : Int) + 1 = ((S 5 0 + 1 : Nat) : Int) := by omega
    have e4 : (S 5 0 : Int) + 1 - 1 = (S 5 0 : Int) := by omega
    rw [e4, e]
    exact k _ (zMS_z5 (i := 0) (by omega) (zMS_z34 (f := 1) (i := S 5 0) (by omega) (zMS_z34 (f := 0) (by omega) (zMS_z2 hS)))) ⟨fun a h1 h2 => by simp (disch := omega) only [zu_ne], fun j hj => by rw [zuN_nk (by omega)]; simp (disch := omega) only [zu_ne]⟩
  · rw [hc]
    intro c2
    simp (disch := omega) only [zI_eq, Decidable.not_not] at c2
    rw [if_neg (by omega), if_neg (by omega)] at k
    exact b163_35 hF (k V hS (yFq_rfl V))
