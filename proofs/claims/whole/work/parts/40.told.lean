/-! told, run, asks: both; set: the reference -/
def yTold (w : Nat → Nat → (Nat → Int32) → Int32) (S : Nat → Nat → Nat) (who what : Int) : Int :=
  if what = 0 then (S 5 1 : Int)
  else if 1 ≤ what ∧ what ≤ 4 then (if 0 ≤ who ∧ who < S 5 0 then (if what = 1 then (S 3 who.toNat : Int) else if what = 2 then (S 4 who.toNat : Int) else if what = 3 then (S 2 who.toNat : Int) else yKept w S who.toNat) else -2)
  else if 5 ≤ what ∧ what ≤ 10 then (if 0 ≤ who ∧ who ≤ 3 then (if what = 5 then (S 0 who.toNat : Int) else if what = 6 then (S 1 who.toNat : Int) else if what = 7 then (zpc 24 (zgb S who.toNat) : Int) else if what = 8 then (zrn (zgb S who.toNat) 24 : Int) else if what = 9 then (ygr (zgb S who.toNat) (zrn (zgb S who.toNat) 24) : Int) else ySh w S who.toNat) else -2)
  else -2
theorem s22 {x : zXs} {F : zF} (hF : zSh F) {d : Nat} {V : Nat → Nat → Int32} {T : Nat → Nat → Int64} {Q : Option Value → zG → Prop} {S : Nat → Nat → Nat} (hS : zCS 1 V S) (hW : zWf S) {n : Nat} {w : Nat → Nat → (Nat → Int32) → Int32} (hR : zRu V n w) (hru : S 5 2 < n) {who what : Int} (h_who : -2147483648 ≤ who ∧ who ≤ 2147483647) (h_what : -2147483648 ≤ what ∧ what ≤ 2147483647) (k : ∀ V2, (∀ a, a ≠ 22 → a ≠ 23 → V2 a = V a) → Q (some (.int (Int32.ofInt (yTold w S who what)))) (V2, T)) : E x F (d + 5) 22 0 [some (.ref 0), some (.int (Int32.ofInt (who))), some (.int (Int32.ofInt (what)))] [] (V, T) Q := by
  have hb : zSt 1 := Or.inl rfl
  have h5 := hW.2.2.1
  have k0 := k V (fun _ _ _ => rfl)
  unfold yTold at k k0
  repeat' (first
    | (intro c; (try simp (disch := omega) only [zI_lt, zI_le, zI_eq, zI_0, zI_add, zI_sub, zI_mul, zI_neg, Int.reduceNeg, Int.reduceAdd, Int.reduceSub, Int.reduceMul, Decidable.not_not, Int.not_lt, Int.not_le, not_true_eq_false, not_false_eq_true] at c); (try (exfalso; omega)))
    | simp only [zI_add, zI_sub, zI_mul, zI_neg]
    | apply s7 hF h_what (by omega) (by omega)
    | apply s19 hF hb hS hW h_who
    | apply s12 hF h_who
    | apply b22_0 hF
    | apply b22_12 hF
    | apply b22_18 hF
    | apply b22_21 hF
    | apply b22_29 hF
    | apply b22_38 hF
    | apply b22_43 hF
    | apply b22_44 hF
    | apply b22_51 hF
    | apply b22_54 hF
    | apply b22_62 hF
    | apply b22_71 hF
    | apply b22_76 hF
    | with_reducible assumption
    | exact zI_nat _
    | exact zNb1
    | exact zNb0
    | omega
    | with_reducible rfl
    | exact zI_nI (by omega))
  · obtain ⟨i, rfl⟩ : ∃ i : Nat, who = i := ⟨who.toNat, by omega⟩
    rw [if_neg (by omega), if_pos (by omega), if_pos (by omega), Int.toNat_natCast] at k k0
    apply b22_32 hF
    apply b23_0 hF
    · intro c
      simp (disch := omega) only [zI_eq] at c
      rw [if_pos (by omega)] at k0
      apply b23_28 hF (i1 := i) (zI_nat i) (by omega)
      rw [hS.2.2.2.1 i (by omega)]
      exact b22_38 hF (b22_43 hF k0)
    · intro c
      simp (disch := omega) only [zI_eq] at c
      rw [if_neg (by omega), if_pos (by omega)] at k0
      apply b23_38 hF (i1 := i) (zI_nat i) (by omega)
      rw [hS.2.2.2.2.1 i (by omega)]
      exact b22_38 hF (b22_43 hF k0)
    · intro c
      simp (disch := omega) only [zI_eq] at c
      rw [if_neg (by omega), if_neg (by omega), if_pos (by omega)] at k0
      apply b23_48 hF (i1 := i) (zI_nat i) (by omega)
      rw [hS.2.2.1 i (by omega)]
      exact b22_38 hF (b22_43 hF k0)
    · intro c
      simp (disch := omega) only [zI_eq] at c
      rw [if_neg (by omega), if_neg (by omega), if_neg (by omega)] at k
      apply b23_58 hF
      apply s24 hF hb hS hW.2.1 hR hru (by omega)
      intro V2 f2
      apply b23_70 hF
      exact b22_38 hF (b22_43 hF (k V2 f2))
  · rw [if_neg (by omega), if_pos (by omega), if_neg (by omega)] at k0
    exact b22_41 hF (b22_43 hF k0)
  · obtain ⟨i, rfl⟩ : ∃ i : Nat, who = i := ⟨who.toNat, by omega⟩
    rw [if_neg (by omega), if_neg (by omega), if_pos (by omega), if_pos (by omega), Int.toNat_natCast] at k k0
    apply b22_65 hF
    apply b31_0 hF
    · intro c
      simp (disch := omega) only [zI_eq] at c
      rw [if_pos (by omega)] at k0
      apply b31_36 hF (i1 := i) (zI_nat i) (by omega)
      rw [hS.1 i (by omega)]
      exact b22_71 hF (b22_76 hF k0)
    · intro c
      simp (disch := omega) only [zI_eq] at c
      rw [if_neg (by omega), if_pos (by omega)] at k0
      apply b31_46 hF (i1 := i) (zI_nat i) (by omega)
      rw [hS.2.1 i (by omega)]
      exact b22_71 hF (b22_76 hF k0)
    · intro c
      simp (disch := omega) only [zI_eq] at c
      rw [if_neg (by omega), if_neg (by omega), if_pos (by omega)] at k0
      apply b31_56 hF
      apply s13 hF hb hS hW (by omega)
      exact b31_64 hF (b22_71 hF (b22_76 hF k0))
    · intro c
      simp (disch := omega) only [zI_eq] at c
      rw [if_neg (by omega), if_neg (by omega), if_neg (by omega), if_pos (by omega)] at k0
      apply b31_65 hF
      apply s32 hF hb hS hW (by omega)
      exact b31_73 hF (b22_71 hF (b22_76 hF k0))
    · intro c
      simp (disch := omega) only [zI_eq] at c
      rw [if_neg (by omega), if_neg (by omega), if_neg (by omega), if_neg (by omega), if_pos (by omega)] at k0
      apply b31_74 hF
      apply s33 hF hb hS hW (by omega)
      exact b31_82 hF (b22_71 hF (b22_76 hF k0))
    · intro c
      simp (disch := omega) only [zI_eq] at c
      rw [if_neg (by omega), if_neg (by omega), if_neg (by omega), if_neg (by omega), if_neg (by omega)] at k
      apply b31_83 hF
      apply s35 hF hb hS hW hR hru (by omega)
      intro V2 f2
      apply b31_95 hF
      exact b22_71 hF (b22_76 hF (k V2 f2))
  · rw [if_neg (by omega), if_neg (by omega), if_pos (by omega), if_neg (by omega)] at k0
    exact b22_74 hF (b22_76 hF k0)
  · rw [if_neg (by omega), if_neg (by omega), if_neg (by omega)] at k0
    exact b22_77 hF k0
  · rw [if_pos (by omega)] at k0
    apply b22_4 hF
    rw [hS.2.2.2.2.2.2.1]
    exact k0
theorem zMS_59 {V V2 : Nat → Nat → Int32} {S : Nat → Nat → Nat} (hS : zMS V S) (h1 : ∀ a, a ≠ 59 → V2 a = V a) (h2 : ∀ j, (j < 13 ∨ 27 < j) → V2 59 j = V 59 j) : zMS V2 S := zMS_fr hS (h1 64 (by omega)) (h1 63 (by omega)) (h1 66 (by omega)) (h1 65 (by omega)) (fun j hj => h2 j (Or.inl hj))
theorem yFr_59 {V V2 : Nat → Nat → Int32} (h1 : ∀ a, a ≠ 59 → V2 a = V a) (h2 : ∀ j, (j < 13 ∨ 27 < j) → V2 59 j = V 59 j) : yFr V V2 := ⟨fun a h _ => h1 a h, fun j h => h2 j (by omega)⟩
theorem zMS_67 {V V2 : Nat → Nat → Int32} {S : Nat → Nat → Nat} (hS : zMS V S) (h1 : ∀ a, a ≠ 67 → a ≠ 68 → V2 a = V a) : zMS V2 S := zMS_fr hS (h1 64 (by omega) (by omega)) (h1 63 (by omega) (by omega)) (h1 66 (by omega) (by omega)) (h1 65 (by omega) (by omega)) (fun j _ => by rw [h1 59 (by omega) (by omega)])
theorem yFr_67 {V V2 : Nat → Nat → Int32} (h1 : ∀ a, a ≠ 67 → a ≠ 68 → V2 a = V a) : yFr V V2 := ⟨fun a _ h => h1 a (by omega) (by omega), fun j _ => by rw [h1 59 (by omega) (by omega)]⟩
theorem s158m {x : zXs} {F : zF} (hF : zSh F) {d : Nat} {V : Nat → Nat → Int32} {T : Nat → Nat → Int64} {Q : Option Value → zG → Prop} {S : Nat → Nat → Nat} (hS : zMS V S) (hW : zWf S) {r : Nat} (hr : r < 4) {o2 o3 : Option Value} (k : ∀ V', (∀ j, j < zrn (zgb S r) 24 → V' 68 j = Int32.ofInt (zsz (zgb S r) j 24 : Int)) → (∀ a, a ≠ 67 → a ≠ 68 → V' a = V a) → Q (some (.int (Int32.ofInt (zrn (zgb S r) 24 : Int)))) (V', T)) : E x F (d + 1) 158 0 [some (.ref 59), some (.int (Int32.ofInt (r : Int))), o2, o3] [] (V, T) Q := by
  have e := ygb_24 (hW.1 r hr).1 (hW.1 r hr).2
  have e1 : zrn (zgb S r) 24 = zrn (ygb (S 0 r) (S 1 r)) (S 0 r) := e.1
  have e2 : ∀ j, zsz (zgb S r) j 24 = zsz (ygb (S 0 r) (S 1 r)) j (S 0 r) := e.2
  apply s158 hF (by omega) (hS.1 r (by omega)) (hS.2.1 r (by omega)) (hW.1 r hr).1 (hW.1 r hr).2
  intro V' h
  rw [← e1]
  exact k V' (fun j hj => by rw [e2]; exact (h.1 j (by rw [← e1]; exact hj)).2) h.2
theorem s138 {x : zXs} {F : zF} (hF : zSh F) {d : Nat} {V : Nat → Nat → Int32} {T : Nat → Nat → Int64} {Q : Option Value → zG → Prop} {S : Nat → Nat → Nat} (hS : zMS V S) (hW : zWf S) {n : Nat} {w : Nat → Nat → (Nat → Int32) → Int32} (hR : zRd x F V n w) (hru : S 5 2 < n) {who what : Int} (h_who : -2147483648 ≤ who ∧ who ≤ 2147483647) (h_what : -2147483648 ≤ what ∧ what ≤ 2147483647) (k : ∀ V2 T2, zMS V2 S → yFr V V2 → Q (some (.int (Int32.ofInt (yTold w S who what)))) (V2, T2)) : E x F (d + 53) 138 0 [some (.ref 59), some (.int (Int32.ofInt (who))), some (.int (Int32.ofInt (what)))] [] (V, T) Q := by
  have h5 := hW.2.2.1
  have k0 := k V T hS (yFr_rfl V)
  unfold yTold at k k0
  have g39 : (¬ (0 ≤ what ∧ what ≤ 10) ∨ ((1 ≤ what ∧ what ≤ 4) ∧ ¬ (0 ≤ who ∧ who < S 5 0)) ∨ ((5 ≤ what ∧ what ≤ 10) ∧ ¬ (0 ≤ who ∧ who ≤ 3))) → E x F (d + 52 + 1) 138 39 [some (.ref 59), some (.int (Int32.ofInt (who))), some (.int (Int32.ofInt (what)))] [] (V, T) Q := by
    intro c
    apply b138_39 hF
    rcases c with c | c | c
    · rw [if_neg (by omega), if_neg (by omega), if_neg (by omega)] at k0
      exact k0
    · rw [if_neg (by omega), if_pos (by omega), if_neg (by omega)] at k0
      exact k0
    · rw [if_neg (by omega), if_neg (by omega), if_pos (by omega), if_neg (by omega)] at k0
      exact k0
  have g51 : what = 0 → E x F (d + 52 + 1) 138 51 [some (.ref 59), some (.int (Int32.ofInt (who))), some (.int (Int32.ofInt (what)))] [] (V, T) Q := by
    intro c
    rw [if_pos (by omega)] at k0
    apply b138_51 hF
    rw [hS.2.2.2.2.2.2.1]
    exact b138_97 hF k0
  have g1 : (1 ≤ what ∧ what ≤ 4) ∧ (0 ≤ who ∧ who < S 5 0) → ∀ p, (what < 3 ∧ p = 63) ∨ (what = 3 ∧ p = 83) ∨ (what = 4 ∧ p = 92) → E x F (d + 52 + 1) 138 p [some (.ref 59), some (.int (Int32.ofInt (who))), some (.int (Int32.ofInt (what)))] [] (V, T) Q := by
    intro c p hp
    obtain ⟨i, rfl⟩ : ∃ i : Nat, who = i := ⟨who.toNat, by omega⟩
    rw [if_neg (by omega), if_pos (by omega), if_pos (by omega), Int.toNat_natCast] at k k0
    rcases hp with ⟨c1, rfl⟩ | ⟨c1, rfl⟩ | ⟨c1, rfl⟩
    · obtain ⟨m, rfl⟩ : ∃ m : Nat, what = m := ⟨what.toNat, by omega⟩
      have e : Int32.ofInt 2 * Int32.ofInt (i : Int) + Int32.ofInt (m : Int) - Int32.ofInt 1 = Int32.ofInt ((2 * i + m - 1 : Nat) : Int) := by
        rw [zI_mul, zI_add, zI_sub]; congr 1; omega
      apply b138_63 hF (i1 := 2 * i + m - 1) (e.trans (zI_nat _)) (by omega)
      by_cases h1 : m = 1
      · subst h1
        rw [if_pos (by omega)] at k0
        have := hS.2.2.2.1 i (by omega)
        rw [show 2 * i + 1 - 1 = 2 * i by omega, this]
        exact b138_97 hF k0
      · have h2 : m = 2 := by omega
        subst h2
        rw [if_neg (by omega), if_pos (by omega)] at k0
        have := hS.2.2.2.2.1 i (by omega)
        rw [show 2 * i + 2 - 1 = 2 * i + 1 by omega, this]
        exact b138_97 hF k0
    · rw [if_neg (by omega), if_neg (by omega), if_pos (by omega)] at k0
      apply b138_83 hF (i1 := i) (zI_nat i) (by omega)
      rw [hS.2.2.1 i (by omega)]
      exact b138_97 hF k0
    · rw [if_neg (by omega), if_neg (by omega), if_neg (by omega)] at k
      apply b138_92 hF
      apply s139 hF hR hS hW.2.1 hru (by omega)
      intro V2 T2 f1 f2
      exact b138_97 hF (k V2 T2 (zMS_59 hS f1 f2) (yFr_59 f1 f2))
  have g2 : (5 ≤ what ∧ what ≤ 10) ∧ (0 ≤ who ∧ who ≤ 3) → ∀ p, (what = 5 ∧ p = 109) ∨ (what = 6 ∧ p = 124) ∨ (what = 7 ∧ p = 133) ∨ (what = 8 ∧ p = 145) ∨ (what = 9 ∧ p = 159) ∨ (what = 10 ∧ p = 167) → E x F (d + 52 + 1) 138 p [some (.ref 59), some (.int (Int32.ofInt (who))), some (.int (Int32.ofInt (what)))] [] (V, T) Q := by
    intro c p hp
    obtain ⟨i, rfl⟩ : ∃ i : Nat, who = i := ⟨who.toNat, by omega⟩
    rw [if_neg (by omega), if_neg (by omega), if_pos (by omega), if_pos (by omega), Int.toNat_natCast] at k k0
    have hr : i < 4 := by omega
    have hi5 : i < 5 := by omega
    have hw := hW.1 i hr
    rcases hp with ⟨c1, rfl⟩ | ⟨c1, rfl⟩ | ⟨c1, rfl⟩ | ⟨c1, rfl⟩ | ⟨c1, rfl⟩ | ⟨c1, rfl⟩
    · rw [if_pos (by omega)] at k0
      apply b138_109 hF (i1 := i) (zI_nat i) (by omega)
      rw [hS.1 i hi5]
      exact b138_138 hF k0
    · rw [if_neg (by omega), if_pos (by omega)] at k0
      apply b138_124 hF (i1 := i) (zI_nat i) (by omega)
      rw [hS.2.1 i hi5]
      exact b138_138 hF k0
    · rw [if_neg (by omega), if_neg (by omega), if_pos (by omega)] at k0
      apply b138_133 hF
      apply s133 hF hi5 (hS.1 i hi5) (hS.2.1 i hi5) hw.1 hw.2
      exact b138_138 hF k0
    · rw [if_neg (by omega), if_neg (by omega), if_neg (by omega), if_pos (by omega)] at k
      apply b138_145 hF
      apply s158m hF hS hW hr
      intro V2 _ hf
      exact b138_150 hF (b138_172 hF (k V2 T (zMS_67 hS hf) (yFr_67 hf)))
    · rw [if_neg (by omega), if_neg (by omega), if_neg (by omega), if_neg (by omega), if_pos (by omega)] at k
      apply b138_159 hF
      apply s160 hF hi5 (hS.1 i hi5) (hS.2.1 i hi5) hw.1 hw.2
      intro V2 hf
      exact b138_164 hF (b138_172 hF (k V2 T (zMS_67 hS hf) (yFr_67 hf)))
    · rw [if_neg (by omega), if_neg (by omega), if_neg (by omega), if_neg (by omega), if_neg (by omega)] at k
      apply b138_167 hF
      apply s161 hF hR hS hru hi5 hw.1 hw.2
      intro V2 T2 f1 f2
      exact b138_172 hF (k V2 T2 (zMS_59 hS f1 f2) (yFr_59 f1 f2))
  repeat' (first
    | (intro c; (try simp (disch := omega) only [zI_lt, zI_le, zI_eq, zI_0, zI_add, zI_sub, zI_mul, zI_neg, Int.reduceNeg, Int.reduceAdd, Int.reduceSub, Int.reduceMul, Decidable.not_not, Int.not_lt, Int.not_le, not_true_eq_false, not_false_eq_true] at c); (try (exfalso; omega)))
    | simp only [zI_add, zI_sub, zI_mul, zI_neg]
    | apply s132v hF h_what (lo := 0) (hi := 10) (by omega) (by omega)
    | apply s136 hF hS h5 h_who
    | apply s131 hF h_who
    | apply b138_0 hF
    | apply b138_9 hF
    | apply b138_12 hF
    | apply b138_16 hF
    | apply b138_21 hF
    | apply b138_26 hF
    | apply b138_29 hF
    | apply b138_32 hF
    | apply b138_36 hF
    | apply b138_42 hF
    | apply b138_47 hF
    | apply b138_58 hF
    | apply b138_78 hF
    | apply b138_97 hF
    | apply b138_98 hF
    | apply b138_104 hF
    | apply b138_118 hF
    | apply b138_138 hF
    | apply b138_139 hF
    | apply b138_150 hF
    | apply b138_153 hF
    | apply b138_164 hF
    | apply b138_172 hF
    | exact g39 (by omega)
    | exact g51 (by omega)
    | exact g1 (by omega) _ (by omega)
    | exact g2 (by omega) _ (by omega)
    | with_reducible assumption
    | exact zI_nat _
    | exact zNb1
    | exact zNb0
    | omega
    | with_reducible rfl
    | exact zI_nI (by omega))
