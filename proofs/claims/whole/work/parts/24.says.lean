/-! The reference: what a text says, and what one takes -/
/-- the reference's state holds S -/
def zMS (V : Nat → Nat → Int32) (S : Nat → Nat → Nat) : Prop := (∀ i, i < 5 → V 64 i = Int32.ofInt (S 0 i : Int)) ∧ (∀ i, i < 5 → V 63 i = Int32.ofInt (S 1 i : Int)) ∧ (∀ i, i < 5 → V 65 i = Int32.ofInt (S 2 i : Int)) ∧ (∀ i, i < 5 → V 66 (2 * i) = Int32.ofInt (S 3 i : Int)) ∧ (∀ i, i < 5 → V 66 (2 * i + 1) = Int32.ofInt (S 4 i : Int)) ∧ V 59 12 = Int32.ofInt (S 5 0 : Int) ∧ V 59 7 = Int32.ofInt (S 5 1 : Int) ∧ V 59 4 = Int32.ofInt (S 5 2 : Int)
/-- reading the reference's texts tells w -/
def zRd (x : zXs) (F : zF) (V : Nat → Nat → Int32) (n : Nat) (w : Nat → Nat → (Nat → Int32) → Int32) : Prop := (∀ t p e e', t < n → p < 3 → (∀ i, i < 6 → e i = e' i) → w t p e = w t p e') ∧ ∀ (d : Nat) (V1 : Nat → Nat → Int32) (T : Nat → Nat → Int64) (Q : Option Value → zG → Prop) (t p : Nat), t < n → p < 3 → V1 60 = V 60 → V1 61 = V 61 → (∀ V2 T2, (∀ a, a ≠ 59 → V2 a = V1 a) → (∀ j, (j < 19 ∨ 27 < j) → V2 59 j = V1 59 j) → Q (some (.int (w t p (fun i => V1 59 (13 + i))))) (V2, T2)) → E x F (d + 50) 141 0 [some (.ref 59), some (.int (Int32.ofInt (t : Int))), some (.int (Int32.ofInt (p : Int))), none, none, none] [] (V1, T) Q
theorem zRd_fr {x : zXs} {F : zF} {V V' : Nat → Nat → Int32} {n : Nat} {w : Nat → Nat → (Nat → Int32) → Int32} (h : zRd x F V n w) (h0 : V' 60 = V 60) (h1 : V' 61 = V 61) : zRd x F V' n w := ⟨h.1, fun d V1 T Q t p ht hp g0 g1 k => h.2 d V1 T Q t p ht hp (g0.trans h0) (g1.trans h1) k⟩
def yTop (p : Nat) : Int := if p = 0 then 99 else if p = 1 then 100 else 9
theorem s140 {x : zXs} {F : zF} (hF : zSh F) {d : Nat} {V : Nat → Nat → Int32} {T : Nat → Nat → Int64} {Q : Option Value → zG → Prop} {n : Nat} {w : Nat → Nat → (Nat → Int32) → Int32} (hR : zRd x F V n w) {S : Nat → Nat → Nat} (hS : zMS V S) (hru : S 5 2 < n) {p g nth num ap row : Nat} (hp : p < 3) (k : ∀ V2 T2, (∀ a, a ≠ 59 → V2 a = V a) → (∀ j, (j < 13 ∨ 27 < j) → V2 59 j = V 59 j) → Q (some (.int (Int32.ofInt (yCl (w (S 5 2) p (yE g nth num (S 5 1) ap row)).toInt 0 (yTop p))))) (V2, T2)) : E x F (d + 51) 140 0 [some (.ref 59), some (.int (Int32.ofInt (p : Int))), some (.int (Int32.ofInt (g : Int))), some (.int (Int32.ofInt (nth : Int))), some (.int (Int32.ofInt (num : Int))), some (.int (Int32.ofInt (ap : Int))), some (.int (Int32.ofInt (row : Int)))] [] (V, T) Q := by
  obtain ⟨_, _, _, _, _, h5, h6, h7⟩ := hS
  apply b140_0 hF
  simp (disch := omega) only [zuN_nk]
  rw [h6, h7]
  apply hR.2 d _ T _ (S 5 2) p hru hp (zu_ne (by omega) |>.trans (by simp (disch := omega) only [zu_ne])) (zu_ne (by omega) |>.trans (by simp (disch := omega) only [zu_ne]))
  intro V2 T2 hf1 hf2
  rw [hR.1 (S 5 2) p _ (yE g nth num (S 5 1) ap row) hru hp (by
    intro i hi
    rcases (show i = 0 ∨ i = 1 ∨ i = 2 ∨ i = 3 ∨ i = 4 ∨ i = 5 by omega) with rfl | rfl | rfl | rfl | rfl | rfl <;> simp [zu_at, yE])]
  have K := k V2 T2 (fun a ha => (hf1 a ha).trans (by simp (disch := omega) only [zu_ne])) (fun j hj => (hf2 j (by omega)).trans (by simp (disch := omega) only [zuN_nk]))
  unfold yTop at K
  apply b140_45 hF
  · intro c
    simp (disch := omega) only [zI_eq, zI_0] at c
    apply b140_55 hF
    · intro c2
      simp (disch := omega) only [zI_eq] at c2
      rw [if_neg (by omega), if_neg (by omega)] at K
      apply b140_65 hF
      apply b140_67 hF
      apply s157v hF (by omega) (by omega)
      exact b140_70 hF K
    · intro c2
      simp (disch := omega) only [zI_eq, Decidable.not_not] at c2
      rw [if_neg (by omega), if_pos (by omega)] at K
      apply b140_60 hF
      apply b140_67 hF
      apply s157v hF (by omega) (by omega)
      exact b140_70 hF K
  · intro c
    simp (disch := omega) only [zI_eq, zI_0, Decidable.not_not] at c
    rw [if_pos (by omega)] at K
    apply b140_50 hF
    apply b140_67 hF
    apply s157v hF (by omega) (by omega)
    exact b140_70 hF K
theorem s169 {x : zXs} {F : zF} (hF : zSh F) {d : Nat} {V : Nat → Nat → Int32} {T : Nat → Nat → Int64} {Q : Option Value → zG → Prop} {n : Nat} {w : Nat → Nat → (Nat → Int32) → Int32} (hR : zRd x F V n w) {S : Nat → Nat → Nat} (hS : zMS V S) (hW : zWg S) (hru : S 5 2 < n) {one g nth len : Nat} (ho : one < 5) (hg : g ≤ 24) {o5 o6 o7 o8 : Option Value} (k : ∀ V2 T2, (∀ a, a ≠ 59 → V2 a = V a) → (∀ j, (j < 13 ∨ 27 < j) → V2 59 j = V 59 j) → Q (some (.int (Int32.ofInt (yWant S one g (yTk w S one g nth len))))) (V2, T2)) : E x F (d + 52) 169 0 [some (.ref 59), some (.int (Int32.ofInt (one : Int))), some (.int (Int32.ofInt (g : Int))), some (.int (Int32.ofInt (nth : Int))), some (.int (Int32.ofInt (len : Int))), o5, o6, o7, o8] [] (V, T) Q := by
  have hk := (hW one ho).1
  have hn := (hW one ho).2.1
  have ha := (hW one ho).2.2
  have hkd := hS.2.2.1 one ho
  have hnu := hS.2.2.2.1 one ho
  have hap := hS.2.2.2.2.1 one ho
  have k0 := k V T (fun _ _ => rfl) (fun _ _ => rfl)
  have e2 : Int32.ofInt 2 * Int32.ofInt (one : Int) = Int32.ofInt ((2 * one : Nat) : Int) := by
    rw [zI_mul]; congr 1
  have e3 : Int32.ofInt 2 * Int32.ofInt (one : Int) + Int32.ofInt 1 = Int32.ofInt ((2 * one + 1 : Nat) : Int) := by
    rw [e2, zI_add]; congr 1
  have htk : ∀ v, v = (w (S 5 2) 0 (yE g nth (S 3 one) (S 5 1) (S 4 one) len)).toInt → yCl v 0 (yTop 0) = yTk w S one g nth len := by
    intro v hv
    subst hv
    rfl
  have hv := yTk_in w S one g nth len
  -- what is left when the text is asked
  have say : ∀ o8 : Option Value, ¬ S 2 one = 2 → ¬ S 2 one = 4 → ¬ (S 2 one = 3 ∧ g = 1) → E x F (d + 52) 169 76 [some (.ref 59), some (.int (Int32.ofInt (one : Int))), some (.int (Int32.ofInt (g : Int))), some (.int (Int32.ofInt (nth : Int))), some (.int (Int32.ofInt (len : Int))), some (.int (Int32.ofInt (S 2 one : Int))), some (.int (Int32.ofInt (S 3 one : Int))), some (.int (Int32.ofInt (S 4 one : Int))), o8] [] (V, T) Q := by
    intro o8 n2 n4 n3
    apply b169_76 hF
    apply s140 hF hR hS hru (p := 0) (by omega)
    intro V2 T2 hf1 hf2
    have K := k V2 T2 hf1 hf2
    unfold yWant at K
    rw [htk _ rfl]
    generalize yTk w S one g nth len = v at *
    apply b169_89 hF
    · intro c
      simp (disch := omega) only [zI_eq] at c
      rw [if_pos (by omega)] at K
      apply b169_103 hF
      rw [zI_div (by omega) (by omega), zI_mul, zI_sub, zI_add]
      apply b169_127 hF
      have : v + ((g : Int) - (g : Int) / 2 * 2) = yWid g v := by unfold yWid; split <;> omega
      rw [this]
      have := @yWid_in g v
      apply s157 hF (by omega) (by omega) (by omega)
      exact b169_132 hF K
    · intro c
      simp (disch := omega) only [zI_eq] at c
      rw [if_neg (by omega), if_neg n2] at K
      apply b169_97 hF
      · intro c2
        simp (disch := omega) only [zI_eq] at c2
        rw [if_neg (by omega), if_neg n4] at K
        apply b169_112 hF
        · intro c3
          simp (disch := omega) only [zI_eq] at c3
          rw [if_neg (by omega)] at K
          apply b169_125 hF
          apply b169_127 hF
          apply s157 hF (by omega) (by omega) (by omega)
          exact b169_132 hF K
        · intro c3
          simp (disch := omega) only [zI_eq, Decidable.not_not] at c3
          rw [if_pos (by omega)] at K
          apply b169_118 hF
          rw [zI_div (by omega) (by omega)]
          apply b169_127 hF
          apply s157 hF (by omega) (by omega) (by omega)
          exact b169_132 hF K
      · intro c2
        simp (disch := omega) only [zI_eq, Decidable.not_not] at c2
        rw [if_pos (by omega), if_neg (by omega)] at K
        apply b169_103 hF
        rw [zI_div (by omega) (by omega), zI_mul, zI_sub, zI_add]
        apply b169_127 hF
        have : v + ((g : Int) - (g : Int) / 2 * 2) = yWid g v := by unfold yWid; split <;> omega
        rw [this]
        have := @yWid_in g v
        apply s157 hF (by omega) (by omega) (by omega)
        exact b169_132 hF K
  apply b169_0 hF (i1 := one) (zI_nat one) ho (i2 := 2 * one) (e2.trans (zI_nat _)) (by omega) (i3 := 2 * one + 1) (e3.trans (zI_nat _)) (by omega)
  · rw [hkd, hnu, hap]
    intro c
    simp (disch := omega) only [zI_eq] at c
    unfold yWant at k0
    rw [if_neg (by omega), if_pos (by omega)] at k0
    apply b169_42 hF
    · intro _
      exact b169_61 hF (b169_62 hF k0)
    · intro c2
      simp (disch := omega) only [zI_eq, Decidable.not_not] at c2
      exfalso; omega
  · rw [hkd, hnu, hap]
    intro c
    simp (disch := omega) only [zI_eq] at c
    apply b169_36 hF
    · intro c2
      simp (disch := omega) only [zI_eq] at c2
      apply b169_63 hF
      · intro c3
        simp (disch := omega) only [zI_eq] at c3
        exact say _ (by omega) (by omega) (by omega)
      · intro c3
        simp (disch := omega) only [zI_eq, Decidable.not_not] at c3
        apply b169_69 hF
        · intro c4
          simp (disch := omega) only [zI_eq] at c4
          exact say _ (by omega) (by omega) (by omega)
        · intro c4
          simp (disch := omega) only [zI_eq, Decidable.not_not] at c4
          unfold yWant at k0
          rw [if_neg (by omega), if_neg (by omega), if_pos (by omega), if_pos (by omega)] at k0
          exact b169_74 hF k0
    · intro c2
      simp (disch := omega) only [zI_eq, Decidable.not_not] at c2
      unfold yWant at k0
      rw [if_neg (by omega), if_neg (by omega), if_neg (by omega), if_pos (by omega)] at k0
      apply b169_42 hF
      · intro c3
        simp (disch := omega) only [zI_eq] at c3
        exfalso; omega
      · intro _
        apply b169_48 hF
        · intro c3
          simp (disch := omega) only [zI_lt] at c3
          rw [if_neg (by omega)] at k0
          exact b169_61 hF (b169_62 hF k0)
        · intro c3
          simp (disch := omega) only [zI_lt] at c3
          rw [if_pos (by omega)] at k0
          apply b169_55 hF
          rw [zI_neg]
          exact b169_62 hF k0
