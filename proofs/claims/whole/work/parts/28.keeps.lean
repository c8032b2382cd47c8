/-! The reference: what one keeps, what a night shakes -/
theorem s139 {x : zXs} {F : zF} (hF : zSh F) {d : Nat} {V : Nat → Nat → Int32} {T : Nat → Nat → Int64} {Q : Option Value → zG → Prop} {n : Nat} {w : Nat → Nat → (Nat → Int32) → Int32} (hR : zRd x F V n w) {S : Nat → Nat → Nat} (hS : zMS V S) (hW : zWg S) (hru : S 5 2 < n) {one : Nat} (ho : one < 5) {o2 o3 o4 o5 : Option Value} (k : ∀ V2 T2, (∀ a, a ≠ 59 → V2 a = V a) → (∀ j, (j < 13 ∨ 27 < j) → V2 59 j = V 59 j) → Q (some (.int (Int32.ofInt (yKept w S one)))) (V2, T2)) : E x F (d + 52) 139 0 [some (.ref 59), some (.int (Int32.ofInt (one : Int))), o2, o3, o4, o5] [] (V, T) Q := by
  have hk := (hW one ho).1
  have hn := (hW one ho).2.1
  have ha := (hW one ho).2.2
  have hkd := hS.2.2.1 one ho
  have hnu := hS.2.2.2.1 one ho
  have hap := hS.2.2.2.2.1 one ho
  have hm := yKpm_in hW w ho
  have k0 := k V T (fun _ _ => rfl) (fun _ _ => rfl)
  have e2 : Int32.ofInt 2 * Int32.ofInt (one : Int) = Int32.ofInt ((2 * one : Nat) : Int) := by
    rw [zI_mul]; congr 1
  have e3 : Int32.ofInt 2 * Int32.ofInt (one : Int) + Int32.ofInt 1 = Int32.ofInt ((2 * one + 1 : Nat) : Int) := by
    rw [e2, zI_add]; congr 1
  unfold yKept at k0
  apply b139_0 hF (i1 := one) (zI_nat one) ho (i2 := 2 * one) (e2.trans (zI_nat _)) (by omega) (i3 := 2 * one + 1) (e3.trans (zI_nat _)) (by omega)
  · rw [hkd, hnu, hap]
    intro c
    simp (disch := omega) only [zI_eq] at c
    rw [if_pos (by omega)] at k0
    apply b139_38 hF
    · intro c2
      simp (disch := omega) only [zI_eq] at c2
      exfalso; omega
    · intro _
      exact b139_43 hF (b139_52 hF k0)
  · rw [hkd, hnu, hap]
    intro c
    simp (disch := omega) only [zI_eq] at c
    apply b139_33 hF
    · intro c2
      simp (disch := omega) only [zI_eq] at c2
      apply b139_53 hF
      · intro c3
        simp (disch := omega) only [zI_eq] at c3
        apply b139_60 hF
        apply s140 hF hR hS hru (p := 1) (by omega)
        intro V2 T2 hf1 hf2
        have K := k V2 T2 hf1 hf2
        have ekp : yCl (w (S 5 2) 1 (yE 0 0 (S 3 one) (S 5 1) (S 4 one) 0)).toInt 0 (yTop 1) = yKp w S one := rfl
        rw [ekp]
        unfold yKept at K
        rw [if_neg (by omega)] at K
        apply b139_73 hF
        · intro c4
          simp (disch := omega) only [zI_eq] at c4
          rw [zI_mul, zI_div (by omega) (by omega)]
          apply b139_91 hF
          apply b139_93 hF
          apply s157 hF (by omega) (by omega) (by omega)
          rw [if_neg (by omega), if_neg (by omega), if_neg (by omega)] at K
          have e : yCl ((S 4 one : Int) * yKp w S one / 100) 0 999 = (S 4 one : Int) * yKp w S one / 100 := by
            unfold yCl
            rw [if_neg (by omega), if_neg (by omega)]
          rw [e]
          exact b139_100 hF K
        · intro c4
          simp (disch := omega) only [zI_eq, Decidable.not_not] at c4
          rw [zI_mul, zI_div (by omega) (by omega)]
          apply b139_84 hF
          rw [zI_sub]
          apply b139_93 hF
          apply s157 hF (by omega) (by omega) (by omega)
          rw [if_pos (by omega)] at K
          exact b139_100 hF K
      · intro c3
        simp (disch := omega) only [zI_eq, Decidable.not_not] at c3
        rw [if_neg (by omega), if_neg (by omega), if_neg (by omega), if_pos (by omega)] at k0
        exact b139_58 hF k0
    · intro c2
      simp (disch := omega) only [zI_eq, Decidable.not_not] at c2
      rw [if_neg (by omega), if_neg (by omega), if_pos (by omega)] at k0
      apply b139_38 hF
      · intro _
        apply b139_48 hF
        rw [zI_div (by omega) (by omega)]
        exact b139_52 hF k0
      · intro c3
        simp (disch := omega) only [zI_eq, Decidable.not_not] at c3
        exfalso; omega
theorem s161 {x : zXs} {F : zF} (hF : zSh F) {d : Nat} {V : Nat → Nat → Int32} {T : Nat → Nat → Int64} {Q : Option Value → zG → Prop} {n : Nat} {w : Nat → Nat → (Nat → Int32) → Int32} (hR : zRd x F V n w) {S : Nat → Nat → Nat} (hS : zMS V S) (hru : S 5 2 < n) {r : Nat} (hr : r < 5) (hL : S 0 r ≤ 24) (hB : S 1 r < 2 ^ S 0 r) (k : ∀ V2 T2, (∀ a, a ≠ 59 → V2 a = V a) → (∀ j, (j < 13 ∨ 27 < j) → V2 59 j = V 59 j) → Q (some (.int (Int32.ofInt (ySh w S r)))) (V2, T2)) : E x F (d + 52) 161 0 [some (.ref 59), some (.int (Int32.ofInt (r : Int)))] [] (V, T) Q := by
  apply b161_0 hF
  apply s133 hF hr (hS.1 r hr) (hS.2.1 r hr) hL hB
  apply b161_7 hF
  apply s140 hF hR hS hru (p := 2) (by omega)
  intro V2 T2 hf1 hf2
  apply b161_14 hF
  exact k V2 T2 hf1 hf2
