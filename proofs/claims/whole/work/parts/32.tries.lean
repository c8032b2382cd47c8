/-! The reference: one tries, and all is laid back -/
def yTry (w : Nat → Nat → (Nat → Int32) → Int32) (S : Nat → Nat → Nat) (one r what : Nat) : Int :=
  if what = 0 then (yGl w S one (S 0 r) (S 1 r)).2.2.2.2.2.2.1
  else if what = 1 then (zpc 24 (zgb (yGS w S one r) r) : Int)
  else if what = 2 then (yGS w S one r 4 one : Int)
  else (ygr (zgb (yGS w S one r) r) (zrn (zgb (yGS w S one r) r) 24) : Int)
theorem yGS_23 {w : Nat → Nat → (Nat → Int32) → Int32} {S : Nat → Nat → Nat} {one r : Nat} : yGS w S one r 2 = S 2 ∧ yGS w S one r 3 = S 3 := by
  unfold yGS
  constructor
  · rw [zu_ne (by omega), zu_ne (by omega), zu_ne (by omega)]
  · rw [zu_ne (by omega), zu_ne (by omega), zu_ne (by omega)]
theorem s179 {x : zXs} {F : zF} (hF : zSh F) {d : Nat} {V : Nat → Nat → Int32} {T : Nat → Nat → Int64} {Q : Option Value → zG → Prop} {n : Nat} {w : Nat → Nat → (Nat → Int32) → Int32} (hR : zRd x F V n w) {S : Nat → Nat → Nat} (hS : zMS V S) (hW : zWf S) (hru : S 5 2 < n) {one r what : Nat} (ho : one < 5) (hr : r < 4) (hw : what < 4) (k : ∀ V2 T2, zMS V2 S → (∀ a, a ≠ 59 → a ≠ 63 → a ≠ 64 → a ≠ 66 → a ≠ 67 → a ≠ 68 → a ≠ 69 → a ≠ 73 → V2 a = V a) → (∀ j, (j < 13 ∨ 27 < j) → V2 59 j = V 59 j) → Q (some (.int (Int32.ofInt (yTry w S one r what)))) (V2, T2)) {o4 o5 : Option Value} : E x F (d + 54) 179 0 [some (.ref 59), some (.int (Int32.ofInt (one : Int))), some (.int (Int32.ofInt (r : Int))), some (.int (Int32.ofInt (what : Int))), o4, o5] [] (V, T) Q := by
  apply b179_0 hF
  apply s180 hF
  intro V1 a1 a2 a3
  apply b179_4 hF
  have hR1 : zRd x F V1 n w := zRd_fr hR (a3 60 (by omega)) (a3 61 (by omega))
  have hS1 : zMS V1 S := zMS_fr hS (a3 64 (by omega)) (a3 63 (by omega)) (a3 66 (by omega)) (a3 65 (by omega)) (fun j _ => by rw [a3 59 (by omega)])
  apply s171 hF hR1 hS1 hW.2.1 hru ho (by omega) (hW.1 r hr).1 (hW.1 r hr).2
  intro V2 T2 hS2 _ _ f1 f2
  have hWg := yGS_wf (w := w) hW ho hr
  -- behind the answer all is laid back
  have back : ∀ (V3 : Nat → Nat → Int32) (o1 o2 o3 o4 o5 : Option Value), (∀ a, a ≠ 67 → a ≠ 68 → V3 a = V2 a) → E x F (d + 54) 179 57 [some (.ref 59), o1, o2, o3, o4, o5] [.int (Int32.ofInt (yTry w S one r what))] (V3, T2) Q := by
    intro V3 o1 o2 o3 o4 o5 f3
    apply b179_57 hF
    apply s181 hF
    intro V4 b1 b2 b3 b4
    apply b179_63 hF
    have hS3 : zMS V3 (yGS w S one r) := zMS_fr hS2 (f3 64 (by omega) (by omega)) (f3 63 (by omega) (by omega)) (f3 66 (by omega) (by omega)) (f3 65 (by omega) (by omega)) (fun j _ => by rw [f3 59 (by omega) (by omega)])
    have e73 : V3 73 = V1 73 := (f3 73 (by omega) (by omega)).trans (f1 73 (by omega) (by omega) (by omega) (by omega) (by omega) (by omega) (by omega))
    apply k V4 T2
    · refine zMS_back hS hS3 (fun i _ => ⟨by rw [yGS_23.1], by rw [yGS_23.2]⟩) ⟨by rw [yGS_5], by rw [yGS_5]⟩ ?_ ?_ b1 b2 b3 b4
      · intro i hi
        rw [e73]
        exact a1 i hi
      · rw [e73]; exact a2
    · intro a c1 c2 c3 c4 c5 c6 c7 c8
      rw [b4 a c1 c2 c3 c4, f3 a c5 c6, f1 a c1 c2 c3 c4 c5 c6 c7, a3 a c8]
    · intro j hj
      by_cases h7 : j = 7
      · rw [h7, b2, e73, a2]
      · rw [b3 j h7, f3 59 (by omega) (by omega), f2 j hj, a3 59 (by omega)]
  unfold yTry at back
  apply b179_10 hF
  · intro c
    simp (disch := omega) only [zI_eq, zI_0] at c
    rw [if_neg (by omega)] at back
    apply b179_21 hF
    · intro c2
      simp (disch := omega) only [zI_eq] at c2
      rw [if_neg (by omega)] at back
      apply b179_34 hF
      · intro c3
        simp (disch := omega) only [zI_eq] at c3
        rw [if_neg (by omega)] at back
        apply b179_52 hF
        apply s160 hF (L := yGS w S one r 0 r) (B := yGS w S one r 1 r) (by omega) (hS2.1 r (by omega)) (hS2.2.1 r (by omega)) (hWg.1 r hr).1 (hWg.1 r hr).2
        intro V3 f3
        exact back V3 _ _ _ _ _ f3
      · intro c3
        simp (disch := omega) only [zI_eq, Decidable.not_not] at c3
        rw [if_pos (by omega)] at back
        have e21 : Int32.ofInt 2 * Int32.ofInt (one : Int) + Int32.ofInt 1 = Int32.ofInt ((2 * one + 1 : Nat) : Int) := by
          rw [zI_mul, zI_add]; congr 1
        apply b179_39 hF (i1 := 2 * one + 1) (e21.trans (zI_nat _)) (by omega)
        rw [hS2.2.2.2.2.1 one ho]
        exact back V2 _ _ _ _ _ (fun _ _ _ => rfl)
    · intro c2
      simp (disch := omega) only [zI_eq, Decidable.not_not] at c2
      rw [if_pos (by omega)] at back
      apply b179_26 hF
      apply s133 hF (L := yGS w S one r 0 r) (B := yGS w S one r 1 r) (by omega) (hS2.1 r (by omega)) (hS2.2.1 r (by omega)) (hWg.1 r hr).1 (hWg.1 r hr).2
      apply b179_31 hF
      exact back V2 _ _ _ _ _ (fun _ _ _ => rfl)
  · intro c
    simp (disch := omega) only [zI_eq, zI_0, Decidable.not_not] at c
    rw [if_pos (by omega)] at back
    apply b179_16 hF
    exact back V2 _ _ _ _ _ (fun _ _ _ => rfl)
