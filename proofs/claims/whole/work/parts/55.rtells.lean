/-! tells: the reference -/
def zXm (V : Nat → Nat → Int32) (t : Nat) (X : Int × Nat × (Nat → Int32)) : Prop := V 79 t = Int32.ofInt (X.2.1 : Int) ∧ ∀ i, i < X.2.1 → V 80 (40 * t + i) = X.2.2 i
theorem zXm_fr {V V2 : Nat → Nat → Int32} {t : Nat} {X : Int × Nat × (Nat → Int32)} (h : zXm V t X) (hf : ∀ a, 73 < a → V2 a = V a) : zXm V2 t X := by
  unfold zXm
  rw [hf 79 (by omega), hf 80 (by omega)]
  exact h
theorem s195l {x : zXs} {F : zF} (hF : zSh F) {d : Nat} {V : Nat → Nat → Int32} {T : Nat → Nat → Int64} {Q : Option Value → zG → Prop} {t N : Nat} (ht : t < 4) {it : Nat → Int32} {g : Nat → Int} (hN : N ≤ 12) (h69 : ∀ j, j < N → V 69 j = Int32.ofInt (g j)) (h2 : V 79 t = Int32.ofInt (N : Int)) (h3 : ∀ i, i < N → V 80 (40 * t + i) = it i) {o2 o3 : Option Value} : ∀ (m i : Nat) (P : Int), P = i → i + m = N → Q (some (.int (Int32.ofInt (yFoF it g m i)))) (V, T) → E x F d 195 18 [some (.ref 59), some (.int (Int32.ofInt ((t:Int)))), o2, o3, some (.int (Int32.ofInt (P)))] [] (V, T) Q := by
  intro m
  induction m with
  | zero =>
    intro i P hP hi k
    subst hP
    have hiN : i = N := by omega
    subst hiN
    apply b195_18 hF (i1 := t) (zI_nat t) ht
    · intro _
      exact b195_60 hF k
    · rw [h2]
      intro c
      simp (disch := omega) only [zI_le] at c
      exfalso; omega
  | succ m ih =>
    intro i P hP hi k
    subst hP
    simp only [yFoF] at k
    apply b195_18 hF (i1 := t) (zI_nat t) ht
    · rw [h2]
      intro c
      simp (disch := omega) only [zI_le] at c
      exfalso; omega
    intro _
    apply b195_29 hF (i1 := i) (zI_nat i) (by omega) (i2 := 40 * t + i) (zI_40.trans (zI_nat _)) (by omega)
    · rw [h3 i (by omega), h69 i (by omega)]
      intro c
      rw [if_pos c.symm] at k
      apply b195_54 hF
      rw [zI_add]
      exact ih (i + 1) _ (by omega) (by omega) k
    · rw [h3 i (by omega), h69 i (by omega)]
      intro c
      rw [if_neg (fun h => c h.symm)] at k
      exact b195_51 hF k
theorem s195 {x : zXs} {F : zF} (hF : zSh F) {d : Nat} {V : Nat → Nat → Int32} {T : Nat → Nat → Int64} {Q : Option Value → zG → Prop} {S : Nat → Nat → Nat} (hS : zMS V S) (hW : zWf S) {n : Nat} {w : Nat → Nat → (Nat → Int32) → Int32} (hR : zRd x F V n w) (hru : S 5 2 < n) {t : Nat} (ht : t < 4) {X : Int × Nat × (Nat → Int32)} (hX : zXm V t X) {one r : Nat} (ho : one < 5) (hr : r < 4) (hz : X.2.1 ≤ zrn (zgb S r) 24) (k : ∀ V2 T2, zMS V2 S → yFr V V2 → Q (some (.int (Int32.ofInt (yFo w S X one r)))) (V2, T2)) {o4 : Option Value} : E x F (d + 54) 195 0 [some (.ref 59), some (.int (Int32.ofInt ((t:Int)))), some (.int (Int32.ofInt ((one:Int)))), some (.int (Int32.ofInt ((r:Int)))), o4] [] (V, T) Q := by
  have hN := zrn_24 hW hr
  have hrn := yGl_rn (w := w) hW ho hr
  apply b195_0 hF
  apply s180 hF
  intro V3 a1 a2 a3
  apply b195_4 hF
  have hS3 : zMS V3 S := zMS_fr hS (a3 64 (by omega)) (a3 63 (by omega)) (a3 66 (by omega)) (a3 65 (by omega)) (fun j _ => by rw [a3 59 (by omega)])
  have hR3 : zRd x F V3 n w := zRd_fr hR (by rw [a3 60 (by omega)]) (by rw [a3 61 (by omega)])
  apply s171 hF hR3 hS3 hW.2.1 hru ho (by omega) (hW.1 r hr).1 (hW.1 r hr).2
  intro V4 T4 hS4 _ h69 f4 f5
  rw [hrn] at h69
  apply b195_10 hF
  apply s181 hF
  intro V5 b1 b2 b3 b4
  apply b195_15 hF
  have e73 : V4 73 = V3 73 := f4 73 (by omega) (by omega) (by omega) (by omega) (by omega) (by omega) (by omega)
  have hS5 : zMS V5 S := by
    refine zMS_back hS hS4 (fun i _ => ⟨by rw [yGS_23.1], by rw [yGS_23.2]⟩) ⟨by rw [yGS_5], by rw [yGS_5]⟩ ?_ ?_ b1 b2 b3 b4
    · intro i hi
      rw [e73]
      exact a1 i hi
    · rw [e73]; exact a2
  have hf5 : yFr V V5 := by
    refine ⟨?_, ?_⟩
    · intro a h1 h2
      rw [b4 a (by omega) (by omega) (by omega) (by omega), f4 a (by omega) (by omega) (by omega) (by omega) (by omega) (by omega) (by omega), a3 a (by omega)]
    · intro j hj2
      rw [b3 j (by omega), f5 j (by omega), a3 59 (by omega)]
  have hX5 := zXm_fr hX (V2 := V5) (fun a ha => hf5.1 a (by omega) (by omega))
  have K := k V5 T4 hS5 hf5
  unfold yFo at K
  refine s195l hF ht (g := yTn w S one r) (by omega) ?_ hX5.1 hX5.2 _ 0 0 rfl (Nat.zero_add _) K
  intro j hj
  rw [b4 69 (by omega) (by omega) (by omega) (by omega)]
  exact h69 j (by omega)
theorem s196l {x : zXs} {F : zF} (hF : zSh F) {d : Nat} {V : Nat → Nat → Int32} {T : Nat → Nat → Int64} {Q : Option Value → zG → Prop} {S : Nat → Nat → Nat} (hS : zMS V S) (hW : zWf S) {n : Nat} {w : Nat → Nat → (Nat → Int32) → Int32} (hR : zRd x F V n w) (hru : S 5 2 < n) {t : Nat} (ht : t < 4) {X : Int × Nat × (Nat → Int32)} (hX : zXm V t X) {r : Nat} (hr : r < 4) (hz : X.2.1 ≤ zrn (zgb S r) 24) (K : ∀ V2 T2, zMS V2 S → yFr V V2 → Q (some (.int (Int32.ofInt (yPB (yQg w S X r) (S 5 0) : Int)))) (V2, T2)) : ∀ (m i : Nat) (V1 : Nat → Nat → Int32) (T1 : Nat → Nat → Int64) (P B : Int), P = i → B = (yPB (yQg w S X r) i : Int) → i + m = S 5 0 → zMS V1 S → yFr V V1 → E x F (d + 55) 196 5 [some (.ref 59), some (.int (Int32.ofInt ((t:Int)))), some (.int (Int32.ofInt ((r:Int)))), some (.int (Int32.ofInt (B))), some (.int (Int32.ofInt (P)))] [] (V1, T1) Q := by
  have h5 := hW.2.2.1
  have hz24 := zrn_le (zgb S r) 24
  intro m
  induction m with
  | zero =>
    intro i V1 T1 P B hP hB hi hS1 hf
    subst hP
    subst hB
    have hin : i = S 5 0 := by omega
    rw [hin]
    apply b196_5 hF
    · intro _
      exact b196_43 hF (K V1 T1 hS1 hf)
    · rw [hS1.2.2.2.2.2.1]
      intro c
      simp (disch := omega) only [zI_le] at c
      exfalso; omega
  | succ m ih =>
    intro i V1 T1 P B hP hB hi hS1 hf
    subst hP
    subst hB
    apply b196_5 hF
    · rw [hS1.2.2.2.2.2.1]
      intro c
      simp (disch := omega) only [zI_le] at c
      exfalso; omega
    intro _
    apply b196_14 hF
    have hR1 : zRd x F V1 n w := zRd_fr hR (hf.1 60 (by omega) (by omega)) (hf.1 61 (by omega) (by omega))
    apply s195 hF hS1 hW hR1 hru ht (zXm_fr hX (fun a ha => hf.1 a (by omega) (by omega))) (by omega) hr hz
    intro V4 T4 hS4 f4
    have hf4 := yFr_tr hf f4
    have hin2 := yFo_in (w := w) (S := S) (X := X) (one := i) (r := r) (by omega)
    have hq : yQg w S X r i = decide (yFo w S X i r = -1) := rfl
    have hnx : yPB (yQg w S X r) (i + 1) = yPB (yQg w S X r) i ||| (if yQg w S X r i = true then 2 ^ i else 0) := rfl
    have es : ∀ z : Nat, z ≤ 1 → Int32.ofInt (z : Int) <<< (Int32.ofInt (i : Int) &&& 31) = Int32.ofInt (((if z = 1 then 2 ^ i else 0 : Nat)) : Int) := by
      intro z hz1
      rw [zB_shl z (by omega), Nat.shiftLeft_eq]
      rcases (show z = 0 ∨ z = 1 by omega) with rfl | rfl
      · rw [if_neg (by omega), Nat.zero_mul]
      · rw [if_pos rfl, Nat.one_mul]
    have go : ∀ z : Nat, z = (if yQg w S X r i = true then 1 else 0) → E x F (d + 55) 196 32 [some (.ref 59), some (.int (Int32.ofInt ((t:Int)))), some (.int (Int32.ofInt ((r:Int)))), some (.int (Int32.ofInt ((yPB (yQg w S X r) i : Int)))), some (.int (Int32.ofInt ((i:Int))))] [.int (Int32.ofInt ((z:Int))), .int (Int32.ofInt ((yPB (yQg w S X r) i : Int)))] (V4, T4) Q := by
      intro z hz1
      apply b196_32 hF
      rw [es z (by rw [hz1]; split <;> omega), zB_or, zI_add]
      refine ih (i + 1) V4 T4 _ _ (by omega) ?_ (by omega) hS4 hf4
      rw [hnx, hz1]
      congr 2
      by_cases h : yQg w S X r i = true
      · rw [if_pos h, if_pos rfl, if_pos h]
      · rw [if_neg h, if_neg (by omega), if_neg h]
    generalize yFo w S X i r = z at *
    apply b196_23 hF
    · intro c
      simp (disch := omega) only [zI_eq] at c
      apply b196_31 hF
      exact go 0 (by rw [if_neg (by rw [hq]; simp only [decide_eq_true_eq]; exact c)])
    · intro c
      simp (disch := omega) only [zI_eq, Decidable.not_not] at c
      apply b196_27 hF
      exact go 1 (by rw [if_pos (by rw [hq]; simp only [decide_eq_true_eq]; exact c)])
theorem s197l {x : zXs} {F : zF} (hF : zSh F) {d : Nat} {V : Nat → Nat → Int32} {T : Nat → Nat → Int64} {Q : Option Value → zG → Prop} {S : Nat → Nat → Nat} (hS : zMS V S) (hW : zWf S) {n : Nat} {w : Nat → Nat → (Nat → Int32) → Int32} (hR : zRd x F V n w) (hru : S 5 2 < n) {t : Nat} (ht : t < 4) {X : Int × Nat × (Nat → Int32)} (hX : zXm V t X) (hX40 : X.2.1 ≤ 40) {one : Nat} (ho : one < 5) (K : ∀ V2 T2, zMS V2 S → yFr V V2 → Q (some (.int (Int32.ofInt (yPB (yQr w S X one) 4 : Int)))) (V2, T2)) : ∀ (m i : Nat) (V1 : Nat → Nat → Int32) (T1 : Nat → Nat → Int64) (P B : Int), P = i → B = (yPB (yQr w S X one) i : Int) → i + m = 4 → zMS V1 S → yFr V V1 → E x F (d + 55) 197 5 [some (.ref 59), some (.int (Int32.ofInt ((t:Int)))), some (.int (Int32.ofInt ((one:Int)))), some (.int (Int32.ofInt (B))), some (.int (Int32.ofInt (P)))] [] (V1, T1) Q := by
  have h5 := hW.2.2.1
  intro m
  induction m with
  | zero =>
    intro i V1 T1 P B hP hB hi hS1 hf
    subst hP
    subst hB
    have hin : i = 4 := by omega
    subst hin
    apply b197_5 hF
    · intro _
      exact b197_55 hF (K V1 T1 hS1 hf)
    · intro c
      simp (disch := omega) only [zI_le] at c
      exfalso; omega
  | succ m ih =>
    intro i V1 T1 P B hP hB hi hS1 hf
    subst hP
    subst hB
    have hz24 := zrn_le (zgb S i) 24
    apply b197_5 hF
    · intro c
      simp (disch := omega) only [zI_le] at c
      exfalso; omega
    intro _
    apply b197_11 hF
    apply s158m hF hS1 hW (by omega)
    intro V2 _ f2
    have hS2 := zMS_67 hS1 f2
    have hf2 := yFr_tr hf (yFr_67 f2)
    have hX2 := zXm_fr hX (V2 := V2) (fun a ha => hf2.1 a (by omega) (by omega))
    have hq : yQr w S X one i = decide (X.2.1 ≤ zrn (zgb S i) 24 ∧ yFo w S X one i = -1) := rfl
    have hnx : yPB (yQr w S X one) (i + 1) = yPB (yQr w S X one) i ||| (if yQr w S X one i = true then 2 ^ i else 0) := rfl
    have es : ∀ z : Nat, z ≤ 1 → Int32.ofInt (z : Int) <<< (Int32.ofInt (i : Int) &&& 31) = Int32.ofInt (((if z = 1 then 2 ^ i else 0 : Nat)) : Int) := by
      intro z hz1
      rw [zB_shl z (by omega), Nat.shiftLeft_eq]
      rcases (show z = 0 ∨ z = 1 by omega) with rfl | rfl
      · rw [if_neg (by omega), Nat.zero_mul]
      · rw [if_pos rfl, Nat.one_mul]
    have go : ∀ V4 T4, zMS V4 S → yFr V V4 → ∀ z : Nat, z = (if yQr w S X one i = true then 1 else 0) → E x F (d + 55) 197 44 [some (.ref 59), some (.int (Int32.ofInt ((t:Int)))), some (.int (Int32.ofInt ((one:Int)))), some (.int (Int32.ofInt ((yPB (yQr w S X one) i : Int)))), some (.int (Int32.ofInt ((i:Int))))] [.int (Int32.ofInt ((z:Int))), .int (Int32.ofInt ((yPB (yQr w S X one) i : Int)))] (V4, T4) Q := by
      intro V4 T4 hS4 hf4 z hz1
      apply b197_44 hF
      rw [es z (by rw [hz1]; split <;> omega), zB_or, zI_add]
      refine ih (i + 1) V4 T4 _ _ (by omega) ?_ (by omega) hS4 hf4
      rw [hnx, hz1]
      congr 2
      by_cases h : yQr w S X one i = true
      · rw [if_pos h, if_pos rfl, if_pos h]
      · rw [if_neg h, if_neg (by omega), if_neg h]
    apply b197_18 hF (i1 := t) (zI_nat t) ht
    · rw [hX2.1]
      intro c
      simp (disch := omega) only [zI_lt] at c
      apply b197_43 hF
      exact go V2 T1 hS2 hf2 0 (by rw [if_neg (by rw [hq]; simp only [decide_eq_true_eq]; omega)])
    · rw [hX2.1]
      intro c
      simp (disch := omega) only [zI_lt] at c
      apply b197_27 hF
      have hR2 : zRd x F V2 n w := zRd_fr hR (hf2.1 60 (by omega) (by omega)) (hf2.1 61 (by omega) (by omega))
      apply s195 hF hS2 hW hR2 hru ht hX2 ho (by omega) (by omega)
      intro V4 T4 hS4 f4
      have hf4 := yFr_tr hf2 f4
      have hin2 := yFo_in (w := w) (S := S) (one := one) (r := i) hX40
      generalize yFo w S X one i = z at *
      apply b197_35 hF
      · intro c1
        simp (disch := omega) only [zI_eq] at c1
        apply b197_43 hF
        exact go V4 T4 hS4 hf4 0 (by rw [if_neg (by rw [hq]; simp only [decide_eq_true_eq]; omega)])
      · intro c1
        simp (disch := omega) only [zI_eq, Decidable.not_not] at c1
        apply b197_39 hF
        exact go V4 T4 hS4 hf4 1 (by rw [if_pos (by rw [hq]; simp only [decide_eq_true_eq]; omega)])
/-- the same, from a place on -/
def ySB (p : Nat → Bool) : Nat → Nat → Nat
  | 0, _ => 0
  | m + 1, j => ySB p m (j + 1) ||| (if p j = true ∧ j < 10 then 2 ^ j else 0)
def ySC (p : Nat → Bool) : Nat → Nat → Nat
  | 0, _ => 0
  | m + 1, j => ySC p m (j + 1) + (if p j = true then 1 else 0)
def ySL (p : Nat → Bool) : Nat → Nat → Int
  | 0, _ => -1
  | m + 1, j => if p j = true then (j : Int) else ySL p m (j + 1)
theorem yPB_s (p : Nat → Bool) : ∀ m j, j + m ≤ 10 → yPB p (j + m) = yPB p j ||| ySB p m j := by
  intro m
  induction m with
  | zero => intro j _; rw [ySB, Nat.or_zero]; rfl
  | succ m ih =>
    intro j h
    have a := ih (j + 1) (by omega)
    rw [show j + (m + 1) = j + 1 + m by omega, a, ySB, yPB, Nat.or_assoc, Nat.or_comm (ySB p m (j + 1))]
    congr 2
    by_cases hp : p j = true
    · rw [if_pos hp, if_pos ⟨hp, by omega⟩]
    · rw [if_neg hp, if_neg (fun g => hp g.1)]
theorem yPC_s (p : Nat → Bool) : ∀ m j, yPC p (j + m) = yPC p j + ySC p m j := by
  intro m
  induction m with
  | zero => intro j; rw [ySC, Nat.add_zero]; rfl
  | succ m ih =>
    intro j
    have a := ih (j + 1)
    rw [show j + (m + 1) = j + 1 + m by omega, a, ySC, yPC]
    omega
theorem yPL_s (p : Nat → Bool) : ∀ m j, yPL p (j + m) = if yPC p j = 0 then ySL p m j else yPL p j := by
  intro m
  induction m with
  | zero =>
    intro j
    rw [ySL, Nat.add_zero]
    have h0 : ∀ j, yPC p j = 0 → yPL p j = -1 := by
      intro j
      induction j with
      | zero => intro _; rfl
      | succ j ih2 =>
        intro h
        rw [yPC] at h
        by_cases hp : p j = true
        · rw [if_pos hp] at h; omega
        · rw [if_neg hp] at h
          rw [yPL, if_neg (fun g => hp g.1)]
          exact ih2 (by omega)
    split
    · rename_i h; exact h0 j h
    · rfl
  | succ m ih =>
    intro j
    have a := ih (j + 1)
    rw [show j + (m + 1) = j + 1 + m by omega, a, ySL, yPC, yPL]
    by_cases hp : p j = true
    · rw [if_pos hp, if_pos hp, if_neg (by omega)]
      by_cases hc : yPC p j = 0
      · rw [if_pos ⟨hp, hc⟩, if_pos hc]
      · rw [if_neg (fun g => hc g.2), if_neg hc]
    · rw [if_neg hp, if_neg hp, Nat.add_zero, if_neg (fun g : p j = true ∧ yPC p j = 0 => hp g.1)]
