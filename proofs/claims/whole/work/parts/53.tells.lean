/-! tells: the class -/
def yFoF (it : Nat → Int32) (g : Nat → Int) : Nat → Nat → Int
  | 0, _ => -1
  | m + 1, i => if it i = Int32.ofInt (g i) then yFoF it g m (i + 1) else i
theorem yFoF_in {it : Nat → Int32} {g : Nat → Int} : ∀ m i, -1 ≤ yFoF it g m i ∧ yFoF it g m i ≤ i + m := by
  intro m
  induction m with
  | zero => intro i; simp only [yFoF]; omega
  | succ m ih =>
    intro i
    have := ih (i + 1)
    simp only [yFoF]
    split <;> omega
/-- the first run that was told otherwise -/
def yFo (w : Nat → Nat → (Nat → Int32) → Int32) (S : Nat → Nat → Nat) (X : Int × Nat × (Nat → Int32)) (one r : Nat) : Int := yFoF X.2.2 (yTn w S one r) X.2.1 0
theorem s103l {x : zXs} {F : zF} (hF : zSh F) {d : Nat} {V : Nat → Nat → Int32} {T : Nat → Nat → Int64} {Q : Option Value → zG → Prop} {t N : Nat} (ht : t < 4) {it : Nat → Int32} {g : Nat → Int} {R : Nat} (hR : R ≤ 12) (hN : N ≤ R) (h19 : V 19 2 = Int32.ofInt (R : Int)) (h42 : ∀ j, j < R → V 42 j = Int32.ofInt (g j)) (h2 : V (51 + 2 * t) 2 = Int32.ofInt (N : Int)) (h3 : ∀ i, i < N → V (51 + 2 * t + 1) i = it i) {o2 o3 : Option Value} : ∀ (m i : Nat) (P : Int), P = i → i + m = N → Q (some (.int (Int32.ofInt (yFoF it g m i)))) (V, T) → E x F d 103 17 [some (.ref 0), some (.ref (51 + 2 * t)), o2, o3, some (.int (Int32.ofInt (P)))] [] (V, T) Q := by
  have hl := zSt4_k ht
  intro m
  induction m with
  | zero =>
    intro i P hP hi k
    subst hP
    have hiN : i = N := by omega
    subst hiN
    apply b103_17 hF hl
    · intro _
      exact b103_67 hF k
    · rw [h2]
      intro c
      simp (disch := omega) only [zI_le] at c
      exfalso; omega
  | succ m ih =>
    intro i P hP hi k
    subst hP
    simp only [yFoF] at k
    apply b103_17 hF hl
    · rw [h2]
      intro c
      simp (disch := omega) only [zI_le] at c
      exfalso; omega
    intro _
    apply b103_26 hF
    · rw [h19]
      intro c
      simp (disch := omega) only [zI_le] at c
      exfalso; omega
    intro _
    apply b103_38 hF hl (i1 := i) (zI_nat i) (by omega) (i2 := i) (zI_nat i) (by omega)
    · rw [h3 i (by omega), h42 i (by omega)]
      intro c
      rw [if_pos c] at k
      apply b103_61 hF
      rw [zI_add]
      exact ih (i + 1) _ (by omega) (by omega) k
    · rw [h3 i (by omega), h42 i (by omega)]
      intro c
      rw [if_neg c] at k
      exact b103_58 hF k
theorem s103 {x : zXs} {F : zF} (hF : zSh F) {d : Nat} {V : Nat → Nat → Int32} {T : Nat → Nat → Int64} {Q : Option Value → zG → Prop} {S : Nat → Nat → Nat} (hS : zCS 7 V S) (hW : zWf S) {n : Nat} {w : Nat → Nat → (Nat → Int32) → Int32} (hR : zRu V n w) (hru : S 5 2 < n) {t : Nat} (ht : t < 4) {X : Int × Nat × (Nat → Int32)} (h2 : V (51 + 2 * t) 2 = Int32.ofInt (X.2.1 : Int)) (h3 : ∀ i, i < X.2.1 → V (51 + 2 * t + 1) i = X.2.2 i) {one r : Nat} (ho : one < 5) (hr : r < 4) (hz : X.2.1 ≤ zrn (zgb S r) 24) (k : ∀ V2, zFt V V2 → Q (some (.int (Int32.ofInt (yFo w S X one r)))) (V2, T)) {o4 : Option Value} : E x F (d + 4) 103 0 [some (.ref 0), some (.ref (51 + 2 * t)), some (.int (Int32.ofInt ((one:Int)))), some (.int (Int32.ofInt ((r:Int)))), o4] [] (V, T) Q := by
  have hb7 : zSt 7 := Or.inr (Or.inl rfl)
  have hN := zrn_24 hW hr
  have hrn := yGl_rn (w := w) hW ho hr
  apply b103_0 hF
  apply s74 hF hb7 hS hW hR hru ho hr
  intro V2 _ h19 h42 f2
  rw [hrn] at h19 h42
  apply b103_13 hF
  have K := k V2 (fun a a1 a2 a3 a4 a5 a6 a7 => f2 a (by omega) a2 a3 a4 a5)
  unfold yFo at K
  exact s103l hF ht (g := yTn w S one r) hN hz h19 h42 (by rw [f2 (51 + 2 * t) (by omega) (by omega) (by omega) (by omega) (by omega)]; exact h2) (fun i hi => by rw [f2 (51 + 2 * t + 1) (by omega) (by omega) (by omega) (by omega) (by omega)]; exact h3 i hi) _ 0 0 rfl (Nat.zero_add _) K
/-- bits, how many, the least: of those ahead of a place -/
def yPB (p : Nat → Bool) : Nat → Nat
  | 0 => 0
  | k + 1 => yPB p k ||| (if p k = true then 2 ^ k else 0)
def yPC (p : Nat → Bool) : Nat → Nat
  | 0 => 0
  | k + 1 => yPC p k + (if p k = true then 1 else 0)
def yPL (p : Nat → Bool) : Nat → Int
  | 0 => -1
  | k + 1 => if p k = true ∧ yPC p k = 0 then (k : Int) else yPL p k
theorem yPB_lt (p : Nat → Bool) : ∀ k, yPB p k < 2 ^ k := by
  intro k
  induction k with
  | zero => exact Nat.one_pos
  | succ k ih =>
    have h2 : 2 ^ k < 2 ^ (k + 1) := Nat.pow_lt_pow_right (by omega) (by omega)
    rw [yPB]
    apply Nat.or_lt_two_pow
    · omega
    · split
      · exact h2
      · exact Nat.two_pow_pos _
theorem yPC_le (p : Nat → Bool) : ∀ k, yPC p k ≤ k := by
  intro k
  induction k with
  | zero => exact Nat.le_refl _
  | succ k ih => rw [yPC]; split <;> omega
theorem yPL_in (p : Nat → Bool) : ∀ k, -1 ≤ yPL p k ∧ yPL p k ≤ k := by
  intro k
  induction k with
  | zero => simp only [yPL]; omega
  | succ k ih => rw [yPL]; split <;> omega
theorem yLd_01 {S : Nat → Nat → Nat} {sort who v : Nat} : yLd S sort who v 0 = S 0 ∧ yLd S sort who v 1 = S 1 := by
  unfold yLd
  split
  · exact ⟨zu_ne (by omega), zu_ne (by omega)⟩
  · split
    · exact ⟨zu_ne (by omega), zu_ne (by omega)⟩
    · split
      · exact ⟨zu_ne (by omega), zu_ne (by omega)⟩
      · split
        · exact ⟨zu_ne (by omega), zu_ne (by omega)⟩
        · exact ⟨zu_ne (by omega), zu_ne (by omega)⟩
theorem yLd_gb {S : Nat → Nat → Nat} {sort who v r : Nat} : zgb (yLd S sort who v) r = zgb S r := by
  unfold zgb
  rw [yLd_01.1, yLd_01.2]
theorem yLd_wf {S : Nat → Nat → Nat} (hW : zWf S) {sort who v : Nat} (h : (sort = 0 → v ≤ 1000000) ∧ (sort = 1 → v ≤ 9) ∧ (sort = 2 → v ≤ 999) ∧ (sort = 3 → v ≤ 5) ∧ (4 ≤ sort → v < 6)) : zWf (yLd S sort who v) := by
  unfold yLd
  split
  · exact zWf_5 hW ⟨by omega, by omega, by omega⟩
  · split
    · exact zWf_3 hW (by omega)
    · split
      · exact zWf_4 hW (by omega)
      · split
        · exact zWf_2 hW (by omega)
        · exact zWf_5 hW ⟨by omega, by omega, by omega⟩
theorem yLd_52 {S : Nat → Nat → Nat} {sort who v n : Nat} (h : S 5 2 < n) (h4 : 4 ≤ sort → v < n) : yLd S sort who v 5 2 < n := by
  unfold yLd
  split
  · rw [zuN_nk (by omega)]; exact h
  · split
    · rw [zu_ne (by omega)]; exact h
    · split
      · rw [zu_ne (by omega)]; exact h
      · split
        · rw [zu_ne (by omega)]; exact h
        · rw [zuN_at]; exact h4 (by omega)
theorem zFt_tr {V V1 V2 : Nat → Nat → Int32} (h1 : zFt V V1) (h2 : zFt V1 V2) : zFt V V2 := fun a a1 a2 a3 a4 a5 a6 a7 => (h2 a a1 a2 a3 a4 a5 a6 a7).trans (h1 a a1 a2 a3 a4 a5 a6 a7)
theorem zFt_rfl (V : Nat → Nat → Int32) : zFt V V := fun _ _ _ _ _ _ _ _ => rfl
theorem zFt_S {V V1 : Nat → Nat → Int32} {S : Nat → Nat → Nat} (hS : zCS 1 V S) (hf : zFt V V1) : zCS 1 V1 S := zCS_fr hS (fun a a1 a2 => hf a (by omega) (by omega) (by omega) (by omega) (by omega) (by omega) (by omega))
theorem zFt_R {V V1 : Nat → Nat → Int32} {n : Nat} {w : Nat → Nat → (Nat → Int32) → Int32} (hR : zRu V n w) (hf : zFt V V1) : zRu V1 n w := zRu_fr hR (fun a ha => hf a (by omega) (by omega) (by omega) (by omega) (by omega) (by omega) (by omega))
theorem zFt_o {V V1 : Nat → Nat → Int32} {a : Nat} (hf : zFt V V1) (h : 44 < a) : V1 a = V a := hf a (by omega) (by omega) (by omega) (by omega) (by omega) (by omega) (by omega)
/-- whether what a sheet tells is so, were a thing laid into the state -/
def yQ (w : Nat → Nat → (Nat → Int32) → Int32) (S : Nat → Nat → Nat) (X : Int × Nat × (Nat → Int32)) (one r sort v : Nat) : Bool := decide (yFo w (yLd S sort one v) X one r = -1)
theorem s104l {x : zXs} {F : zF} (hF : zSh F) {d : Nat} {V : Nat → Nat → Int32} {T : Nat → Nat → Int64} {Q : Option Value → zG → Prop} {S : Nat → Nat → Nat} (hS : zCS 1 V S) (hW : zWf S) {n : Nat} {w : Nat → Nat → (Nat → Int32) → Int32} (hR : zRu V n w) (hru : S 5 2 < n) {t : Nat} (ht : t < 4) {X : Int × Nat × (Nat → Int32)} (h2 : V (51 + 2 * t) 2 = Int32.ofInt (X.2.1 : Int)) (h3 : ∀ i, i < X.2.1 → V (51 + 2 * t + 1) i = X.2.2 i) {one r : Nat} (ho : one < 5) (hr : r < 4) (hz : X.2.1 ≤ zrn (zgb S r) 24) (K : ∀ V2, zFt V V2 → Q (some (.int (Int32.ofInt (yPB (yQ w S X one r 3) 6 : Int)))) (V2, T)) : ∀ (m i : Nat) (V1 : Nat → Nat → Int32) (P B : Int), P = i → B = (yPB (yQ w S X one r 3) i : Int) → i + m = 6 → zFt V V1 → E x F (d + 5) 104 6 [some (.ref 0), some (.ref (51 + 2 * t)), some (.int (Int32.ofInt ((one:Int)))), some (.int (Int32.ofInt ((r:Int)))), some (.int (Int32.ofInt (B))), some (.int (Int32.ofInt (P)))] [] (V1, T) Q := by
  have hb : zSt 1 := Or.inl rfl
  have hb7 : zSt 7 := Or.inr (Or.inl rfl)
  have hl := zSt4_k ht
  have hn6 := hR.2.2.1
  intro m
  induction m with
  | zero =>
    intro i V1 P B hP hB hi hf
    subst hP
    subst hB
    have hin : i = 6 := by omega
    subst hin
    apply b104_6 hF
    · intro _
      exact b104_67 hF (K V1 hf)
    · intro c
      simp (disch := omega) only [zI_le] at c
      exfalso; omega
  | succ m ih =>
    intro i V1 P B hP hB hi hf
    subst hP
    subst hB
    apply b104_6 hF
    · intro c
      simp (disch := omega) only [zI_le] at c
      exfalso; omega
    intro _
    have hS1 := zFt_S hS hf
    have hR1 := zFt_R hR hf
    apply b104_13 hF
    apply s83 hF hb7 hb (by omega) hS1
    intro V2 hS2 f2
    apply b104_24 hF hl (i1 := one) (zI_nat one) (by omega)
    have hS3 : zCS 7 (zu V2 10 one (Int32.ofInt (i : Int))) (yLd S 3 one i) := zCS_zu (b := 7) (f := 2) (by omega) hS2
    have hf3 : zFt V (zu V2 10 one (Int32.ofInt (i : Int))) := fun a a1 a2 a3 a4 a5 a6 a7 => by rw [zu_ne (by omega), f2 a (by omega)]; exact hf a a1 a2 a3 a4 a5 a6 a7
    have hR3 := zFt_R hR hf3
    apply s103 hF hS3 (yLd_wf hW (by omega)) hR3 (yLd_52 hru (by omega)) ht (by rw [zFt_o hf3 (by omega)]; exact h2) (fun j hj => by rw [zFt_o hf3 (by omega)]; exact h3 j hj) ho hr (by rw [yLd_gb]; exact hz)
    intro V4 f4
    have hf4 := zFt_tr hf3 f4
    have hin := yFoF_in (it := X.2.2) (g := yTn w (yLd S 3 one i) one r) X.2.1 0
    have hin2 : -1 ≤ yFo w (yLd S 3 one i) X one r ∧ yFo w (yLd S 3 one i) X one r ≤ 100 := by
      have := zrn_le (zgb S r) 24
      have e : yFo w (yLd S 3 one i) X one r = yFoF X.2.2 (yTn w (yLd S 3 one i) one r) X.2.1 0 := rfl
      rw [e]; omega
    have hq : yQ w S X one r 3 i = decide (yFo w (yLd S 3 one i) X one r = -1) := rfl
    have hnx : yPB (yQ w S X one r 3) (i + 1) = yPB (yQ w S X one r 3) i ||| (if yQ w S X one r 3 i = true then 2 ^ i else 0) := rfl
    have go : ∀ z : Int, z = (if yQ w S X one r 3 i = true then 1 else 0) → E x F (d + 5) 104 53 [some (.ref 0), some (.ref (51 + 2 * t)), some (.int (Int32.ofInt ((one:Int)))), some (.int (Int32.ofInt ((r:Int)))), some (.int (Int32.ofInt ((yPB (yQ w S X one r 3) i : Int)))), some (.int (Int32.ofInt ((i:Int))))] [.int (Int32.ofInt (z)), .int (Int32.ofInt ((yPB (yQ w S X one r 3) i : Int)))] (V4, T) Q := by
      intro z hz
      apply b104_53 hF
      apply s105 hF (v := i) (by omega) hz
      apply b104_58 hF
      rw [zB_or, zI_add]
      exact ih (i + 1) V4 _ _ (by omega) (by rw [hnx]) (by omega) hf4
    generalize yFo w (yLd S 3 one i) X one r = z at *
    apply b104_44 hF
    · intro c
      simp (disch := omega) only [zI_eq] at c
      apply b104_52 hF
      exact go 0 (by rw [if_neg (by rw [hq]; simp only [decide_eq_true_eq]; exact c)])
    · intro c
      simp (disch := omega) only [zI_eq, Decidable.not_not] at c
      apply b104_48 hF
      exact go 1 (by rw [if_pos (by rw [hq]; simp only [decide_eq_true_eq]; exact c)])
theorem s106l {x : zXs} {F : zF} (hF : zSh F) {d : Nat} {V : Nat → Nat → Int32} {T : Nat → Nat → Int64} {Q : Option Value → zG → Prop} {S : Nat → Nat → Nat} (hS : zCS 1 V S) (hW : zWf S) {n : Nat} {w : Nat → Nat → (Nat → Int32) → Int32} (hR : zRu V n w) (hru : S 5 2 < n) {t : Nat} (ht : t < 4) {X : Int × Nat × (Nat → Int32)} (h2 : V (51 + 2 * t) 2 = Int32.ofInt (X.2.1 : Int)) (h3 : ∀ i, i < X.2.1 → V (51 + 2 * t + 1) i = X.2.2 i) {one r : Nat} (ho : one < 5) (hr : r < 4) (hz : X.2.1 ≤ zrn (zgb S r) 24) (K : ∀ V2, zFt V V2 → Q (some (.int (Int32.ofInt (yPB (yQ w S X one r 1) 10 : Int)))) (V2, T)) : ∀ (m i : Nat) (V1 : Nat → Nat → Int32) (P B : Int), P = i → B = (yPB (yQ w S X one r 1) i : Int) → i + m = 10 → zFt V V1 → E x F (d + 5) 106 6 [some (.ref 0), some (.ref (51 + 2 * t)), some (.int (Int32.ofInt ((one:Int)))), some (.int (Int32.ofInt ((r:Int)))), some (.int (Int32.ofInt (B))), some (.int (Int32.ofInt (P)))] [] (V1, T) Q := by
  have hb : zSt 1 := Or.inl rfl
  have hb7 : zSt 7 := Or.inr (Or.inl rfl)
  have hl := zSt4_k ht
  have hn6 := hR.2.2.1
  intro m
  induction m with
  | zero =>
    intro i V1 P B hP hB hi hf
    subst hP
    subst hB
    have hin : i = 10 := by omega
    subst hin
    apply b106_6 hF
    · intro _
      exact b106_67 hF (K V1 hf)
    · intro c
      simp (disch := omega) only [zI_lt] at c
      exfalso; omega
  | succ m ih =>
    intro i V1 P B hP hB hi hf
    subst hP
    subst hB
    apply b106_6 hF
    · intro c
      simp (disch := omega) only [zI_lt] at c
      exfalso; omega
    intro _
    have hS1 := zFt_S hS hf
    have hR1 := zFt_R hR hf
    apply b106_13 hF
    apply s83 hF hb7 hb (by omega) hS1
    intro V2 hS2 f2
    apply b106_24 hF hl (i1 := one) (zI_nat one) (by omega)
    have hS3 : zCS 7 (zu V2 11 one (Int32.ofInt (i : Int))) (yLd S 1 one i) := zCS_zu (b := 7) (f := 3) (by omega) hS2
    have hf3 : zFt V (zu V2 11 one (Int32.ofInt (i : Int))) := fun a a1 a2 a3 a4 a5 a6 a7 => by rw [zu_ne (by omega), f2 a (by omega)]; exact hf a a1 a2 a3 a4 a5 a6 a7
    have hR3 := zFt_R hR hf3
    apply s103 hF hS3 (yLd_wf hW (by omega)) hR3 (yLd_52 hru (by omega)) ht (by rw [zFt_o hf3 (by omega)]; exact h2) (fun j hj => by rw [zFt_o hf3 (by omega)]; exact h3 j hj) ho hr (by rw [yLd_gb]; exact hz)
    intro V4 f4
    have hf4 := zFt_tr hf3 f4
    have hin := yFoF_in (it := X.2.2) (g := yTn w (yLd S 1 one i) one r) X.2.1 0
    have hin2 : -1 ≤ yFo w (yLd S 1 one i) X one r ∧ yFo w (yLd S 1 one i) X one r ≤ 100 := by
      have := zrn_le (zgb S r) 24
      have e : yFo w (yLd S 1 one i) X one r = yFoF X.2.2 (yTn w (yLd S 1 one i) one r) X.2.1 0 := rfl
      rw [e]; omega
    have hq : yQ w S X one r 1 i = decide (yFo w (yLd S 1 one i) X one r = -1) := rfl
    have hnx : yPB (yQ w S X one r 1) (i + 1) = yPB (yQ w S X one r 1) i ||| (if yQ w S X one r 1 i = true then 2 ^ i else 0) := rfl
    have go : ∀ z : Int, z = (if yQ w S X one r 1 i = true then 1 else 0) → E x F (d + 5) 106 53 [some (.ref 0), some (.ref (51 + 2 * t)), some (.int (Int32.ofInt ((one:Int)))), some (.int (Int32.ofInt ((r:Int)))), some (.int (Int32.ofInt ((yPB (yQ w S X one r 1) i : Int)))), some (.int (Int32.ofInt ((i:Int))))] [.int (Int32.ofInt (z)), .int (Int32.ofInt ((yPB (yQ w S X one r 1) i : Int)))] (V4, T) Q := by
      intro z hz
      apply b106_53 hF
      apply s105 hF (v := i) (by omega) hz
      apply b106_58 hF
      rw [zB_or, zI_add]
      exact ih (i + 1) V4 _ _ (by omega) (by rw [hnx]) (by omega) hf4
    generalize yFo w (yLd S 1 one i) X one r = z at *
    apply b106_44 hF
    · intro c
      simp (disch := omega) only [zI_eq] at c
      apply b106_52 hF
      exact go 0 (by rw [if_neg (by rw [hq]; simp only [decide_eq_true_eq]; exact c)])
    · intro c
      simp (disch := omega) only [zI_eq, Decidable.not_not] at c
      apply b106_48 hF
      exact go 1 (by rw [if_pos (by rw [hq]; simp only [decide_eq_true_eq]; exact c)])
theorem s108l {x : zXs} {F : zF} (hF : zSh F) {d : Nat} {V : Nat → Nat → Int32} {T : Nat → Nat → Int64} {Q : Option Value → zG → Prop} {S : Nat → Nat → Nat} (hS : zCS 1 V S) (hW : zWf S) {n : Nat} {w : Nat → Nat → (Nat → Int32) → Int32} (hR : zRu V n w) (hru : S 5 2 < n) {t : Nat} (ht : t < 4) {X : Int × Nat × (Nat → Int32)} (h2 : V (51 + 2 * t) 2 = Int32.ofInt (X.2.1 : Int)) (h3 : ∀ i, i < X.2.1 → V (51 + 2 * t + 1) i = X.2.2 i) {one r : Nat} (ho : one < 5) (hr : r < 4) (hz : X.2.1 ≤ zrn (zgb S r) 24) (K : ∀ V2, zFt V V2 → Q (some (.int (Int32.ofInt (yPB (yQ w S X one r 4) n : Int)))) (V2, T)) : ∀ (m i : Nat) (V1 : Nat → Nat → Int32) (P B : Int), P = i → B = (yPB (yQ w S X one r 4) i : Int) → i + m = n → zFt V V1 → E x F (d + 5) 108 6 [some (.ref 0), some (.ref (51 + 2 * t)), some (.int (Int32.ofInt ((one:Int)))), some (.int (Int32.ofInt ((r:Int)))), some (.int (Int32.ofInt (B))), some (.int (Int32.ofInt (P)))] [] (V1, T) Q := by
  have hb : zSt 1 := Or.inl rfl
  have hb7 : zSt 7 := Or.inr (Or.inl rfl)
  have hl := zSt4_k ht
  have hn6 := hR.2.2.1
  intro m
  induction m with
  | zero =>
    intro i V1 P B hP hB hi hf
    subst hP
    subst hB
    have hin : i = n := by omega
    subst hin
    apply b108_6 hF
    · intro _
      exact b108_70 hF (K V1 hf)
    · rw [hf 20 (by omega) (by omega) (by omega) (by omega) (by omega) (by omega) (by omega), hR.1]
      intro c
      simp (disch := omega) only [zI_le] at c
      exfalso; omega
  | succ m ih =>
    intro i V1 P B hP hB hi hf
    subst hP
    subst hB
    apply b108_6 hF
    · rw [hf 20 (by omega) (by omega) (by omega) (by omega) (by omega) (by omega) (by omega), hR.1]
      intro c
      simp (disch := omega) only [zI_le] at c
      exfalso; omega
    intro _
    have hS1 := zFt_S hS hf
    have hR1 := zFt_R hR hf
    apply b108_18 hF
    apply s83 hF hb7 hb (by omega) hS1
    intro V2 hS2 f2
    apply b108_29 hF hl
    have hS3 : zCS 7 (zu V2 7 7 (Int32.ofInt (i : Int))) (yLd S 4 one i) := zCS_z5 (b := 7) (i := 2) (by omega) hS2
    have hf3 : zFt V (zu V2 7 7 (Int32.ofInt (i : Int))) := fun a a1 a2 a3 a4 a5 a6 a7 => by rw [zu_ne (by omega), f2 a (by omega)]; exact hf a a1 a2 a3 a4 a5 a6 a7
    have hR3 := zFt_R hR hf3
    apply s103 hF hS3 (yLd_wf hW (by omega)) hR3 (yLd_52 hru (by omega)) ht (by rw [zFt_o hf3 (by omega)]; exact h2) (fun j hj => by rw [zFt_o hf3 (by omega)]; exact h3 j hj) ho hr (by rw [yLd_gb]; exact hz)
    intro V4 f4
    have hf4 := zFt_tr hf3 f4
    have hin := yFoF_in (it := X.2.2) (g := yTn w (yLd S 4 one i) one r) X.2.1 0
    have hin2 : -1 ≤ yFo w (yLd S 4 one i) X one r ∧ yFo w (yLd S 4 one i) X one r ≤ 100 := by
      have := zrn_le (zgb S r) 24
      have e : yFo w (yLd S 4 one i) X one r = yFoF X.2.2 (yTn w (yLd S 4 one i) one r) X.2.1 0 := rfl
      rw [e]; omega
    have hq : yQ w S X one r 4 i = decide (yFo w (yLd S 4 one i) X one r = -1) := rfl
    have hnx : yPB (yQ w S X one r 4) (i + 1) = yPB (yQ w S X one r 4) i ||| (if yQ w S X one r 4 i = true then 2 ^ i else 0) := rfl
    have go : ∀ z : Int, z = (if yQ w S X one r 4 i = true then 1 else 0) → E x F (d + 5) 108 56 [some (.ref 0), some (.ref (51 + 2 * t)), some (.int (Int32.ofInt ((one:Int)))), some (.int (Int32.ofInt ((r:Int)))), some (.int (Int32.ofInt ((yPB (yQ w S X one r 4) i : Int)))), some (.int (Int32.ofInt ((i:Int))))] [.int (Int32.ofInt (z)), .int (Int32.ofInt ((yPB (yQ w S X one r 4) i : Int)))] (V4, T) Q := by
      intro z hz
      apply b108_56 hF
      apply s105 hF (v := i) (by omega) hz
      apply b108_61 hF
      rw [zB_or, zI_add]
      exact ih (i + 1) V4 _ _ (by omega) (by rw [hnx]) (by omega) hf4
    generalize yFo w (yLd S 4 one i) X one r = z at *
    apply b108_47 hF
    · intro c
      simp (disch := omega) only [zI_eq] at c
      apply b108_55 hF
      exact go 0 (by rw [if_neg (by rw [hq]; simp only [decide_eq_true_eq]; exact c)])
    · intro c
      simp (disch := omega) only [zI_eq, Decidable.not_not] at c
      apply b108_51 hF
      exact go 1 (by rw [if_pos (by rw [hq]; simp only [decide_eq_true_eq]; exact c)])
