/-! The reference: the greatest run; all gaps; one tries -/
theorem zrn_over {g L : Nat} (h : ∀ i, L ≤ i → g.testBit i = false) : ∀ m, zrn g (L + m) = zrn g L := by
  intro m
  induction m with
  | zero => rfl
  | succ m ih => rw [show L + (m + 1) = L + m + 1 by omega, zrn_s0 (h _ (by omega)), ih]
theorem zsz_over {g L j : Nat} (h : ∀ i, L ≤ i → g.testBit i = false) : ∀ m, zsz g j (L + m) = zsz g j L := by
  intro m
  induction m with
  | zero => rfl
  | succ m ih => rw [show L + (m + 1) = L + m + 1 by omega, zsz_s0 (h _ (by omega)), ih]
theorem ygb_24 {L B : Nat} (h1 : L ≤ 24) (h2 : B < 2 ^ L) : zrn (ygb L B) 24 = zrn (ygb L B) L ∧ ∀ j, zsz (ygb L B) j 24 = zsz (ygb L B) j L := by
  have h : ∀ i, L ≤ i → (ygb L B).testBit i = false := by
    intro i hi
    rw [ygb_bit h2]
    have : ¬ i < L := by omega
    simp [this]
  have e : 24 = L + (24 - L) := by omega
  refine ⟨?_, fun j => ?_⟩
  · rw [e]; exact zrn_over h _
  · rw [e]; exact zsz_over h _
theorem s160l {x : zXs} {F : zF} (hF : zSh F) {d : Nat} {V : Nat → Nat → Int32} {T : Nat → Nat → Int64} {Q : Option Value → zG → Prop} {r : Nat} {g N : Nat} (hN : N ≤ 24) (k : Q (some (.int (Int32.ofInt (ygr g N : Int)))) (V, T)) (h68 : ∀ j, j < N → V 68 j = Int32.ofInt (zsz g j 24 : Int)) : ∀ (m i : Nat) (M P : Int), P = i → M = ygr g i → i + m = N → E x F d 160 11 [some (.ref 59), some (.int (Int32.ofInt (r : Int))), some (.int (Int32.ofInt (N : Int))), some (.int (Int32.ofInt M)), some (.int (Int32.ofInt P))] [] (V, T) Q := by
  intro m
  induction m with
  | zero =>
    intro i M P hP hM hi
    subst hP
    subst hM
    have hiN : i = N := by omega
    subst hiN
    apply b160_11 hF
    · intro _
      exact b160_46 hF k
    · intro c
      simp (disch := omega) only [zI_le] at c
      exfalso; omega
  | succ m ih =>
    intro i M P hP hM hi
    subst hP
    subst hM
    have h1 := ygr_le g i
    have h2 := zsz_le g i 24
    have h3 : ygr g (i + 1) = if ygr g i < zsz g i 24 then zsz g i 24 else ygr g i := rfl
    apply b160_11 hF
    · intro c
      simp (disch := omega) only [zI_le] at c
      exfalso; omega
    intro _
    apply b160_17 hF (i1 := i) (zI_nat i) (by omega)
    · rw [h68 i (by omega)]
      intro c
      simp (disch := omega) only [zI_le] at c
      apply b160_38 hF
      apply b160_39 hF
      rw [zI_add]
      apply ih (i + 1) _ _ (by omega) _ (by omega)
      rw [h3, if_neg (by omega)]
    · rw [h68 i (by omega)]
      intro c
      simp (disch := omega) only [zI_le] at c
      apply b160_28 hF (i1 := i) (zI_nat i) (by omega)
      rw [h68 i (by omega)]
      apply b160_39 hF
      rw [zI_add]
      apply ih (i + 1) _ _ (by omega) _ (by omega)
      rw [h3, if_pos (by omega)]
theorem s160 {x : zXs} {F : zF} (hF : zSh F) {d : Nat} {V : Nat → Nat → Int32} {T : Nat → Nat → Int64} {Q : Option Value → zG → Prop} {r L B : Nat} (hr : r < 5) (hL : V 64 r = Int32.ofInt (L : Int)) (hB : V 63 r = Int32.ofInt (B : Int)) (h1 : L ≤ 24) (h2 : B < 2 ^ L) (k : ∀ V', (∀ a, a ≠ 67 → a ≠ 68 → V' a = V a) → Q (some (.int (Int32.ofInt (ygr (ygb L B) (zrn (ygb L B) 24) : Int)))) (V', T)) {o2 o3 o4 : Option Value} : E x F (d + 2) 160 0 [some (.ref 59), some (.int (Int32.ofInt (r : Int))), o2, o3, o4] [] (V, T) Q := by
  obtain ⟨e1, e2⟩ := ygb_24 h1 h2
  have hN := zrn_le (ygb L B) L
  apply b160_0 hF
  apply s158 hF hr hL hB h1 h2
  intro V' hV'
  apply b160_5 hF
  have K := k V' hV'.2
  rw [e1] at K
  exact s160l hF (by omega) K (fun j hj => by rw [e2]; exact (hV'.1 j hj).2) _ 0 0 0 rfl rfl (Nat.zero_add _)
theorem s177 {x : zXs} {F : zF} (hF : zSh F) {d : Nat} {V : Nat → Nat → Int32} {T : Nat → Nat → Int64} {Q : Option Value → zG → Prop} {S : Nat → Nat → Nat} (hS : zMS V S) (hW : zWf S) (k : Q (some (.int (Int32.ofInt (zll S 4 : Int)))) (V, T)) : E x F (d + 2) 177 0 [some (.ref 59)] [] (V, T) Q := by
  have a := fun (r : Nat) (hr : r < 4) (Q : Option Value → zG → Prop) => s133 (x := x) hF (d := d) (V := V) (T := T) (Q := Q) (r := r) (by omega) (hS.1 r (by omega)) (hS.2.1 r (by omega)) (hW.1 r hr).1 (hW.1 r hr).2
  apply b177_0 hF
  apply a 0 (by omega)
  apply b177_5 hF
  apply a 1 (by omega)
  apply b177_10 hF
  apply a 2 (by omega)
  apply b177_16 hF
  apply a 3 (by omega)
  apply b177_22 hF
  simp only [zI_add]
  have e : ((zpc 24 (ygb (S 0 0) (S 1 0)) : Int) + zpc 24 (ygb (S 0 1) (S 1 1)) + zpc 24 (ygb (S 0 2) (S 1 2)) + zpc 24 (ygb (S 0 3) (S 1 3))) = (zll S 4 : Int) := by
    have : zll S 4 = 0 + zpc 24 (ygb (S 0 0) (S 1 0)) + zpc 24 (ygb (S 0 1) (S 1 1)) + zpc 24 (ygb (S 0 2) (S 1 2)) + zpc 24 (ygb (S 0 3) (S 1 3)) := rfl
    omega
  rw [e]
  exact k
