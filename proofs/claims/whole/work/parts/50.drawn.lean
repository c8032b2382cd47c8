/-! drawn, chance: both -/
theorem yT_eq {w : Nat → Nat → (Nat → Int32) → Int32} {S S' : Nat → Nat → Nat} {one : Nat} (h2 : S' 2 one = S 2 one) (h3 : S' 3 one = S 3 one) (h5 : S' 5 = S 5) : yT w S' one = yT w S one := by
  funext g nth ap ln
  have e4 : ∀ Z : Nat → Nat → Nat, zu Z 4 one ap 4 one = ap := fun Z => zuN_at
  have e2 : ∀ (Z : Nat → Nat → Nat) (f : Nat), f ≠ 4 → zu Z 4 one ap f = Z f := fun Z f hf => zu_ne hf
  unfold yT yWant yTk
  simp only [e4, e2 S 2 (by omega), e2 S 3 (by omega), e2 S 5 (by omega), e2 S' 2 (by omega), e2 S' 3 (by omega), e2 S' 5 (by omega), h2, h3, h5]
theorem yClose_eq {w : Nat → Nat → (Nat → Int32) → Int32} {S S' : Nat → Nat → Nat} {one : Nat} (h2 : S' 2 one = S 2 one) (h3 : S' 3 one = S 3 one) (h5 : S' 5 = S 5) (p : yG) : yClose w S' one p = yClose w S one p := by
  unfold yClose
  rw [yT_eq h2 h3 h5]
theorem yFrom_eq {w : Nat → Nat → (Nat → Int32) → Int32} {S S' : Nat → Nat → Nat} {one B : Nat} (h2 : S' 2 one = S 2 one) (h3 : S' 3 one = S 3 one) (h5 : S' 5 = S 5) : ∀ (m k : Nat) (p : yG), yFrom w S' one B k m p = yFrom w S one B k m p := by
  intro m
  induction m with
  | zero => intro k p; exact yClose_eq h2 h3 h5 p
  | succ m ih =>
    intro k p
    rw [yFrom, yFrom, ih]
    unfold yScan
    rw [yClose_eq h2 h3 h5]
theorem yGl_eq {w : Nat → Nat → (Nat → Int32) → Int32} {S S' : Nat → Nat → Nat} {one L B : Nat} (h2 : S' 2 one = S 2 one) (h3 : S' 3 one = S 3 one) (h4 : S' 4 one = S 4 one) (h5 : S' 5 = S 5) : yGl w S' one L B = yGl w S one L B := by
  unfold yGl
  rw [yFrom_eq h2 h3 h5, h4]
def yZ (z : Int32) : Int32 := (z * (1103515245 : Int32)) + (Int32.ofInt 12345)
abbrev yZg (z : Int32) : Prop := ((z.toUInt32 >>> ((Int32.ofInt 9).toUInt32 &&& Int32.toUInt32 31)).toInt32) - ((z.toUInt32 >>> ((Int32.ofInt 9).toUInt32 &&& Int32.toUInt32 31)).toInt32) / (Int32.ofInt 3) * (Int32.ofInt 3) = 0
/-- the row drawn from a seed, its first places: the seed then, the stalks -/
def yDr (seed : Int32) : Nat → Int32 × Nat
  | 0 => (seed, 0)
  | k + 1 => (yZ (yDr seed k).1, (yDr seed k).2 ||| (if ¬ yZg (yZ (yDr seed k).1) then 2 ^ k else 0))
theorem yDr_lt (seed : Int32) : ∀ k, (yDr seed k).2 < 2 ^ k := by
  intro k
  induction k with
  | zero => exact Nat.one_pos
  | succ k ih =>
    have h2 : 2 ^ k < 2 ^ (k + 1) := Nat.pow_lt_pow_right (by omega) (by omega)
    rw [yDr]
    apply Nat.or_lt_two_pow
    · omega
    · split
      · exact h2
      · exact Nat.two_pow_pos _
/-- how much one takes of a row -/
def yDm (w : Nat → Nat → (Nat → Int32) → Int32) (S : Nat → Nat → Nat) (one L B : Nat) : Int := (yGl w S one L B).2.2.2.2.2.2.1
theorem yDm_eq {w : Nat → Nat → (Nat → Int32) → Int32} {S : Nat → Nat → Nat} {one L B : Nat} : (yGl w S one L B).2.2.2.2.2.2.1 = yDm w S one L B := rfl
def yDn (w : Nat → Nat → (Nat → Int32) → Int32) (S : Nat → Nat → Nat) (seed : Int32) (one : Nat) : Int := yDm w S one 24 (yDr seed 24).2
theorem zWf_row {S : Nat → Nat → Nat} (hW : zWf S) {L B : Nat} (h1 : L ≤ 24) (h2 : B < 2 ^ L) {r : Nat} : zWf (zu (zu S 0 r L) 1 r B) := by
  obtain ⟨g0, g1, g2, g3, g4⟩ := hW
  refine ⟨?_, ?_, ?_, ?_, ?_⟩
  · intro i hi
    have e : zu (zu S 0 r L) 1 r B 0 i = if i = r then L else S 0 i := by
      rw [zu_ne (by omega), zu_at]
    have e1 : zu (zu S 0 r L) 1 r B 1 i = if i = r then B else S 1 i := by
      rw [zu_at, zu_ne (by omega)]
    rw [e, e1]
    split
    · exact ⟨h1, h2⟩
    · exact g0 i hi
  · intro i hi
    rw [zu_ne (by omega), zu_ne (by omega), zu_ne (by omega), zu_ne (by omega), zu_ne (by omega), zu_ne (by omega)]
    exact g1 i hi
  · rw [zu_ne (by omega), zu_ne (by omega)]; exact g2
  · rw [zu_ne (by omega), zu_ne (by omega)]; exact g3
  · rw [zu_ne (by omega), zu_ne (by omega)]; exact g4
theorem s117l {x : zXs} {F : zF} (hF : zSh F) {d : Nat} {V : Nat → Nat → Int32} {T : Nat → Nat → Int64} {Q : Option Value → zG → Prop} {seed : Int32} {o0 o1 o2 : Option Value} (K : ∀ o3 o5 : Option Value, E x F (d + 1) 117 55 [o0, o1, o2, o3, some (.int (Int32.ofInt ((yDr seed 24).2 : Int))), o5] [] (V, T) Q) : ∀ (m i : Nat) (P B : Int), P = i → B = ((yDr seed i).2 : Int) → i + m = 24 → E x F (d + 1) 117 8 [o0, o1, o2, some (.int (yDr seed i).1), some (.int (Int32.ofInt (B))), some (.int (Int32.ofInt (P)))] [] (V, T) Q := by
  intro m
  induction m with
  | zero =>
    intro i P B hP hB hi
    subst hP
    subst hB
    have h24 : i = 24 := by omega
    subst h24
    apply b117_8 hF
    · intro _
      exact K _ _
    · intro c
      simp (disch := omega) only [zI_le] at c
      exfalso; omega
  | succ m ih =>
    intro i P B hP hB hi
    subst hP
    subst hB
    have e : yDr seed (i + 1) = (yZ (yDr seed i).1, (yDr seed i).2 ||| (if ¬ yZg (yZ (yDr seed i).1) then 2 ^ i else 0)) := rfl
    have I := ih (i + 1) ((i : Int) + 1) ((yDr seed (i + 1)).2 : Int) (by omega) rfl (by omega)
    apply b117_8 hF
    · intro c
      simp (disch := omega) only [zI_le] at c
      exfalso; omega
    intro _
    have go : ∀ z : Int, z = (if ¬ yZg (yZ (yDr seed i).1) then 1 else 0) → E x F (d + 1) 117 41 [o0, o1, o2, some (.int (yZ (yDr seed i).1)), some (.int (Int32.ofInt (((yDr seed i).2 : Int)))), some (.int (Int32.ofInt ((i:Int))))] [.int (Int32.ofInt (z)), .int (Int32.ofInt (((yDr seed i).2 : Int)))] (V, T) Q := by
      intro z hz
      apply b117_41 hF
      apply s105 hF (v := i) (by omega) hz
      apply b117_46 hF
      rw [zB_or, zI_add]
      rw [e] at I
      exact I
    apply b117_15 hF
    · intro c
      have c2 : yZg (yZ (yDr seed i).1) := c
      apply b117_40 hF
      exact go 0 (by rw [if_neg (fun h => h c2)])
    · intro c
      have c2 : ¬ yZg (yZ (yDr seed i).1) := c
      apply b117_36 hF
      exact go 1 (by rw [if_pos c2])
theorem s117b {x : zXs} {F : zF} (hF : zSh F) {d : Nat} {V : Nat → Nat → Int32} {T : Nat → Nat → Int64} {Q : Option Value → zG → Prop} {S : Nat → Nat → Nat} (hS : zCS 1 V S) (hW : zWf S) {n : Nat} {w : Nat → Nat → (Nat → Int32) → Int32} (hR : zRu V n w) (hru : S 5 2 < n) {B : Nat} (hlt : B < 2 ^ 24) {one : Nat} (ho : one < 5) (k : ∀ V2, zFt V V2 → Q (some (.int (Int32.ofInt (yDm w S one 24 B)))) (V2, T)) {o1 o3 o5 : Option Value} : E x F (d + 4) 117 55 [some (.ref 0), o1, some (.int (Int32.ofInt ((one:Int)))), o3, some (.int (Int32.ofInt ((B:Int)))), o5] [] (V, T) Q := by
  have hb : zSt 1 := Or.inl rfl
  have hb7 : zSt 7 := Or.inr (Or.inl rfl)
  apply b117_55 hF
  apply s83 hF hb7 hb (by omega) hS
  intro V1 hS1 f1
  apply b117_66 hF
  have hS2 : zCS 7 (zu (zu V1 8 0 (Int32.ofInt ((24 : Nat) : Int))) 9 0 (Int32.ofInt (B : Int))) (zu (zu S 0 0 24) 1 0 B) := zCS_zu (b := 7) (f := 1) (by omega) (zCS_zu (b := 7) (f := 0) (by omega) hS1)
  have hW2 := zWf_row hW (r := 0) (show 24 ≤ 24 by omega) hlt
  have hf2 : ∀ a, (a < 7 ∨ 12 < a) → zu (zu V1 8 0 (Int32.ofInt ((24 : Nat) : Int))) 9 0 (Int32.ofInt (B : Int)) a = V a := fun a ha => by rw [zu_ne (by omega), zu_ne (by omega), f1 a (by omega)]
  have hR2 : zRu (zu (zu V1 8 0 (Int32.ofInt ((24 : Nat) : Int))) 9 0 (Int32.ofInt (B : Int))) n w := zRu_fr hR (fun a ha => hf2 a (by omega))
  apply s74 hF hb7 hS2 hW2 hR2 (r := 0) (by rw [zu_ne (by omega), zu_ne (by omega)]; exact hru) ho (by omega)
  intro V3 _ _ _ f3
  apply b117_101 hF
  have e0 : zu (zu S 0 0 24) 1 0 B 0 0 = 24 := by rw [zu_ne (by omega), zuN_at]
  have e1 : zu (zu S 0 0 24) 1 0 B 1 0 = B := zuN_at
  rw [e0, e1, yGl_eq (S := S) (by rw [zu_ne (by omega), zu_ne (by omega)]) (by rw [zu_ne (by omega), zu_ne (by omega)]) (by rw [zu_ne (by omega), zu_ne (by omega)]) (by rw [zu_ne (by omega), zu_ne (by omega)]), yDm_eq]
  exact k V3 (fun a a1 a2 a3 a4 a5 a6 a7 => (f3 a (by omega) a2 a3 a4 a5).trans (hf2 a a1))
theorem s117 {x : zXs} {F : zF} (hF : zSh F) {d : Nat} {V : Nat → Nat → Int32} {T : Nat → Nat → Int64} {Q : Option Value → zG → Prop} {S : Nat → Nat → Nat} (hS : zCS 1 V S) (hW : zWf S) {n : Nat} {w : Nat → Nat → (Nat → Int32) → Int32} (hR : zRu V n w) (hru : S 5 2 < n) {seed : Int32} {one : Nat} (ho : one < 5) (k : ∀ V2, zFt V V2 → Q (some (.int (Int32.ofInt (yDn w S seed one)))) (V2, T)) {o3 o4 o5 : Option Value} : E x F (d + 4) 117 0 [some (.ref 0), some (.int seed), some (.int (Int32.ofInt ((one:Int)))), o3, o4, o5] [] (V, T) Q := by
  unfold yDn at k
  apply b117_0 hF
  refine s117l hF (seed := seed) ?_ 24 0 0 0 rfl rfl rfl
  intro o3 o5
  have hlt := yDr_lt seed 24
  revert hlt k
  generalize (yDr seed 24).2 = B
  intro k hlt
  exact s117b hF hS hW hR hru hlt ho k
theorem s201l {x : zXs} {F : zF} (hF : zSh F) {d : Nat} {V : Nat → Nat → Int32} {T : Nat → Nat → Int64} {Q : Option Value → zG → Prop} {seed : Int32} {o1 o2 : Option Value} (h63 : V 63 4 = Int32.ofInt 0) (K : ∀ V2, V2 63 4 = Int32.ofInt ((yDr seed 24).2 : Int) → (∀ j, j ≠ 4 → V2 63 j = V 63 j) → (∀ a, a ≠ 63 → V2 a = V a) → ∀ o3 o4 : Option Value, E x F d 201 73 [some (.ref 59), o1, o2, o3, o4] [] (V2, T) Q) : ∀ (m i : Nat) (V1 : Nat → Nat → Int32) (P : Int), P = i → V1 63 4 = Int32.ofInt ((yDr seed i).2 : Int) → (∀ j, j ≠ 4 → V1 63 j = V 63 j) → (∀ a, a ≠ 63 → V1 a = V a) → i + m = 24 → E x F d 201 24 [some (.ref 59), o1, o2, some (.int (yDr seed i).1), some (.int (Int32.ofInt (P)))] [] (V1, T) Q := by
  intro m
  induction m with
  | zero =>
    intro i V1 P hP hB hj hf hi
    subst hP
    have h24 : i = 24 := by omega
    subst h24
    apply b201_24 hF
    · intro _
      exact K V1 hB hj hf _ _
    · intro c
      simp (disch := omega) only [zI_le] at c
      exfalso; omega
  | succ m ih =>
    intro i V1 P hP hB hj hf hi
    subst hP
    have e : yDr seed (i + 1) = (yZ (yDr seed i).1, (yDr seed i).2 ||| (if ¬ yZg (yZ (yDr seed i).1) then 2 ^ i else 0)) := rfl
    apply b201_24 hF
    · intro c
      simp (disch := omega) only [zI_le] at c
      exfalso; omega
    intro _
    have go : ∀ z : Nat, z = (if ¬ yZg (yZ (yDr seed i).1) then 2 ^ i else 0) → E x F d 201 65 [some (.ref 59), o1, o2, some (.int (yZ (yDr seed i).1)), some (.int (Int32.ofInt ((i:Int))))] [.int (Int32.ofInt ((z:Int))), .int (V1 63 4), .int (Int32.ofInt (4)), .ref 63] (V1, T) Q := by
      intro z hz
      apply b201_65 hF (zsh_at hF rfl) (by omega) (i1 := 4) (zI_nat 4) (by omega)
      rw [hB, zB_or, zI_add, hz]
      refine ih (i + 1) _ _ (by omega) ?_ ?_ ?_ (by omega)
      · rw [zuN_at, e]
      · intro j hj4
        rw [zuN_nk hj4]; exact hj j hj4
      · intro a ha
        rw [zu_ne ha]; exact hf a ha
    have es : Int32.ofInt 1 <<< (Int32.ofInt (i : Int) &&& 31) = Int32.ofInt ((2 ^ i : Nat) : Int) := by
      have := zB_shl 1 (show i < 32 by omega)
      rw [Nat.shiftLeft_eq, Nat.one_mul] at this
      exact this
    apply b201_31 hF
    · intro c
      have c2 : ¬ yZg (yZ (yDr seed i).1) := c
      apply b201_61 hF (zsh_at hF rfl) (by omega)
      rw [es]
      exact go _ (by rw [if_pos c2])
    · intro c
      have c2 : yZg (yZ (yDr seed i).1) := Decidable.not_not.mp c
      apply b201_57 hF (zsh_at hF rfl) (by omega)
      exact go 0 (by rw [if_neg (fun h => h c2)])
theorem s201b {x : zXs} {F : zF} (hF : zSh F) {d : Nat} {V : Nat → Nat → Int32} {T : Nat → Nat → Int64} {Q : Option Value → zG → Prop} {V0 : Nat → Nat → Int32} {T0 : Nat → Nat → Int64} {S : Nat → Nat → Nat} (hS : zMS V0 S) (hW : zWf S) {n : Nat} {w : Nat → Nat → (Nat → Int32) → Int32} (hR : zRd x F V0 n w) (hru : S 5 2 < n) {B : Nat} (hlt : B < 2 ^ 24) {one : Nat} (ho : one < 5) (k : ∀ V2 T2, zMS V2 S → yFr V0 V2 → Q (some (.int (Int32.ofInt (yDm w S one 24 B)))) (V2, T2)) {V1 V2 : Nat → Nat → Int32} (a1 : ∀ i, i < 5 → V1 73 i = V0 63 i ∧ V1 73 (5 + i) = V0 64 i ∧ V1 73 (10 + i) = V0 66 (2 * i + 1)) (a2 : V1 73 15 = V0 59 7) (a3 : ∀ a, a ≠ 73 → V1 a = V0 a) (h1 : V2 63 4 = Int32.ofInt (B : Int)) (h2 : ∀ j, j ≠ 4 → V2 63 j = zu (zu V1 63 4 (Int32.ofInt 0)) 64 4 (Int32.ofInt 24) 63 j) (h3 : ∀ a, a ≠ 63 → V2 a = zu (zu V1 63 4 (Int32.ofInt 0)) 64 4 (Int32.ofInt 24) a) {o1 o3 o4 : Option Value} : E x F (d + 54) 201 73 [some (.ref 59), o1, some (.int (Int32.ofInt ((one:Int)))), o3, o4] [] (V2, T0) Q := by
  have hS1 : zMS V1 S := zMS_fr hS (a3 64 (by omega)) (a3 63 (by omega)) (a3 66 (by omega)) (a3 65 (by omega)) (fun j _ => by rw [a3 59 (by omega)])
  have hS2 : zMS V2 (zu (zu S 0 4 24) 1 4 B) := by
    have g := zMS_z1 (i := 4) (v := B) (zMS_z0 (i := 4) (v := 24) hS1)
    obtain ⟨q0, q1, q2, q3, q4, q5, q6, q7⟩ := g
    have e63 : V2 63 = zu (zu V1 64 4 (Int32.ofInt ((24 : Nat) : Int))) 63 4 (Int32.ofInt (B : Int)) 63 := by
      funext j
      rw [zu_at]
      split
      · rename_i hj; rw [hj]; exact h1
      · rename_i hj; rw [h2 j hj, zu_ne (by omega), zuN_nk hj, zu_ne (by omega)]
    have e : ∀ a, V2 a = zu (zu V1 64 4 (Int32.ofInt ((24 : Nat) : Int))) 63 4 (Int32.ofInt (B : Int)) a := by
      intro a
      by_cases ha : a = 63
      · rw [ha]; exact e63
      · rw [h3 a ha, zu_ne ha]
        by_cases hb : a = 64
        · rw [hb]; funext j; rw [zu_at, zu_at, zu_ne (by omega)]; rfl
        · rw [zu_ne hb, zu_ne hb, zu_ne ha]
    have ev : V2 = zu (zu V1 64 4 (Int32.ofInt ((24 : Nat) : Int))) 63 4 (Int32.ofInt (B : Int)) := funext e
    rw [ev]
    exact zMS_z1 (zMS_z0 hS1)
  have hf2 : ∀ a, a ≠ 63 → a ≠ 64 → V2 a = V1 a := fun a b1 b2 => by rw [h3 a b1, zu_ne b2, zu_ne b1]
  have hR2 : zRd x F V2 n w := zRd_fr hR (by rw [hf2 60 (by omega) (by omega), a3 60 (by omega)]) (by rw [hf2 61 (by omega) (by omega), a3 61 (by omega)])
  have e0 : zu (zu S 0 4 24) 1 4 B 0 4 = 24 := by rw [zu_ne (by omega), zuN_at]
  have e1 : zu (zu S 0 4 24) 1 4 B 1 4 = B := zuN_at
  have eo : ∀ f, f ≠ 0 → f ≠ 1 → zu (zu S 0 4 24) 1 4 B f = S f := fun f b0 b1 => by rw [zu_ne b1, zu_ne b0]
  have hWg : zWg (zu (zu S 0 4 24) 1 4 B) := by
    intro i hi
    rw [eo 2 (by omega) (by omega), eo 3 (by omega) (by omega), eo 4 (by omega) (by omega)]
    exact hW.2.1 i hi
  apply b201_73 hF
  apply s171 hF hR2 hS2 hWg (by rw [eo 5 (by omega) (by omega)]; exact hru) ho (show 4 < 5 by omega) (by rw [e0]; exact Nat.le_refl _) (by rw [e0, e1]; exact hlt)
  intro V3 T3 hS3 _ _ f1 f2
  rw [e0, e1, yGl_eq (S := S) (by rw [eo 2 (by omega) (by omega)]) (by rw [eo 3 (by omega) (by omega)]) (by rw [eo 4 (by omega) (by omega)]) (eo 5 (by omega) (by omega)), yDm_eq]
  apply b201_79 hF
  apply s181 hF
  intro V4 b1 b2 b3 b4
  apply b201_85 hF
  have e73 : V3 73 = V1 73 := (f1 73 (by omega) (by omega) (by omega) (by omega) (by omega) (by omega) (by omega)).trans (hf2 73 (by omega) (by omega))
  apply k V4 T3
  · refine zMS_back hS hS3 (fun i _ => ⟨by rw [yGS_23.1, eo 2 (by omega) (by omega)], by rw [yGS_23.2, eo 3 (by omega) (by omega)]⟩) ⟨by rw [yGS_5, eo 5 (by omega) (by omega)], by rw [yGS_5, eo 5 (by omega) (by omega)]⟩ ?_ ?_ b1 b2 b3 b4
    · intro i hi
      rw [e73]
      exact a1 i hi
    · rw [e73]; exact a2
  · refine ⟨?_, ?_⟩
    · intro a c1 c2
      rw [b4 a c1 (by omega) (by omega) (by omega), f1 a c1 (by omega) (by omega) (by omega) (by omega) (by omega) (by omega), hf2 a (by omega) (by omega), a3 a (by omega)]
    · intro j hj
      rw [b3 j (by omega), f2 j (by omega), hf2 59 (by omega) (by omega), a3 59 (by omega)]
theorem s201 {x : zXs} {F : zF} (hF : zSh F) {d : Nat} {V : Nat → Nat → Int32} {T : Nat → Nat → Int64} {Q : Option Value → zG → Prop} {S : Nat → Nat → Nat} (hS : zMS V S) (hW : zWf S) {n : Nat} {w : Nat → Nat → (Nat → Int32) → Int32} (hR : zRd x F V n w) (hru : S 5 2 < n) {seed : Int32} {one : Nat} (ho : one < 5) (k : ∀ V2 T2, zMS V2 S → yFr V V2 → Q (some (.int (Int32.ofInt (yDn w S seed one)))) (V2, T2)) {o3 o4 : Option Value} : E x F (d + 54) 201 0 [some (.ref 59), some (.int seed), some (.int (Int32.ofInt ((one:Int)))), o3, o4] [] (V, T) Q := by
  unfold yDn at k
  apply b201_0 hF
  apply s180 hF
  intro V1 a1 a2 a3
  apply b201_4 hF
  refine s201l hF (seed := seed) (by rw [zu_ne (by omega), zuN_at]) ?_ 24 0 _ 0 rfl (by rw [zu_ne (by omega), zuN_at]; rfl) (fun _ _ => rfl) (fun _ _ => rfl) rfl
  intro V2 h1 h2 h3 o3 o4
  have hlt := yDr_lt seed 24
  revert hlt k h1
  generalize (yDr seed 24).2 = B
  intro k h1 hlt
  exact s201b hF (T := T) (V := V) hS hW hR hru hlt ho k a1 a2 a3 h1 h2 h3
