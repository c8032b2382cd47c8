/-! Days and nights: the class -/
theorem s86l {x : zXs} {F : zF} (hF : zSh F) {d : Nat} {V : Nat → Nat → Int32} {T : Nat → Nat → Int64} {Q : Option Value → zG → Prop} {c : Nat} (hc : c ≤ 5) {o1 : Option Value} (k : ∀ V', V' 43 1 = Int32.ofInt (c : Int) → (∀ j, j < c → V' 44 j = Int32.ofInt (j : Int)) → (∀ a, a ≠ 43 → a ≠ 44 → V' a = V a) → Q none (V', T)) : ∀ (m i : Nat) (V1 : Nat → Nat → Int32) (P : Int), P = i → i + m = c → V1 43 1 = Int32.ofInt (c : Int) → (∀ j, j < i → V1 44 j = Int32.ofInt (j : Int)) → (∀ a, a ≠ 43 → a ≠ 44 → V1 a = V a) → E x F d 86 12 [some (.ref 43), o1, some (.int (Int32.ofInt P))] [] (V1, T) Q := by
  intro m
  induction m with
  | zero =>
    intro i V1 P hP hi h43 h44 hf
    subst hP
    have hic : i = c := by omega
    subst hic
    apply b86_12 hF
    · intro _
      exact b86_33 hF (k V1 h43 h44 hf)
    · rw [h43]
      intro c
      simp (disch := omega) only [zI_le] at c
      exfalso; omega
  | succ m ih =>
    intro i V1 P hP hi h43 h44 hf
    subst hP
    apply b86_12 hF
    · rw [h43]
      intro c
      simp (disch := omega) only [zI_le] at c
      exfalso; omega
    · intro _
      apply b86_20 hF (i1 := i) (zI_nat i) (by omega)
      rw [zI_add]
      apply ih (i + 1) _ _ (by omega) (by omega)
      · rw [zu_ne (by omega)]; exact h43
      · intro j hj
        rw [zu_at]
        by_cases hji : j = i
        · rw [if_pos hji, hji]
        · rw [if_neg hji]; exact h44 j (by omega)
      · intro a a1 a2
        rw [zu_ne a2]; exact hf a a1 a2
theorem s86 {x : zXs} {F : zF} (hF : zSh F) {d : Nat} {V : Nat → Nat → Int32} {T : Nat → Nat → Int64} {Q : Option Value → zG → Prop} {c : Nat} (hc : c ≤ 5) {o2 : Option Value} (k : ∀ V', V' 43 1 = Int32.ofInt (c : Int) → (∀ j, j < c → V' 44 j = Int32.ofInt (j : Int)) → (∀ a, a ≠ 43 → a ≠ 44 → V' a = V a) → Q none (V', T)) : E x F (d + 1) 86 0 [some (.ref 43), some (.int (Int32.ofInt (c : Int))), o2] [] (V, T) Q := by
  apply b86_0 hF
  apply s30c hF (by omega) (by omega) (by omega)
  have e : yCl (c : Int) 0 5 = c := by
    unfold yCl
    rw [if_neg (by omega), if_neg (by omega)]
  rw [e]
  apply b86_7 hF
  exact s86l hF hc k c 0 (zu V 43 1 (Int32.ofInt (c : Int))) 0 rfl (Nat.zero_add _) zuN_at (fun j hj => absurd hj (Nat.not_lt_zero _)) (fun a a1 _ => zu_ne a1)
/-- what the class leaves alone in a thought -/
def zFt (V V2 : Nat → Nat → Int32) : Prop := ∀ a, (a < 7 ∨ 12 < a) → a ≠ 19 → a ≠ 22 → a ≠ 23 → a ≠ 42 → a ≠ 43 → a ≠ 44 → V2 a = V a
theorem s85 {x : zXs} {F : zF} (hF : zSh F) {d : Nat} {V : Nat → Nat → Int32} {T : Nat → Nat → Int64} {Q : Option Value → zG → Prop} {S : Nat → Nat → Nat} (hS : zCS 7 V S) (hW : zWf S) {n : Nat} {w : Nat → Nat → (Nat → Int32) → Int32} (hR : zRu V n w) (hru : S 5 2 < n) {r : Nat} (hr : r < 4) (k : ∀ V2, zCS 7 V2 (yDay w r S) → zFt V V2 → Q none (V2, T)) : E x F (d + 5) 85 0 [some (.ref 0), some (.int (Int32.ofInt (r : Int)))] [] (V, T) Q := by
  have h5 := hW.2.2.1
  have hb : zSt 7 := Or.inr (Or.inl rfl)
  apply b85_0 hF
  rw [hS.2.2.2.2.2.1]
  apply s86 hF h5
  intro V1 a1 a2 a3
  apply b85_14 hF
  have hS1 : zCS 7 V1 S := zCS_fr hS (fun a h1 h2 => a3 a (by omega) (by omega))
  have hR1 : zRu V1 n w := zRu_fr hR (fun a ha => a3 a (by omega) (by omega))
  apply s78 hF hb hS1 hW hR1 hru (sz := S 5 0) (one := -1) (at' := fun i => i) (by omega) hr h5 (fun i hi => ⟨a2 i hi, by omega⟩) a1
  intro V2 hS2 f2
  obtain ⟨c1, c2⟩ := yAl_wf (w := w) (one := -1) (at' := fun i => i) hr (S 5 0) 0 (S, 0) (fun j _ h => by omega) hW
  apply b85_31 hF
  have hR2 : zRu V2 n w := zRu_fr hR1 (fun a ha => f2 a (by omega) (by omega) (by omega) (by omega) (by omega))
  apply s80 hF hb hS2 c1 hR2 (by rw [c2]; exact hru)
  intro V3 hS3 f3
  apply b85_43 hF
  apply k
  · rw [yAl_or] at hS3
    exact hS3
  · intro a b1 b2 b3 b4 b5 b6 b7
    rw [f3 a (by omega) b3 b4, f2 a (by omega) b2 b3 b4 b5, a3 a b6 b7]
