/-! One gleans a row: the class -/
/-- what is taken of a run: size, number of the run, apron, length then -/
def yT (w : Nat → Nat → (Nat → Int32) → Int32) (S : Nat → Nat → Nat) (one g nth ap ln : Nat) : Int :=
  if yWant (zu S 4 one ap) one g (yTk w (zu S 4 one ap) one g nth ln) < -(24 - (ln : Int)) then -(24 - (ln : Int)) else yWant (zu S 4 one ap) one g (yTk w (zu S 4 one ap) one g nth ln)
/-- open run's size, runs, apron, length, place, stalks, taken together, taken of each -/
abbrev yG := Nat × Nat × Nat × Nat × Nat × Nat × Int × (Nat → Int)
def yClose (w : Nat → Nat → (Nat → Int32) → Int32) (S : Nat → Nat → Nat) (one : Nat) (p : yG) : yG :=
  if p.1 = 0 then p
  else (0, p.2.1 + 1, (yCl ((p.2.2.1 : Int) + yT w S one p.1 p.2.1 p.2.2.1 p.2.2.2.1) 0 999).toNat, ((p.2.2.2.1 : Int) - yT w S one p.1 p.2.1 p.2.2.1 p.2.2.2.1).toNat, ((p.2.2.2.2.1 : Int) + (p.1 - yT w S one p.1 p.2.1 p.2.2.1 p.2.2.2.1)).toNat, p.2.2.2.2.2.1, p.2.2.2.2.2.2.1 + yT w S one p.1 p.2.1 p.2.2.1 p.2.2.2.1, fun j => if j = p.2.1 then yT w S one p.1 p.2.1 p.2.2.1 p.2.2.2.1 else p.2.2.2.2.2.2.2 j)
def yPut (p : yG) : yG := (p.1, p.2.1, p.2.2.1, p.2.2.2.1, p.2.2.2.2.1 + 1, p.2.2.2.2.2.1 ||| (1 <<< p.2.2.2.2.1), p.2.2.2.2.2.2.1, p.2.2.2.2.2.2.2)
def yScan (w : Nat → Nat → (Nat → Int32) → Int32) (S : Nat → Nat → Nat) (one B : Nat) (p : yG) (k : Nat) : yG :=
  if B.testBit k then yPut (yClose w S one p) else (p.1 + 1, p.2)
def yFrom (w : Nat → Nat → (Nat → Int32) → Int32) (S : Nat → Nat → Nat) (one B : Nat) : Nat → Nat → yG → yG
  | _, 0, p => yClose w S one p
  | k, n + 1, p => yFrom w S one B (k + 1) n (yScan w S one B p k)
def yGl (w : Nat → Nat → (Nat → Int32) → Int32) (S : Nat → Nat → Nat) (one L B : Nat) : yG := yFrom w S one B 0 L (0, 0, S 4 one, L, 0, 0, 0, fun _ => 0)
/-- what holds ahead of a place -/
def yOk (L k : Nat) (p : yG) : Prop := 2 * p.2.1 + p.1 ≤ k ∧ p.2.2.1 ≤ 999 ∧ p.2.2.2.1 ≤ 24 ∧ p.2.2.2.2.1 + p.1 + L = p.2.2.2.1 + k ∧ p.2.2.2.2.2.1 < 2 ^ p.2.2.2.2.1
theorem yWid_in {g : Nat} {v : Int} : v ≤ yWid g v ∧ yWid g v ≤ v + 1 := by
  unfold yWid; split <;> omega
theorem yWant_in {S : Nat → Nat → Nat} {one g : Nat} {v : Int} (h : S 3 one ≤ 9) : -9 ≤ yWant S one g v ∧ yWant S one g v ≤ g := by
  have h1 : ∀ u : Int, 0 ≤ yCl u 0 g ∧ yCl u 0 g ≤ g := fun u => yCl_in (by omega)
  unfold yWant
  have a1 := h1 (yWid g v)
  have a2 := h1 (v / 2)
  have a3 := h1 v
  repeat' split
  all_goals omega
theorem yT_in {w : Nat → Nat → (Nat → Int32) → Int32} {S : Nat → Nat → Nat} {one g nth ap ln : Nat} (h : S 3 one ≤ 9) (hl : ln ≤ 24) : -9 ≤ yT w S one g nth ap ln ∧ -(24 - (ln : Int)) ≤ yT w S one g nth ap ln ∧ yT w S one g nth ap ln ≤ g := by
  have := yWant_in (S := zu S 4 one ap) (one := one) (g := g) (v := yTk w (zu S 4 one ap) one g nth ln) (by rw [zu_ne (by omega)]; exact h)
  unfold yT
  split <;> omega
theorem yClose_ok {w : Nat → Nat → (Nat → Int32) → Int32} {S : Nat → Nat → Nat} {one L k : Nat} {p : yG} (h : S 3 one ≤ 9) (hp : yOk L k p) (hk : k ≤ L) : 2 * (yClose w S one p).2.1 ≤ k + 1 ∧ (yClose w S one p).1 = 0 ∧ (yClose w S one p).2.2.1 ≤ 999 ∧ (yClose w S one p).2.2.2.1 ≤ 24 ∧ (yClose w S one p).2.2.2.2.1 + L = (yClose w S one p).2.2.2.1 + k ∧ (yClose w S one p).2.2.2.2.2.1 < 2 ^ (yClose w S one p).2.2.2.2.1 := by
  obtain ⟨sz, rn, ap, ln, pl, st, tot, tk⟩ := p
  obtain ⟨h1, h2, h3, h4, h5⟩ := hp
  dsimp only at h1 h2 h3 h4 h5
  unfold yClose
  dsimp only
  by_cases h0 : sz = 0
  · rw [if_pos h0]
    dsimp only
    refine ⟨by omega, h0, h2, h3, by omega, h5⟩
  · rw [if_neg h0]
    dsimp only
    have ht := yT_in (w := w) (S := S) (one := one) (g := sz) (nth := rn) (ap := ap) (ln := ln) h h3
    have hc := yCl_in (v := (ap : Int) + yT w S one sz rn ap ln) (show (0 : Int) ≤ 999 by omega)
    refine ⟨by omega, rfl, by omega, by omega, by omega, ?_⟩
    exact Nat.lt_of_lt_of_le h5 (Nat.pow_le_pow_right (by omega) (by omega))
theorem yScan_ok {w : Nat → Nat → (Nat → Int32) → Int32} {S : Nat → Nat → Nat} {one B L k : Nat} {p : yG} (h : S 3 one ≤ 9) (hp : yOk L k p) (hk : k < L) : yOk L (k + 1) (yScan w S one B p k) := by
  unfold yScan
  split
  · obtain ⟨g1, g2, g3, g4, g5, g6⟩ := yClose_ok (w := w) h hp (by omega)
    unfold yPut yOk
    dsimp only
    refine ⟨by omega, g3, g4, by omega, ?_⟩
    have e1 : (1 : Nat) <<< (yClose w S one p).2.2.2.2.1 = 2 ^ (yClose w S one p).2.2.2.2.1 := by rw [Nat.shiftLeft_eq, Nat.one_mul]
    rw [e1]
    apply Nat.or_lt_two_pow
    · exact Nat.lt_of_lt_of_le g6 (Nat.pow_le_pow_right (by omega) (by omega))
    · exact Nat.pow_lt_pow_right (by omega) (by omega)
  · obtain ⟨g1, g2, g3, g4, g5⟩ := hp
    refine ⟨?_, g2, g3, ?_, g5⟩
    · dsimp only; omega
    · dsimp only; omega
