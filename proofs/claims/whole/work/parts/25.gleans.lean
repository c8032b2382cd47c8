/-! The reference: one gleans a row -/
theorem zrn_le_of {g k k' : Nat} (h : k ≤ k') : zrn g k ≤ zrn g k' := by
  induction k' with
  | zero => rw [show k = 0 by omega]; exact Nat.le_refl _
  | succ k' ih =>
    rcases Nat.lt_or_eq_of_le h with h1 | h1
    · exact Nat.le_trans (ih (by omega)) (zrn_mono g k')
    · rw [h1]; exact Nat.le_refl _
/-- behind the end of a run no place is told of it -/
theorem zrn_end {g k j : Nat} (h1 : zrn g k = j + 1) (h2 : g.testBit k = false) : ∀ m, zrn g (k + 1 + m) = j + 1 → (∀ i, k ≤ i → i < k + 1 + m → g.testBit i = false) := by
  intro m
  induction m with
  | zero =>
    intro _ i hi hi2
    rw [show i = k by omega]; exact h2
  | succ m ih =>
    intro h i hi hi2
    have a1 := zrn_le_of (g := g) (show k ≤ k + 1 + m by omega)
    have a2 := zrn_mono g (k + 1 + m)
    have a3 : zrn g (k + 1 + m) = j + 1 := by
      have : zrn g (k + 1 + (m + 1)) = zrn g (k + 1 + m + 1) := rfl
      omega
    have a4 := ih a3
    by_cases hl : i < k + 1 + m
    · exact a4 i hi hl
    · have e : i = k + 1 + m := by omega
      subst e
      cases hb : g.testBit (k + 1 + m) with
      | false => rfl
      | true =>
        have h5 := a4 (k + m) (by omega) (by omega)
        have := zrn_s2 hb (fun _ => by rw [show k + 1 + m - 1 = k + m by omega]; exact h5)
        have e2 : zrn g (k + 1 + (m + 1)) = zrn g (k + 1 + m + 1) := rfl
        omega
theorem zsz_end {g k j : Nat} (h1 : zrn g k = j + 1) (h2 : g.testBit k = false) : ∀ m, zsz g j (k + m) = zsz g j k ∧ ybg g j (k + m) = ybg g j k := by
  intro m
  induction m with
  | zero => exact ⟨rfl, rfl⟩
  | succ m ih =>
    have a1 := zrn_le_of (g := g) (show k ≤ k + m by omega)
    refine ⟨?_, ?_⟩
    · rw [← ih.1]
      show zsz g j (k + m + 1) = _
      by_cases hb : g.testBit (k + m) = true
      · apply zsz_s2
        intro hc
        have a2 := zrn_mono g (k + m)
        rcases m with _ | m
        · rw [Nat.add_zero] at hb; rw [hb] at h2; exact absurd h2 (by decide)
        · have := zrn_end h1 h2 (m + 1) (by rw [← hc]; congr 1; omega) (k + (m + 1)) (by omega) (by omega)
          rw [this] at hb; exact absurd hb (by decide)
      · exact zsz_s0 (by simpa using hb)
    · rw [← ih.2]
      exact ybg_old (g := g) (j := j) (p := k + m) (by omega)
/-- how the scan stands to the runs -/
def yRs (g k : Nat) (p : yG) : Prop := (p.1 = 0 ∧ zrn g k = p.2.1 ∧ (0 < k → g.testBit (k - 1) = false)) ∨ (0 < p.1 ∧ p.1 ≤ k ∧ zrn g k = p.2.1 + 1 ∧ zsz g p.2.1 k = p.1 ∧ ybg g p.2.1 k = k - p.1 ∧ g.testBit (k - 1) = true)
theorem yRs_gap {g k : Nat} {p : yG} (h : yRs g k p) (hb : g.testBit k = true) : yRs g (k + 1) (p.1 + 1, p.2) := by
  rcases h with ⟨h1, h2, h3⟩ | ⟨h1, h2, h3, h4, h5, h6⟩
  · have hr := zrn_s2 hb h3
    refine Or.inr ⟨Nat.succ_pos _, ?_, ?_, ?_, ?_, ?_⟩
    · dsimp only; omega
    · dsimp only; omega
    · dsimp only
      rw [zsz_s1 hb (by omega), zsz_zero k (by omega), h1]
    · dsimp only
      have : (g.testBit k && !(decide (0 < k) && g.testBit (k - 1))) = true := by
        by_cases h0 : 0 < k
        · simp [hb, h0, h3 h0]
        · simp [hb, h0]
      rw [ybg, if_pos ⟨this, h2⟩]
      omega
    · rw [Nat.add_sub_cancel]; exact hb
  · have hk : 0 < k := by omega
    have hr := zrn_s1 hb hk h6
    refine Or.inr ⟨Nat.succ_pos _, ?_, ?_, ?_, ?_, ?_⟩
    · dsimp only; omega
    · dsimp only; omega
    · dsimp only
      rw [zsz_s1 hb (by omega), h4]
    · dsimp only
      rw [ybg_old (by omega), h5]
      omega
    · rw [Nat.add_sub_cancel]; exact hb
theorem yRs_stalk {w : Nat → Nat → (Nat → Int32) → Int32} {S : Nat → Nat → Nat} {one g k : Nat} {p : yG} (h : yRs g k p) (hb : g.testBit k = false) : yRs g (k + 1) (yPut (yClose w S one p)) := by
  have hr := zrn_s0 hb
  rcases h with ⟨h1, h2, h3⟩ | ⟨h1, h2, h3, h4, h5, h6⟩
  · refine Or.inl ⟨?_, ?_, ?_⟩
    · unfold yClose; rw [if_pos h1]; exact h1
    · unfold yClose; rw [if_pos h1]; exact hr.trans h2
    · intro _; rw [Nat.add_sub_cancel]; exact hb
  · refine Or.inl ⟨?_, ?_, ?_⟩
    · unfold yClose; rw [if_neg (by omega)]; rfl
    · unfold yClose; rw [if_neg (by omega)]; exact hr.trans h3
    · intro _; rw [Nat.add_sub_cancel]; exact hb
/-- the bits that the reference holds while the scan stands at a place -/
def yCk (B k : Nat) (p : yG) : Nat := p.2.2.2.2.2.1 + 2 ^ (p.2.2.2.2.1 + p.1) * (B / 2 ^ k)
theorem yCk_gap {B k : Nat} {p : yG} (hb : B.testBit k = false) : yCk B (k + 1) (p.1 + 1, p.2) = yCk B k p := by
  unfold yCk
  dsimp only
  have h1 : B / 2 ^ k = 2 * (B / 2 ^ (k + 1)) := by
    rw [Nat.pow_succ, ← Nat.div_div_eq_div_mul]
    have : B / 2 ^ k % 2 = 0 := by
      rw [Nat.testBit_eq_decide_div_mod_eq] at hb
      simp at hb
      omega
    omega
  rw [h1, show p.2.2.2.2.1 + (p.1 + 1) = p.2.2.2.2.1 + p.1 + 1 by omega, Nat.pow_succ, Nat.mul_assoc]
theorem yCk_put {B k : Nat} {p : yG} (h0 : p.1 = 0) (hp : p.2.2.2.2.2.1 < 2 ^ p.2.2.2.2.1) (hb : B.testBit k = true) : yCk B (k + 1) (yPut p) = yCk B k p := by
  unfold yCk yPut
  dsimp only
  have h1 : B / 2 ^ k = 2 * (B / 2 ^ (k + 1)) + 1 := by
    rw [Nat.pow_succ, ← Nat.div_div_eq_div_mul]
    have : B / 2 ^ k % 2 = 1 := by
      rw [Nat.testBit_eq_decide_div_mod_eq] at hb
      simpa using hb
    omega
  rw [h1, h0]
  simp only [Nat.add_zero]
  rw [Nat.pow_succ]
  have h2 : p.2.2.2.2.2.1 ||| (1 <<< p.2.2.2.2.1) = p.2.2.2.2.2.1 + 2 ^ p.2.2.2.2.1 := by
    rw [Nat.or_comm, ← Nat.shiftLeft_add_eq_or_of_lt hp, Nat.shiftLeft_eq, Nat.one_mul, Nat.add_comm]
  rw [h2, Nat.mul_add, Nat.mul_one, Nat.mul_assoc]
  omega
theorem yCk_close {w : Nat → Nat → (Nat → Int32) → Int32} {S : Nat → Nat → Nat} {one B k : Nat} {p : yG} (h0 : p.1 ≠ 0) (hp : p.2.2.2.2.2.1 < 2 ^ p.2.2.2.2.1) (ht : yT w S one p.1 p.2.1 p.2.2.1 p.2.2.2.1 ≤ p.1) : yCk B k (yClose w S one p) = yCB (yCk B k p) p.2.2.2.2.1 (yT w S one p.1 p.2.1 p.2.2.1 p.2.2.2.1) := by
  have e : yCB (yCk B k p) p.2.2.2.2.1 (yT w S one p.1 p.2.1 p.2.2.1 p.2.2.2.1) = p.2.2.2.2.2.1 + 2 ^ ((p.2.2.2.2.1 : Int) + (p.1 - yT w S one p.1 p.2.1 p.2.2.1 p.2.2.2.1)).toNat * (B / 2 ^ k) := by
    unfold yCk
    rw [Nat.pow_add, Nat.mul_assoc]
    exact yCB_eq hp ht
  rw [e]
  unfold yCk yClose
  rw [if_neg h0]
  rfl
