/-! goAlong of the class, its loop -/
theorem zu_self {α : Type} {V : Nat → Nat → α} {a k : Nat} : zu V a k (V a k) = V := by
  funext b j
  unfold zu
  by_cases h : b = a
  · rw [if_pos h]
    by_cases h2 : j = k
    · rw [if_pos h2, h, h2]
    · rw [if_neg h2, h]
  · rw [if_neg h]
theorem zB_put {st pl : Nat} (h : pl < 32) : Int32.ofInt (st : Int) ||| (Int32.ofInt 1 <<< (Int32.ofInt (pl : Int) &&& 31)) = Int32.ofInt ((st ||| (1 <<< pl) : Nat) : Int) := by
  have h1 : Int32.ofInt 1 <<< (Int32.ofInt (pl : Int) &&& 31) = Int32.ofInt ((1 <<< pl : Nat) : Int) := zB_shl 1 h
  rw [h1, zB_or]
theorem zbit_zero {g p : Nat} (hg : g < 2147483648) (hp : p < 32) : ((Int32.ofInt (g : Int) >>> (Int32.ofInt (p : Int) &&& 31)) &&& Int32.ofInt 1 = 0) ↔ g.testBit p = false := by
  rw [zbit_eq hg hp]
  cases g.testBit p <;> decide
theorem s74l {x : zXs} {F : zF} (hF : zSh F) {d : Nat} {V : Nat → Nat → Int32} {T : Nat → Nat → Int64} {Q : Option Value → zG → Prop} {b : Nat} (hb : zSt b) {S : Nat → Nat → Nat} (hW : zWg S) {n : Nat} {w : Nat → Nat → (Nat → Int32) → Int32} (hR : zRu V n w) (hru : S 5 2 < n) {one r L B : Nat} (ho : one < 5) (hr : r < 4) (hL : L ≤ 24) (hB : B < 2147483648) : ∀ (m k : Nat) (p : yG) (V1 : Nat → Nat → Int32) (P : Int), P = k → k + m = L → yOk L k p → zGi b V V1 S r one p → (∀ V2, zGi b V V2 S r one (yFrom w S one B k m p) → Q (some (.int (Int32.ofInt (yFrom w S one B k m p).2.2.2.2.2.2.1))) (zu V2 (b + 2) r (Int32.ofInt ((yFrom w S one B k m p).2.2.2.2.2.1 : Int)), T)) → ∀ o11 o12 o13 : Option Value, E x F (d + 3) 74 36 [some (.ref 19), some (.ref b), some (.int (Int32.ofInt (one : Int))), some (.int (Int32.ofInt (r : Int))), some (.int (Int32.ofInt (L : Int))), some (.int (Int32.ofInt (B : Int))), some (.int (Int32.ofInt (p.2.2.2.2.2.1 : Int))), some (.int (Int32.ofInt (p.2.2.2.2.1 : Int))), some (.int (Int32.ofInt (p.1 : Int))), some (.int (Int32.ofInt (p.2.2.2.2.2.2.1))), some (.int (Int32.ofInt P)), o11, o12, o13] [] (V1, T) Q := by
  intro m
  induction m with
  | zero =>
    intro k p V1 P hP hk hp hG K o11 o12 o13
    subst hP
    have hkL : k = L := by omega
    apply b74_36 hF
    · intro c
      simp (disch := omega) only [zI_lt] at c
      exfalso; omega
    intro _
    apply b74_43 hF
    rotate_left
    · intro c
      simp (disch := omega) only [zI_le] at c
      exfalso; omega
    intro _
    apply s74c hF hb hW hR hru ho hr hp (by omega) hL hG
    intro V2 p11 p12 p13 hG2
    apply b74_152 hF
    rotate_left
    · intro c
      simp (disch := omega) only [zI_le] at c
      exfalso; omega
    intro _
    apply b74_171 hF
    rw [zI_add]
    apply b74_36 hF
    rotate_left
    · intro c
      simp (disch := omega) only [zI_lt] at c
      exfalso; omega
    intro _
    apply b74_177 hF hb (i1 := r) (zI_nat r) hr
    exact K V2 hG2
  | succ m ih =>
    intro k p V1 P hP hk hp hG K o11 o12 o13
    subst hP
    have hscan := yScan_ok (w := w) (B := B) (hW one ho).2.1 hp (by omega : k < L)
    apply b74_36 hF
    · intro c
      simp (disch := omega) only [zI_lt] at c
      exfalso; omega
    intro _
    apply b74_43 hF
    · intro c
      simp (disch := omega) only [zI_le] at c
      exfalso; omega
    intro _
    apply b74_50 hF
    · rw [zbit_zero hB (by omega)]
      intro c
      have hbit : B.testBit k = true := by simpa using c
      have hs : yScan w S one B p k = yPut (yClose w S one p) := by
        unfold yScan; rw [if_pos hbit]
      apply s74c hF hb hW hR hru ho hr hp (by omega) hL hG
      intro V2 p11 p12 p13 hG2
      apply b74_152 hF
      · intro c
        simp (disch := omega) only [zI_le] at c
        exfalso; omega
      intro _
      apply b74_159 hF
      have hpl : (yClose w S one p).2.2.2.2.1 < 32 := by
        obtain ⟨_, _, _, a4, a5, _⟩ := yClose_ok (w := w) (hW one ho).2.1 hp (by omega)
        omega
      rw [zB_put hpl, zI_add]
      apply b74_171 hF
      rw [zI_add]
      refine ih (k + 1) (yPut (yClose w S one p)) V2 _ (by omega) (by omega) (hs ▸ hscan) hG2 ?_ _ _ _
      rw [← hs]
      exact K
    · rw [zbit_zero hB (by omega)]
      intro c
      have hbit : B.testBit k = false := by simpa using c
      have hs : yScan w S one B p k = (p.1 + 1, p.2) := by
        unfold yScan; rw [hbit]; rfl
      apply b74_60 hF
      rw [zI_add]
      apply b74_171 hF
      rw [zI_add]
      refine ih (k + 1) (p.1 + 1, p.2) V1 _ (by omega) (by omega) (hs ▸ hscan) hG ?_ _ _ _
      rw [← hs]
      exact K
/-- the state when one has gleaned a row -/
def yGS (w : Nat → Nat → (Nat → Int32) → Int32) (S : Nat → Nat → Nat) (one r : Nat) : Nat → Nat → Nat := zu (zu (zu S 0 r (yGl w S one (S 0 r) (S 1 r)).2.2.2.1) 4 one (yGl w S one (S 0 r) (S 1 r)).2.2.1) 1 r (yGl w S one (S 0 r) (S 1 r)).2.2.2.2.2.1
theorem yFrom_ok {w : Nat → Nat → (Nat → Int32) → Int32} {S : Nat → Nat → Nat} {one B L : Nat} (h : S 3 one ≤ 9) : ∀ (m k : Nat) (p : yG), k + m = L → yOk L k p → 2 * (yFrom w S one B k m p).2.1 ≤ L + 1 ∧ (yFrom w S one B k m p).2.2.1 ≤ 999 ∧ (yFrom w S one B k m p).2.2.2.1 ≤ 24 ∧ (yFrom w S one B k m p).2.2.2.2.2.1 < 2 ^ (yFrom w S one B k m p).2.2.2.1 := by
  intro m
  induction m with
  | zero =>
    intro k p hk hp
    obtain ⟨g1, g2, g3, g4, g5, g6⟩ := yClose_ok (w := w) h hp (by omega)
    refine ⟨?_, g3, g4, ?_⟩
    · simp only [yFrom]; omega
    · have : (yClose w S one p).2.2.2.2.1 = (yClose w S one p).2.2.2.1 := by omega
      rw [this] at g6
      exact g6
  | succ m ih =>
    intro k p hk hp
    exact ih (k + 1) _ (by omega) (yScan_ok h hp (by omega))
theorem yGl_ok {w : Nat → Nat → (Nat → Int32) → Int32} {S : Nat → Nat → Nat} {one B L : Nat} (h : zWg S) (ho : one < 5) (hL : L ≤ 24) : 2 * (yGl w S one L B).2.1 ≤ L + 1 ∧ (yGl w S one L B).2.2.1 ≤ 999 ∧ (yGl w S one L B).2.2.2.1 ≤ 24 ∧ (yGl w S one L B).2.2.2.2.2.1 < 2 ^ (yGl w S one L B).2.2.2.1 := by
  apply yFrom_ok (h one ho).2.1 L 0 _ (Nat.zero_add L)
  refine ⟨Nat.le_refl _, (h one ho).2.2, hL, ?_, ?_⟩
  · dsimp only; omega
  · dsimp only; omega
theorem yGS_wf {w : Nat → Nat → (Nat → Int32) → Int32} {S : Nat → Nat → Nat} {one r : Nat} (h : zWf S) (ho : one < 5) (hr : r < 4) : zWf (yGS w S one r) := by
  obtain ⟨h1, h2, h3, h4, h5⟩ := h
  obtain ⟨g1, g2, g3, g4⟩ := yGl_ok (w := w) (B := S 1 r) h2 ho (h1 r hr).1
  unfold yGS
  refine ⟨?_, ?_, ?_, ?_, ?_⟩
  · intro i hi
    rw [zu_ne (by omega), zu_ne (by omega), zu_at, zu_at, zu_ne (by omega), zu_ne (by omega)]
    by_cases hir : i = r
    · rw [if_pos hir, if_pos hir]; exact ⟨g3, g4⟩
    · rw [if_neg hir, if_neg hir]; exact h1 i hi
  · intro i hi
    have := h2 i hi
    refine ⟨?_, ?_, ?_⟩
    · rw [zu_ne (by omega), zu_ne (by omega), zu_ne (by omega)]; exact this.1
    · rw [zu_ne (by omega), zu_ne (by omega), zu_ne (by omega)]; exact this.2.1
    · rw [zu_ne (by omega), zu_at]
      split
      · exact g2
      · rw [zu_ne (by omega)]; exact this.2.2
  · rw [zu_ne (by omega), zu_ne (by omega), zu_ne (by omega)]; exact h3
  · rw [zu_ne (by omega), zu_ne (by omega), zu_ne (by omega)]; exact h4
  · rw [zu_ne (by omega), zu_ne (by omega), zu_ne (by omega)]; exact h5
theorem zCS_st {b : Nat} {V : Nat → Nat → Int32} {S : Nat → Nat → Nat} {r st : Nat} (h : zCS b V S) : zCS b (zu V (b + 2) r (Int32.ofInt (st : Int))) (zu S 1 r st) := by
  obtain ⟨g0, g1, g2, g3, g4, g5, g6, g7⟩ := h
  refine ⟨?_, ?_, ?_, ?_, ?_, ?_, ?_, ?_⟩
  · intro i hi; rw [zu_ne (by omega), zu_ne (by omega)]; exact g0 i hi
  · intro i hi
    rw [zu_at, zu_at]
    by_cases hr : i = r
    · rw [if_pos hr, if_pos hr]
    · rw [if_neg hr, if_neg hr]; exact g1 i hi
  · intro i hi; rw [zu_ne (by omega), zu_ne (by omega)]; exact g2 i hi
  · intro i hi; rw [zu_ne (by omega), zu_ne (by omega)]; exact g3 i hi
  · intro i hi; rw [zu_ne (by omega), zu_ne (by omega)]; exact g4 i hi
  · rw [zu_ne (by omega), zu_ne (by omega)]; exact g5
  · rw [zu_ne (by omega), zu_ne (by omega)]; exact g6
  · rw [zu_ne (by omega), zu_ne (by omega)]; exact g7
theorem s74 {x : zXs} {F : zF} (hF : zSh F) {d : Nat} {V : Nat → Nat → Int32} {T : Nat → Nat → Int64} {Q : Option Value → zG → Prop} {b : Nat} (hb : zSt b) {S : Nat → Nat → Nat} (hS : zCS b V S) (hW : zWf S) {n : Nat} {w : Nat → Nat → (Nat → Int32) → Int32} (hR : zRu V n w) (hru : S 5 2 < n) {one r : Nat} (ho : one < 5) (hr : r < 4) (k : ∀ V', zCS b V' (yGS w S one r) → V' 19 2 = Int32.ofInt ((yGl w S one (S 0 r) (S 1 r)).2.1 : Int) → (∀ j, j < (yGl w S one (S 0 r) (S 1 r)).2.1 → V' 42 j = Int32.ofInt ((yGl w S one (S 0 r) (S 1 r)).2.2.2.2.2.2.2 j)) → (∀ a, (a < b ∨ b + 5 < a) → a ≠ 19 → a ≠ 22 → a ≠ 23 → a ≠ 42 → V' a = V a) → Q (some (.int (Int32.ofInt (yGl w S one (S 0 r) (S 1 r)).2.2.2.2.2.2.1))) (V', T)) {o4 o5 o6 o7 o8 o9 o10 o11 o12 o13 : Option Value} : E x F (d + 3) 74 0 [some (.ref 19), some (.ref b), some (.int (Int32.ofInt (one : Int))), some (.int (Int32.ofInt (r : Int))), o4, o5, o6, o7, o8, o9, o10, o11, o12, o13] [] (V, T) Q := by
  have hb2 := zSt_lt b hb
  have hlen := (hW.1 r hr).1
  have hst := (hW.1 r hr).2
  have hB : S 1 r < 2147483648 := Nat.lt_of_lt_of_le hst (Nat.le_trans (Nat.pow_le_pow_right (by omega) hlen) (by omega))
  apply b74_0 hF hb (i1 := r) (zI_nat r) hr (i2 := r) (zI_nat r) hr
  rw [hS.1 r hr, hS.2.1 r hr]
  apply s74l hF hb hW.2.1 hR hru ho hr hlen hB (S 0 r) 0 (0, 0, S 4 one, S 0 r, 0, 0, 0, fun _ => 0) _ 0 rfl (Nat.zero_add _)
  · refine ⟨Nat.le_refl _, (hW.2.1 one ho).2.2, hlen, ?_, ?_⟩
    · dsimp only; omega
    · dsimp only; omega
  · refine ⟨?_, ?_, ?_, ?_⟩
    · dsimp only
      rw [zu_self, zu_self]
      exact zCS_fr hS (fun a _ _ => zu_ne (by omega))
    · dsimp only
      rw [zuN_at]; rfl
    · dsimp only
      intro j hj; omega
    · intro a _ h2 _ _ _
      rw [zu_ne h2]
  · intro V2 hG
    obtain ⟨g1, g2, g3, g4⟩ := hG
    apply k
    · exact zCS_st g1
    · rw [zu_ne (by omega)]; exact g2
    · intro j hj
      rw [zu_ne (by omega)]; exact g3 j hj
    · intro a h1 h2 h3 h4 h5
      rw [zu_ne (by omega)]
      exact g4 a h1 h2 h3 h4 h5
