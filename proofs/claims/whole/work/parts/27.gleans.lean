/-! The reference: one gleans a row, whole -/
theorem yClose_tot {w : Nat → Nat → (Nat → Int32) → Int32} {S : Nat → Nat → Nat} {one L k : Nat} {p : yG} (h : S 3 one ≤ 9) (hp : yOk L k p) (hk : k ≤ L) (ht : (p.2.2.2.1 : Int) + p.2.2.2.2.2.2.1 = L) : ((yClose w S one p).2.2.2.1 : Int) + (yClose w S one p).2.2.2.2.2.2.1 = L := by
  obtain ⟨sz, rn, ap, ln, pl, st, tot, tk⟩ := p
  obtain ⟨h1, h2, h3, h4, h5⟩ := hp
  dsimp only at h1 h2 h3 h4 h5 ht
  have ht2 := yT_in (w := w) (S := S) (one := one) (g := sz) (nth := rn) (ap := ap) (ln := ln) h h3
  unfold yClose
  dsimp only
  by_cases h0 : sz = 0
  · rw [if_pos h0]; exact ht
  · rw [if_neg h0]; dsimp only; omega
theorem s171l {x : zXs} {F : zF} (hF : zSh F) {d : Nat} {V : Nat → Nat → Int32} {T : Nat → Nat → Int64} {Q : Option Value → zG → Prop} {n : Nat} {w : Nat → Nat → (Nat → Int32) → Int32} (hR : zRd x F V n w) {S : Nat → Nat → Nat} (hW : zWg S) (hru : S 5 2 < n) {one r L B : Nat} (ho : one < 5) (hr : r < 5) (hL : L ≤ 24) (hB : B < 2 ^ L) : ∀ (m k : Nat) (p : yG) (V1 : Nat → Nat → Int32) (T1 : Nat → Nat → Int64), k + m = L → yOk L k p → yRs (ygb L B) k p → (p.2.2.2.1 : Int) + p.2.2.2.2.2.2.1 = L → zHi V V1 S r one (ygb L B) L (yCk B k p) p → (∀ V2 T2, zHi V V2 S r one (ygb L B) L (yFrom w S one B k m p).2.2.2.2.2.1 (yFrom w S one B k m p) → (yFrom w S one B k m p).2.1 = zrn (ygb L B) L → Q (some (.int (Int32.ofInt (yFrom w S one B k m p).2.2.2.2.2.2.1))) (V2, T2)) → ∀ o6 o7 : Option Value, E x F (d + 53) 171 12 [some (.ref 59), some (.int (Int32.ofInt (one : Int))), some (.int (Int32.ofInt (r : Int))), some (.int (Int32.ofInt (zrn (ygb L B) L : Int))), some (.int (Int32.ofInt p.2.2.2.2.2.2.1)), some (.int (Int32.ofInt (p.2.1 : Int))), o6, o7] [] (V1, T1) Q := by
  have hNle := zrn_le (ygb L B) L
  intro m
  induction m with
  | zero =>
    intro k p V1 T1 hk hp hs ht hG K o6 o7
    have hkL : k = L := by omega
    subst hkL
    have fin : ∀ (q : yG) (V3 : Nat → Nat → Int32) (T3 : Nat → Nat → Int64), q = yClose w S one p → zrn (ygb k B) k = q.2.1 → zHi V V3 S r one (ygb k B) k (yCk B k q) q → ∀ o6 o7 : Option Value, E x F (d + 53) 171 12 [some (.ref 59), some (.int (Int32.ofInt (one : Int))), some (.int (Int32.ofInt (r : Int))), some (.int (Int32.ofInt (zrn (ygb k B) k : Int))), some (.int (Int32.ofInt q.2.2.2.2.2.2.1)), some (.int (Int32.ofInt (q.2.1 : Int))), o6, o7] [] (V3, T3) Q := by
      intro q V3 T3 hq hz hG3 o6 o7
      have e : yCk B k q = q.2.2.2.2.2.1 := by
        unfold yCk
        rw [Nat.div_eq_of_lt hB, Nat.mul_zero, Nat.add_zero]
      rw [e] at hG3
      apply b171_12 hF
      · intro _
        have := K V3 T3
        rw [yFrom, ← hq] at this
        exact b171_138 hF (this hG3 hz.symm)
      · intro c
        simp (disch := omega) only [zI_le] at c
        exfalso; omega
    by_cases h0 : p.1 = 0
    · have hs' := hs
      rcases hs with ⟨_, hs2, _⟩ | ⟨hs1, _⟩
      · refine fin p V1 T1 ?_ hs2 hG _ _
        unfold yClose; rw [if_pos h0]
      · omega
    · apply s171b hF hR hW hru ho hr hL hB hp (Nat.le_refl _) hs h0 (Or.inl rfl) ht hG
      intro V2 T2 p6 p7 hG2
      refine fin _ V2 T2 rfl ?_ hG2 _ _
      rcases hs with ⟨hs1, _⟩ | ⟨_, _, hs3, _⟩
      · exact absurd hs1 h0
      · unfold yClose; rw [if_neg h0]; exact hs3
  | succ m ih =>
    intro k p V1 T1 hk hp hs ht hG K o6 o7
    have hscan := yScan_ok (w := w) (B := B) (hW one ho).2.1 hp (by omega : k < L)
    have hgb := ygb_bit hB k
    cases hb : B.testBit k with
    | false =>
      have hg : (ygb L B).testBit k = true := by
        rw [hgb, hb]; simp; omega
      have hsc : yScan w S one B p k = (p.1 + 1, p.2) := by
        unfold yScan; rw [hb]; rfl
      rw [hsc] at hscan
      rw [yFrom, hsc] at K
      have e := yCk_gap (p := p) hb
      exact ih (k + 1) (p.1 + 1, p.2) V1 T1 (by omega) hscan (yRs_gap hs hg) ht (by rw [e]; exact hG) K o6 o7
    | true =>
      have hg : (ygb L B).testBit k = false := by
        rw [hgb, hb]; simp
      have hsc : yScan w S one B p k = yPut (yClose w S one p) := by
        unfold yScan; rw [if_pos hb]
      rw [hsc] at hscan
      rw [yFrom, hsc] at K
      obtain ⟨_, c0, _, _, _, c6⟩ := yClose_ok (w := w) (hW one ho).2.1 hp (by omega : k ≤ L)
      have e := yCk_put c0 c6 hb
      have ht2 := yClose_tot (w := w) (hW one ho).2.1 hp (by omega : k ≤ L) ht
      have go : ∀ V3 T3 (o6 o7 : Option Value), zHi V V3 S r one (ygb L B) L (yCk B k (yClose w S one p)) (yClose w S one p) → E x F (d + 53) 171 12 [some (.ref 59), some (.int (Int32.ofInt (one : Int))), some (.int (Int32.ofInt (r : Int))), some (.int (Int32.ofInt (zrn (ygb L B) L : Int))), some (.int (Int32.ofInt (yClose w S one p).2.2.2.2.2.2.1)), some (.int (Int32.ofInt ((yClose w S one p).2.1 : Int))), o6, o7] [] (V3, T3) Q := fun V3 T3 o6 o7 hG3 => ih (k + 1) (yPut (yClose w S one p)) V3 T3 (by omega) hscan (yRs_stalk hs hg) ht2 (by rw [e]; exact hG3) K o6 o7
      by_cases h0 : p.1 = 0
      · have e2 : yClose w S one p = p := by
          unfold yClose; rw [if_pos h0]
        rw [e2] at go
        exact go V1 T1 o6 o7 hG
      · apply s171b hF hR hW hru ho hr hL hB hp (by omega) hs h0 (Or.inr hg) ht hG
        exact go
theorem s171 {x : zXs} {F : zF} (hF : zSh F) {d : Nat} {V : Nat → Nat → Int32} {T : Nat → Nat → Int64} {Q : Option Value → zG → Prop} {n : Nat} {w : Nat → Nat → (Nat → Int32) → Int32} (hR : zRd x F V n w) {S : Nat → Nat → Nat} (hS : zMS V S) (hW : zWg S) (hru : S 5 2 < n) {one r : Nat} (ho : one < 5) (hr : r < 5) (hL : S 0 r ≤ 24) (hB : S 1 r < 2 ^ S 0 r) (k : ∀ V2 T2, zMS V2 (yGS w S one r) → (yGl w S one (S 0 r) (S 1 r)).2.1 = zrn (zgb S r) (S 0 r) → (∀ j, j < (yGl w S one (S 0 r) (S 1 r)).2.1 → V2 69 j = Int32.ofInt ((yGl w S one (S 0 r) (S 1 r)).2.2.2.2.2.2.2 j)) → (∀ a, a ≠ 59 → a ≠ 63 → a ≠ 64 → a ≠ 66 → a ≠ 67 → a ≠ 68 → a ≠ 69 → V2 a = V a) → (∀ j, (j < 13 ∨ 27 < j) → V2 59 j = V 59 j) → Q (some (.int (Int32.ofInt (yGl w S one (S 0 r) (S 1 r)).2.2.2.2.2.2.1))) (V2, T2)) {o3 o4 o5 o6 o7 : Option Value} : E x F (d + 53) 171 0 [some (.ref 59), some (.int (Int32.ofInt (one : Int))), some (.int (Int32.ofInt (r : Int))), o3, o4, o5, o6, o7] [] (V, T) Q := by
  apply b171_0 hF
  apply s158 hF hr (hS.1 r hr) (hS.2.1 r hr) hL hB
  intro V' hV'
  apply b171_5 hF
  have hR' : zRd x F V' n w := zRd_fr hR (hV'.2 60 (by omega) (by omega)) (hV'.2 61 (by omega) (by omega))
  refine s171l hF (V := V') (T := T) hR' hW hru ho hr hL hB (S 0 r) 0 (0, 0, S 4 one, S 0 r, 0, 0, 0, fun _ => 0) V' T (Nat.zero_add _) ?_ ?_ ?_ ?_ ?_ _ _
  · refine ⟨Nat.le_refl _, (hW one ho).2.2, hL, ?_, ?_⟩
    · dsimp only; omega
    · dsimp only; omega
  · exact Or.inl ⟨rfl, rfl, fun h => absurd h (by omega)⟩
  · dsimp only; omega
  · have e : yCk (S 1 r) 0 (0, 0, S 4 one, S 0 r, 0, 0, 0, fun _ => 0) = S 1 r := by
      unfold yCk; simp
    rw [e]
    refine ⟨?_, ?_, ?_, fun _ _ _ _ _ _ _ _ => rfl, fun _ _ => rfl⟩
    · dsimp only
      rw [zu_self, zu_self, zu_self]
      exact zMS_fr hS (hV'.2 64 (by omega) (by omega)) (hV'.2 63 (by omega) (by omega)) (hV'.2 66 (by omega) (by omega)) (hV'.2 65 (by omega) (by omega)) (fun j _ => by rw [hV'.2 59 (by omega) (by omega)])
    · exact hV'.1
    · intro j hj; exact absurd hj (Nat.not_lt_zero _)
  · intro V2 T2 hG hn2
    obtain ⟨g1, g2, g3, g4, g5⟩ := hG
    apply k V2 T2 g1 hn2 g3
    · intro a a1 a2 a3 a4 a5 a6 a7
      rw [g4 a a1 a2 a3 a4 a5 a6 a7]
      exact hV'.2 a a5 a6
    · intro j hj
      rw [g5 j hj, hV'.2 59 (by omega) (by omega)]
