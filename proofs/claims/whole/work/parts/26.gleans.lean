/-! The reference: one gleans a row, its loop -/
theorem yCk_lt {B L k : Nat} {p : yG} (hp : yOk L k p) (hk : k ≤ L) (hB : B < 2 ^ L) : yCk B k p < 2 ^ p.2.2.2.1 := by
  obtain ⟨_, _, h3, h4, h5⟩ := hp
  have h6 : B / 2 ^ k < 2 ^ (L - k) := by
    rw [Nat.div_lt_iff_lt_mul (Nat.two_pow_pos k), ← Nat.pow_add, show L - k + k = L by omega]
    exact hB
  have h7 : p.2.2.2.2.2.1 < 2 ^ (p.2.2.2.2.1 + p.1) := Nat.lt_of_lt_of_le h5 (Nat.pow_le_pow_right (by omega) (by omega))
  unfold yCk
  have h8 : p.2.2.2.2.2.1 + 2 ^ (p.2.2.2.2.1 + p.1) * (B / 2 ^ k) < 2 ^ (p.2.2.2.2.1 + p.1) * (B / 2 ^ k + 1) := by
    rw [Nat.mul_add, Nat.mul_one]; omega
  have h9 : 2 ^ (p.2.2.2.2.1 + p.1) * (B / 2 ^ k + 1) ≤ 2 ^ (p.2.2.2.2.1 + p.1) * 2 ^ (L - k) := Nat.mul_le_mul_left _ h6
  rw [← Nat.pow_add, show p.2.2.2.2.1 + p.1 + (L - k) = p.2.2.2.1 by omega] at h9
  omega
/-- the reference's memory while one gleans -/
def zHi (V V1 : Nat → Nat → Int32) (S : Nat → Nat → Nat) (r one g L C : Nat) (p : yG) : Prop := zMS V1 (zu (zu (zu S 0 r p.2.2.2.1) 4 one p.2.2.1) 1 r C) ∧ (∀ j, j < zrn g L → V1 67 j = Int32.ofInt (ybg g j L : Int) ∧ V1 68 j = Int32.ofInt (zsz g j L : Int)) ∧ (∀ j, j < p.2.1 → V1 69 j = Int32.ofInt (p.2.2.2.2.2.2.2 j)) ∧ (∀ a, a ≠ 59 → a ≠ 63 → a ≠ 64 → a ≠ 66 → a ≠ 67 → a ≠ 68 → a ≠ 69 → V1 a = V a) ∧ (∀ j, (j < 13 ∨ 27 < j) → V1 59 j = V 59 j)
theorem zMS_cl {V V' : Nat → Nat → Int32} {S : Nat → Nat → Nat} {r one ln ap C ln' ap' C' : Nat} (h : zMS V (zu (zu (zu S 0 r ln) 4 one ap) 1 r C)) (ho : one < 5) (h64 : ∀ j, V' 64 j = if j = r then Int32.ofInt (ln' : Int) else V 64 j) (h63 : ∀ j, V' 63 j = if j = r then Int32.ofInt (C' : Int) else V 63 j) (h66 : ∀ j, V' 66 j = if j = 2 * one + 1 then Int32.ofInt (ap' : Int) else V 66 j) (h65 : V' 65 = V 65) (h59 : ∀ j, j < 13 → V' 59 j = V 59 j) : zMS V' (zu (zu (zu S 0 r ln') 4 one ap') 1 r C') := by
  obtain ⟨g0, g1, g2, g3, g4, g5, g6, g7⟩ := h
  refine ⟨?_, ?_, ?_, ?_, ?_, ?_, ?_, ?_⟩
  · intro i hi
    have := g0 i hi
    rw [zu_ne (by omega), zu_ne (by omega), zu_at] at this ⊢
    rw [h64]
    by_cases hr : i = r
    · rw [if_pos hr, if_pos hr]
    · rw [if_neg hr, if_neg hr]
      rw [if_neg hr] at this
      exact this
  · intro i hi
    have := g1 i hi
    rw [zu_at] at this ⊢
    rw [h63]
    by_cases hr : i = r
    · rw [if_pos hr, if_pos hr]
    · rw [if_neg hr, if_neg hr]
      rw [if_neg hr] at this
      rw [zu_ne (by omega), zu_ne (by omega)] at this ⊢
      exact this
  · intro i hi
    have := g2 i hi
    rw [zu_ne (by omega), zu_ne (by omega), zu_ne (by omega)] at this ⊢
    rw [h65]; exact this
  · intro i hi
    have := g3 i hi
    rw [zu_ne (by omega), zu_ne (by omega), zu_ne (by omega)] at this ⊢
    rw [h66, if_neg (by omega)]; exact this
  · intro i hi
    have := g4 i hi
    rw [zu_ne (by omega), zu_at] at this ⊢
    rw [h66]
    by_cases hr : i = one
    · rw [if_pos (by omega), if_pos hr]
    · rw [if_neg (by omega), if_neg hr]
      rw [if_neg hr] at this
      exact this
  · rw [zu_ne (by omega), zu_ne (by omega), zu_ne (by omega)] at g5 ⊢
    rw [h59 _ (by omega)]; exact g5
  · rw [zu_ne (by omega), zu_ne (by omega), zu_ne (by omega)] at g6 ⊢
    rw [h59 _ (by omega)]; exact g6
  · rw [zu_ne (by omega), zu_ne (by omega), zu_ne (by omega)] at g7 ⊢
    rw [h59 _ (by omega)]; exact g7
theorem zMS_fr {V V' : Nat → Nat → Int32} {S : Nat → Nat → Nat} (h : zMS V S) (h64 : V' 64 = V 64) (h63 : V' 63 = V 63) (h66 : V' 66 = V 66) (h65 : V' 65 = V 65) (h59 : ∀ j, j < 13 → V' 59 j = V 59 j) : zMS V' S := by
  obtain ⟨g0, g1, g2, g3, g4, g5, g6, g7⟩ := h
  refine ⟨?_, ?_, ?_, ?_, ?_, ?_, ?_, ?_⟩
  · rw [h64]; exact g0
  · rw [h63]; exact g1
  · rw [h65]; exact g2
  · rw [h66]; exact g3
  · rw [h66]; exact g4
  · rw [h59 _ (by omega)]; exact g5
  · rw [h59 _ (by omega)]; exact g6
  · rw [h59 _ (by omega)]; exact g7
theorem s171b {x : zXs} {F : zF} (hF : zSh F) {d : Nat} {V : Nat → Nat → Int32} {T : Nat → Nat → Int64} {Q : Option Value → zG → Prop} {n : Nat} {w : Nat → Nat → (Nat → Int32) → Int32} (hR : zRd x F V n w) {S : Nat → Nat → Nat} (hW : zWg S) (hru : S 5 2 < n) {one r L B k : Nat} (ho : one < 5) (hr : r < 5) (hL : L ≤ 24) (hB : B < 2 ^ L) {p : yG} (hp : yOk L k p) (hk : k ≤ L) (hs : yRs (ygb L B) k p) (h0 : p.1 ≠ 0) (hend : k = L ∨ (ygb L B).testBit k = false) (htot : (p.2.2.2.1 : Int) + p.2.2.2.2.2.2.1 = L) {V1 : Nat → Nat → Int32} (hG : zHi V V1 S r one (ygb L B) L (yCk B k p) p) {o6 o7 : Option Value} (K : ∀ V2 T2 (o6 o7 : Option Value), zHi V V2 S r one (ygb L B) L (yCk B k (yClose w S one p)) (yClose w S one p) → E x F (d + 53) 171 12 [some (.ref 59), some (.int (Int32.ofInt (one : Int))), some (.int (Int32.ofInt (r : Int))), some (.int (Int32.ofInt (zrn (ygb L B) L : Int))), some (.int (Int32.ofInt (yClose w S one p).2.2.2.2.2.2.1)), some (.int (Int32.ofInt ((yClose w S one p).2.1 : Int))), o6, o7] [] (V2, T2) Q) : E x F (d + 53) 171 12 [some (.ref 59), some (.int (Int32.ofInt (one : Int))), some (.int (Int32.ofInt (r : Int))), some (.int (Int32.ofInt (zrn (ygb L B) L : Int))), some (.int (Int32.ofInt p.2.2.2.2.2.2.1)), some (.int (Int32.ofInt (p.2.1 : Int))), o6, o7] [] (V1, T) Q := by
  have hlt := yCk_lt hp hk hB
  have hcl := fun ht => yCk_close (w := w) (S := S) (one := one) (B := B) (k := k) (p := p) h0 hp.2.2.2.2 ht
  obtain ⟨sz, rn, ap, ln, pl, st, tot, tk⟩ := p
  obtain ⟨h1, h2, h3, h4, h5⟩ := hp
  obtain ⟨g1, g2, g3, g4, g5⟩ := hG
  dsimp only at h0 h1 h2 h3 h4 h5 g1 g2 g3 htot hcl hlt
  rcases hs with ⟨hs1, _⟩ | ⟨hs1, hs2, hs3, hs4, hs5, hs6⟩
  · exact absurd hs1 h0
  dsimp only at hs1 hs2 hs3 hs4 hs5
  have hzz : zsz (ygb L B) rn L = sz ∧ ybg (ygb L B) rn L = k - sz := by
    rcases hend with rfl | hend
    · exact ⟨hs4, hs5⟩
    · have := zsz_end hs3 hend (L - k)
      rw [show k + (L - k) = L by omega] at this
      exact ⟨this.1.trans hs4, this.2.trans hs5⟩
  have hN : rn < zrn (ygb L B) L := by
    have := zrn_le_of (g := ygb L B) hk
    omega
  have hNle := zrn_le (ygb L B) L
  have e : yClose w S one (sz, rn, ap, ln, pl, st, tot, tk) = (0, rn + 1, (yCl ((ap : Int) + yT w S one sz rn ap ln) 0 999).toNat, ((ln : Int) - yT w S one sz rn ap ln).toNat, ((pl : Int) + (sz - yT w S one sz rn ap ln)).toNat, st, tot + yT w S one sz rn ap ln, fun j => if j = rn then yT w S one sz rn ap ln else tk j) := by
    unfold yClose; rw [if_neg h0]
  have ht := yT_in (w := w) (S := S) (one := one) (g := sz) (nth := rn) (ap := ap) (ln := ln) (hW one ho).2.1 h3
  rw [hcl ht.2.2, e] at K
  dsimp only at K
  generalize hCe : yCk B k (sz, rn, ap, ln, pl, st, tot, tk) = C at *
  have hC31 : C < 2147483648 := Nat.lt_of_lt_of_le hlt (Nat.le_trans (Nat.pow_le_pow_right (by omega) h3) (by omega))
  have hwS : zWg (zu (zu (zu S 0 r ln) 4 one ap) 1 r C) := by
    intro i hi
    have := hW i hi
    refine ⟨?_, ?_, ?_⟩
    · rw [zu_ne (by omega), zu_ne (by omega), zu_ne (by omega)]; exact this.1
    · rw [zu_ne (by omega), zu_ne (by omega), zu_ne (by omega)]; exact this.2.1
    · rw [zu_ne (by omega), zu_at]
      split
      · exact h2
      · rw [zu_ne (by omega)]; exact this.2.2
  have h64 : V1 64 r = Int32.ofInt (ln : Int) := by
    have := g1.1 r hr
    rw [zu_ne (by omega), zu_ne (by omega), zuN_at] at this
    exact this
  have h63 : V1 63 r = Int32.ofInt (C : Int) := by
    have := g1.2.1 r hr
    rw [zuN_at] at this
    exact this
  have h66 : V1 66 (2 * one + 1) = Int32.ofInt (ap : Int) := by
    have := g1.2.2.2.2.1 one ho
    rw [zu_ne (by omega), zuN_at] at this
    exact this
  have hR1 : zRd x F V1 n w := zRd_fr hR (g4 60 (by omega) (by omega) (by omega) (by omega) (by omega) (by omega) (by omega)) (g4 61 (by omega) (by omega) (by omega) (by omega) (by omega) (by omega) (by omega))
  have hru1 : (zu (zu (zu S 0 r ln) 4 one ap) 1 r C) 5 2 < n := by
    rw [zu_ne (by omega), zu_ne (by omega), zu_ne (by omega)]; exact hru
  have etk : yTk w (zu (zu (zu S 0 r ln) 4 one ap) 1 r C) one sz rn ln = yTk w (zu S 4 one ap) one sz rn ln := by
    unfold yTk
    simp (disch := omega) only [zu_ne, zuN_at]
  have ewn : ∀ v, yWant (zu (zu (zu S 0 r ln) 4 one ap) 1 r C) one sz v = yWant (zu S 4 one ap) one sz v := by
    intro v
    unfold yWant
    simp (disch := omega) only [zu_ne, zuN_at]
  have hwn := yWant_in (S := zu S 4 one ap) (one := one) (g := sz) (v := yTk w (zu S 4 one ap) one sz rn ln) (by rw [zu_ne (by omega)]; exact (hW one ho).2.1)
  apply b171_12 hF
  · intro c
    simp (disch := omega) only [zI_le] at c
    exfalso; omega
  intro _
  apply b171_18 hF (i1 := rn) (zI_nat rn) (by omega) (i2 := r) (zI_nat r) hr
  rw [(g2 rn hN).2, hzz.1, h64]
  apply s169 hF hR1 g1 hwS hru1 ho (by omega)
  intro V2 T2 hf1 hf2
  rw [etk, ewn]
  have tail : ∀ t : Int, t = yT w S one sz rn ap ln → ∀ o6 o7 : Option Value, E x F (d + 53) 171 67 [some (.ref 59), some (.int (Int32.ofInt (one : Int))), some (.int (Int32.ofInt (r : Int))), some (.int (Int32.ofInt (zrn (ygb L B) L : Int))), some (.int (Int32.ofInt tot)), some (.int (Int32.ofInt (rn : Int))), o6, o7] [.int (Int32.ofInt t)] (V2, T2) Q := by
    intro t hteq o6 o7
    subst hteq
    generalize hteq : yT w S one sz rn ap ln = t at *
    apply b171_67 hF (i1 := rn) (zI_nat rn) (by omega)
    rw [hf1 67 (by omega), (g2 rn hN).1, hzz.2, zI_sub, show ((k - sz : Nat) : Int) - tot = (pl : Int) by omega]
    apply s172 hF (C := C) (ln := ln) hr (by rw [hf1 63 (by omega)]; exact h63) (by rw [hf1 64 (by omega)]; exact h64) hC31 (by omega) (by omega)
    have e3 : Int32.ofInt 2 * Int32.ofInt (one : Int) + Int32.ofInt 1 = Int32.ofInt ((2 * one + 1 : Nat) : Int) := by
      rw [zI_mul, zI_add]; congr 1
    apply b171_86 hF (i1 := 2 * one + 1) (e3.trans (zI_nat _)) (by omega)
    simp (disch := omega) only [zu_ne]
    rw [hf1 66 (by omega), h66, zI_add]
    have hc := yCl_in (v := (ap : Int) + t) (show (0 : Int) ≤ 999 by omega)
    apply s157 hF (by omega) (by omega) (by omega)
    apply b171_115 hF (zsh_at hF rfl) (by omega) (i1 := 2 * one + 1) (e3.trans (zI_nat _)) (by omega) (i2 := rn) (zI_nat rn) (by omega)
    simp only [zI_add]
    apply K
    refine ⟨?_, ?_, ?_, ?_, ?_⟩
    · dsimp only
      refine zMS_cl g1 ho ?_ ?_ ?_ ?_ ?_
      · intro j
        rw [zu_ne (by omega), zu_ne (by omega), zu_at, zu_ne (by omega), hf1 64 (by omega), Int.toNat_of_nonneg (by omega)]
      · intro j
        rw [zu_ne (by omega), zu_ne (by omega), zu_ne (by omega), zu_at, hf1 63 (by omega)]
      · intro j
        rw [zu_ne (by omega), zu_at, zu_ne (by omega), zu_ne (by omega), hf1 66 (by omega), Int.toNat_of_nonneg (by omega)]
      · simp (disch := omega) only [zu_ne]
        exact hf1 65 (by omega)
      · intro j hj
        simp (disch := omega) only [zu_ne]
        exact hf2 j (by omega)
    · intro j hj
      simp (disch := omega) only [zu_ne]
      rw [hf1 67 (by omega), hf1 68 (by omega)]
      exact g2 j hj
    · dsimp only
      intro j hj
      rw [zu_at]
      by_cases hjr : j = rn
      · rw [if_pos hjr, if_pos hjr]
      · rw [if_neg hjr, if_neg hjr]
        simp (disch := omega) only [zu_ne]
        rw [hf1 69 (by omega)]
        exact g3 j (by omega)
    · intro a a1 a2 a3 a4 a5 a6 a7
      simp (disch := omega) only [zu_ne]
      rw [hf1 a a1]
      exact g4 a a1 a2 a3 a4 a5 a6 a7
    · intro j hj
      simp (disch := omega) only [zu_ne]
      rw [hf2 j hj]
      exact g5 j hj
  apply b171_38 hF (i1 := r) (zI_nat r) hr
  · rw [hf1 64 (by omega), h64, zI_sub, zI_neg]
    intro c
    simp (disch := omega) only [zI_le] at c
    apply b171_65 hF
    apply tail
    unfold yT
    rw [if_neg (by omega)]
  · rw [hf1 64 (by omega), h64, zI_sub, zI_neg]
    intro c
    simp (disch := omega) only [zI_le] at c
    apply b171_59 hF
    rw [zI_neg]
    apply tail
    unfold yT
    rw [if_pos (by omega)]
