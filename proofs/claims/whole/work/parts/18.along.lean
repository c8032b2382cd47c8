/-! goAlong of the class -/
theorem zuN_at {α : Type} {V : Nat → Nat → α} {a k : Nat} {v : α} : zu V a k v a k = v := by
  rw [zu_at, if_pos rfl]
theorem zuN_nk {α : Type} {V : Nat → Nat → α} {a k j : Nat} {v : α} (h : j ≠ k) : zu V a k v a j = V a j := by
  rw [zu_at, if_neg h]
theorem zCS_gl {b : Nat} {V V' : Nat → Nat → Int32} {S : Nat → Nat → Nat} {r one ln ap ln' ap' : Nat} (h : zCS b V (zu (zu S 0 r ln) 4 one ap)) (h1 : ∀ j, V' (b + 1) j = if j = r then Int32.ofInt (ln' : Int) else V (b + 1) j) (h5 : ∀ j, V' (b + 5) j = if j = one then Int32.ofInt (ap' : Int) else V (b + 5) j) (hf : ∀ a, a = b ∨ a = b + 2 ∨ a = b + 3 ∨ a = b + 4 → V' a = V a) : zCS b V' (zu (zu S 0 r ln') 4 one ap') := by
  obtain ⟨g0, g1, g2, g3, g4, g5, g6, g7⟩ := h
  refine ⟨?_, ?_, ?_, ?_, ?_, ?_, ?_, ?_⟩
  · intro i hi
    have := g0 i hi
    rw [zu_ne (by omega), zu_at] at this ⊢
    rw [h1]
    by_cases hr : i = r
    · rw [if_pos hr, if_pos hr]
    · rw [if_neg hr, if_neg hr]
      rw [if_neg hr] at this
      exact this
  · intro i hi
    have := g1 i hi
    rw [zu_ne (by omega), zu_ne (by omega)] at this ⊢
    rw [hf _ (by omega)]; exact this
  · intro i hi
    have := g2 i hi
    rw [zu_ne (by omega), zu_ne (by omega)] at this ⊢
    rw [hf _ (by omega)]; exact this
  · intro i hi
    have := g3 i hi
    rw [zu_ne (by omega), zu_ne (by omega)] at this ⊢
    rw [hf _ (by omega)]; exact this
  · intro i hi
    have := g4 i hi
    rw [zu_at] at this ⊢
    rw [h5]
    by_cases hr : i = one
    · rw [if_pos hr, if_pos hr]
    · rw [if_neg hr, if_neg hr]
      rw [if_neg hr] at this
      exact this
  · rw [zu_ne (by omega), zu_ne (by omega)] at g5 ⊢
    rw [hf _ (by omega)]; exact g5
  · rw [zu_ne (by omega), zu_ne (by omega)] at g6 ⊢
    rw [hf _ (by omega)]; exact g6
  · rw [zu_ne (by omega), zu_ne (by omega)] at g7 ⊢
    rw [hf _ (by omega)]; exact g7
theorem s75 {x : zXs} {F : zF} (hF : zSh F) {d : Nat} {V : Nat → Nat → Int32} {T : Nat → Nat → Int64} {Q : Option Value → zG → Prop} {b : Nat} (hb : zSt b) {one r ln ap rn : Nat} {t : Int} (ho : one < 5) (hr : r < 4) (hln : ln ≤ 24) (hap : ap ≤ 999) (hrn : rn < 12) (ht : -24 ≤ t ∧ t ≤ 24) (h1 : V (b + 1) r = Int32.ofInt (ln : Int)) (h2 : V (b + 5) one = Int32.ofInt (ap : Int)) (h3 : V 19 2 = Int32.ofInt (rn : Int)) (k : Q none (zu (zu (zu (zu V (b + 1) r (Int32.ofInt ((ln : Int) - t))) (b + 5) one (Int32.ofInt (yCl ((ap : Int) + t) 0 999))) 42 rn (Int32.ofInt t)) 19 2 (Int32.ofInt ((rn : Int) + 1)), T)) : E x F (d + 1) 75 0 [some (.ref 19), some (.ref b), some (.int (Int32.ofInt (one : Int))), some (.int (Int32.ofInt (r : Int))), some (.int (Int32.ofInt t))] [] (V, T) Q := by
  have hb2 := zSt_lt b hb
  apply b75_0 hF hb (i1 := r) (zI_nat r) hr (i2 := r) (zI_nat r) hr (i3 := one) (zI_nat one) ho
  simp (disch := omega) only [zu_ne]
  rw [h1, h2, zI_sub, zI_add]
  apply s30c hF (by omega) (by omega) (by omega)
  apply b75_32 hF (zSt_a4 hF hb) (by omega) (i1 := one) (zI_nat one) ho
  · simp (disch := omega) only [zu_ne]
    rw [h3]
    intro c
    simp (disch := omega) only [zI_le] at c
    exfalso; omega
  · intro _
    apply b75_42 hF (i1 := rn) (by simp (disch := omega) only [zu_ne]; rw [h3]; exact zI_nat rn) hrn
    apply b75_63 hF
    have e : (zu (zu (zu V (b + 1) r (Int32.ofInt ((ln : Int) - t))) (b + 5) one (Int32.ofInt (yCl ((ap : Int) + t) 0 999))) 42 rn (Int32.ofInt t)) 19 2 = Int32.ofInt (rn : Int) := by
      simp (disch := omega) only [zu_ne]
      exact h3
    rw [e, zI_add]
    exact k
/-- the memory while one gleans -/
def zGi (b : Nat) (V V' : Nat → Nat → Int32) (S : Nat → Nat → Nat) (r one : Nat) (p : yG) : Prop := zCS b V' (zu (zu S 0 r p.2.2.2.1) 4 one p.2.2.1) ∧ V' 19 2 = Int32.ofInt (p.2.1 : Int) ∧ (∀ j, j < p.2.1 → V' 42 j = Int32.ofInt (p.2.2.2.2.2.2.2 j)) ∧ (∀ a, (a < b ∨ b + 5 < a) → a ≠ 19 → a ≠ 22 → a ≠ 23 → a ≠ 42 → V' a = V a)
theorem s74c {x : zXs} {F : zF} (hF : zSh F) {d : Nat} {V : Nat → Nat → Int32} {T : Nat → Nat → Int64} {Q : Option Value → zG → Prop} {b : Nat} (hb : zSt b) {S : Nat → Nat → Nat} (hW : zWg S) {n : Nat} {w : Nat → Nat → (Nat → Int32) → Int32} (hR : zRu V n w) (hru : S 5 2 < n) {one r L k : Nat} (ho : one < 5) (hr : r < 4) {p : yG} (hp : yOk L k p) (hk : k ≤ L) (hL : L ≤ 24) {V1 : Nat → Nat → Int32} (hG : zGi b V V1 S r one p) {o4 o5 o10 o11 o12 o13 : Option Value} (K : ∀ V2 (o11 o12 o13 : Option Value), zGi b V V2 S r one (yClose w S one p) → E x F (d + 3) 74 152 [some (.ref 19), some (.ref b), some (.int (Int32.ofInt (one : Int))), some (.int (Int32.ofInt (r : Int))), o4, o5, some (.int (Int32.ofInt ((yClose w S one p).2.2.2.2.2.1 : Int))), some (.int (Int32.ofInt ((yClose w S one p).2.2.2.2.1 : Int))), some (.int (Int32.ofInt ((yClose w S one p).1 : Int))), some (.int (Int32.ofInt ((yClose w S one p).2.2.2.2.2.2.1))), o10, o11, o12, o13] [] (V2, T) Q) : E x F (d + 3) 74 66 [some (.ref 19), some (.ref b), some (.int (Int32.ofInt (one : Int))), some (.int (Int32.ofInt (r : Int))), o4, o5, some (.int (Int32.ofInt (p.2.2.2.2.2.1 : Int))), some (.int (Int32.ofInt (p.2.2.2.2.1 : Int))), some (.int (Int32.ofInt (p.1 : Int))), some (.int (Int32.ofInt (p.2.2.2.2.2.2.1))), o10, o11, o12, o13] [] (V1, T) Q := by
  have hb2 := zSt_lt b hb
  obtain ⟨sz, rn, ap, ln, pl, st, tot, tk⟩ := p
  obtain ⟨h1, h2, h3, h4, h5⟩ := hp
  have hG' := hG
  obtain ⟨g1, g2, g3, g4⟩ := hG
  dsimp only at h1 h2 h3 h4 h5 g1 g2 g3 g4
  by_cases h0 : sz = 0
  · have e : yClose w S one (sz, rn, ap, ln, pl, st, tot, tk) = (sz, rn, ap, ln, pl, st, tot, tk) := by
      unfold yClose; rw [if_pos h0]
    rw [e] at K
    apply b74_66 hF
    · intro _
      exact K V1 _ _ _ hG'
    · intro c
      simp (disch := omega) only [zI_le, zI_0] at c
      exfalso; omega
  · have e : yClose w S one (sz, rn, ap, ln, pl, st, tot, tk) = (0, rn + 1, (yCl ((ap : Int) + yT w S one sz rn ap ln) 0 999).toNat, ((ln : Int) - yT w S one sz rn ap ln).toNat, ((pl : Int) + (sz - yT w S one sz rn ap ln)).toNat, st, tot + yT w S one sz rn ap ln, fun j => if j = rn then yT w S one sz rn ap ln else tk j) := by
      unfold yClose; rw [if_neg h0]
    rw [e] at K
    dsimp only at K
    have hwS : zWg (zu (zu S 0 r ln) 4 one ap) := by
      intro i hi
      have := hW i hi
      refine ⟨?_, ?_, ?_⟩
      · rw [zu_ne (by omega), zu_ne (by omega)]; exact this.1
      · rw [zu_ne (by omega), zu_ne (by omega)]; exact this.2.1
      · rw [zu_at]
        split
        · exact h2
        · rw [zu_ne (by omega)]; exact this.2.2
    have hln : V1 (b + 1) r = Int32.ofInt (ln : Int) := by
      have := g1.1 r hr
      rw [zu_ne (by omega), zuN_at] at this
      exact this
    have hap : V1 (b + 5) one = Int32.ofInt (ap : Int) := by
      have := g1.2.2.2.2.1 one ho
      rw [zuN_at] at this
      exact this
    have hR1 : zRu V1 n w := zRu_fr hR (fun a ha => g4 a (by omega) (by omega) (by omega) (by omega) (by omega))
    have hru1 : (zu (zu S 0 r ln) 4 one ap) 5 2 < n := by
      rw [zu_ne (by omega), zu_ne (by omega)]; exact hru
    have etk : yTk w (zu (zu S 0 r ln) 4 one ap) one sz rn ln = yTk w (zu S 4 one ap) one sz rn ln := by
      unfold yTk
      rw [zuN_at, zuN_at]
      simp (disch := omega) only [zu_ne]
    have ewn : ∀ v, yWant (zu (zu S 0 r ln) 4 one ap) one sz v = yWant (zu S 4 one ap) one sz v := by
      intro v
      unfold yWant
      rw [zuN_at, zuN_at]
      simp (disch := omega) only [zu_ne]
    have ht := yT_in (w := w) (S := S) (one := one) (g := sz) (nth := rn) (ap := ap) (ln := ln) (hW one ho).2.1 h3
    have hv := yTk_in w (zu S 4 one ap) one sz rn ln
    have hwn := yWant_in (S := zu S 4 one ap) (one := one) (g := sz) (v := yTk w (zu S 4 one ap) one sz rn ln) (by rw [zu_ne (by omega)]; exact (hW one ho).2.1)
    apply b74_66 hF
    · intro c
      simp (disch := omega) only [zI_le, zI_0] at c
      exfalso; omega
    · intro _
      apply b74_71 hF hb (i1 := r) (zI_nat r) hr (i2 := r) (zI_nat r) hr
      rw [hln, g2]
      apply s38 hF hb g1 hwS hR1 hru1 ho
      intro V2 hV2
      rw [etk]
      apply b74_103 hF hb
      have g1' : zCS b V2 (zu (zu S 0 r ln) 4 one ap) := zCS_fr g1 (fun a _ _ => hV2 a (by omega) (by omega))
      apply s39 hF hb g1' hwS ho (by omega) hv
      rw [ewn]
      apply b74_115 hF hb
      rw [zI_sub, zI_neg, zI_max (by omega) (by omega)]
      have et : (if yWant (zu S 4 one ap) one sz (yTk w (zu S 4 one ap) one sz rn ln) < -(24 - (ln : Int)) then -(24 - (ln : Int)) else yWant (zu S 4 one ap) one sz (yTk w (zu S 4 one ap) one sz rn ln)) = yT w S one sz rn ap ln := rfl
      rw [et]
      generalize hteq : yT w S one sz rn ap ln = t at *
      have hc := yCl_in (v := (ap : Int) + t) (show (0 : Int) ≤ 999 by omega)
      apply s75 hF hb (ln := ln) (ap := ap) (rn := rn) ho hr h3 h2 (by omega) (by omega) (by rw [hV2 _ (by omega) (by omega)]; exact hln) (by rw [hV2 _ (by omega) (by omega)]; exact hap) (by rw [hV2 _ (by omega) (by omega)]; exact g2)
      apply b74_132 hF
      simp only [zI_sub, zI_add]
      have K' := K (zu (zu (zu (zu V2 (b + 1) r (Int32.ofInt ((ln : Int) - t))) (b + 5) one (Int32.ofInt (yCl ((ap : Int) + t) 0 999))) 42 rn (Int32.ofInt t)) 19 2 (Int32.ofInt ((rn : Int) + 1)))
      rw [Int.toNat_of_nonneg (show 0 ≤ (pl : Int) + (sz - t) by omega)] at K'
      apply K'
      refine ⟨?_, ?_, ?_, ?_⟩
      · dsimp only
        refine zCS_gl g1' ?_ ?_ ?_
        · intro j
          simp (disch := omega) only [zu_ne]
          rw [zu_at, Int.toNat_of_nonneg (by omega)]
        · intro j
          rw [zu_ne (by omega), zu_ne (by omega), zu_at, zu_ne (by omega), Int.toNat_of_nonneg (by omega)]
        · intro a ha
          simp (disch := omega) only [zu_ne]
      · dsimp only
        rw [zuN_at]
        rfl
      · dsimp only
        intro j hj
        rw [zu_ne (by omega), zu_at]
        by_cases hjr : j = rn
        · rw [if_pos hjr, if_pos hjr]
        · rw [if_neg hjr, if_neg hjr]
          simp (disch := omega) only [zu_ne]
          rw [hV2 _ (by omega) (by omega)]
          exact g3 j (by omega)
      · intro a a1 a2 a3 a4 a5
        simp (disch := omega) only [zu_ne]
        rw [hV2 _ a3 a4]
        exact g4 a a1 a2 a3 a4 a5
