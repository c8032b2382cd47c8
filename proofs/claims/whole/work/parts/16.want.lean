/-! What one takes of a run, and keeps over a night -/
def yWid (g : Nat) (v : Int) : Int := if g % 2 = 1 then v + 1 else v
def yWant (S : Nat → Nat → Nat) (one g : Nat) (v : Int) : Int :=
  if S 2 one = 1 then yCl (yWid g v) 0 g
  else if S 2 one = 2 then g
  else if S 2 one = 3 then (if g = 1 then 0 else yCl (yWid g v) 0 g)
  else if S 2 one = 4 then (if S 3 one ≤ S 4 one then -(S 3 one : Int) else g)
  else if S 2 one = 5 then yCl (v / 2) 0 g
  else yCl v 0 g
def yKept (w : Nat → Nat → (Nat → Int32) → Int32) (S : Nat → Nat → Nat) (one : Nat) : Int :=
  if S 2 one = 2 then S 4 one
  else if S 2 one = 3 then yCl (S 4 one * yKp w S one / 100 - S 3 one) 0 999
  else if S 2 one = 4 then S 4 one / 2
  else if S 2 one = 5 then 0
  else S 4 one * yKp w S one / 100
theorem s40 {x : zXs} {F : zF} (hF : zSh F) {d : Nat} {V : Nat → Nat → Int32} {T : Nat → Nat → Int64} {Q : Option Value → zG → Prop} {g : Nat} {v : Int} (hg : g ≤ 24) (k : Q (some (.int (Int32.ofInt (yWid g v)))) (V, T)) : E x F d 40 0 [some (.int (Int32.ofInt (g : Int))), some (.int (Int32.ofInt v))] [] (V, T) Q := by
  unfold yWid at k
  apply b40_0 hF
  · simp (disch := omega) only [zI_div, zI_mul, zI_sub, zI_eq]
    intro c
    rw [if_neg (by omega)] at k
    exact b40_13 hF (b40_14 hF k)
  · simp (disch := omega) only [zI_div, zI_mul, zI_sub, zI_eq, Decidable.not_not]
    intro c
    rw [if_pos (by omega)] at k
    apply b40_7 hF
    rw [zI_add]
    exact b40_14 hF k
theorem s39 {x : zXs} {F : zF} (hF : zSh F) {d : Nat} {V : Nat → Nat → Int32} {T : Nat → Nat → Int64} {Q : Option Value → zG → Prop} {b : Nat} (hb : zSt b) {S : Nat → Nat → Nat} (hS : zCS b V S) (hW : zWg S) {one g : Nat} (ho : one < 5) (hg : g ≤ 24) {v : Int} (hv : 0 ≤ v ∧ v ≤ 99) {o5 : Option Value} (k : Q (some (.int (Int32.ofInt (yWant S one g v)))) (V, T)) : E x F (d + 1) 39 0 [some (.ref 19), some (.ref b), some (.int (Int32.ofInt (one : Int))), some (.int (Int32.ofInt (g : Int))), some (.int (Int32.ofInt v)), o5] [] (V, T) Q := by
  unfold yWant at k
  have hk := (hW one ho).1
  have hn := (hW one ho).2.1
  have ha := (hW one ho).2.2
  have hwd : 0 ≤ yWid g v ∧ yWid g v ≤ 100 := by unfold yWid; split <;> omega
  apply b39_0 hF hb (i1 := one) (zI_nat one) ho (i2 := one) (zI_nat one) ho
  all_goals rw [hS.2.2.1 one ho, hS.2.2.2.1 one ho]
  all_goals simp (disch := omega) only [zI_eq]
  all_goals intro c
  · rw [if_pos (by omega)] at k
    apply b39_48 hF
    apply s40 hF hg
    apply b39_54 hF
    apply s30c hF (by omega) (by omega) (by omega)
    exact b39_59 hF k
  · rw [if_neg (by omega), if_pos (by omega)] at k
    exact b39_60 hF k
  · rw [if_neg (by omega), if_neg (by omega), if_pos (by omega)] at k
    apply b39_62 hF
    · simp (disch := omega) only [zI_eq]
      intro c2
      rw [if_neg (by omega)] at k
      apply b39_71 hF
      apply s40 hF hg
      apply b39_77 hF
      apply s30c hF (by omega) (by omega) (by omega)
      exact b39_82 hF k
    · simp (disch := omega) only [zI_eq, Decidable.not_not]
      intro c2
      rw [if_pos (by omega)] at k
      exact b39_67 hF (b39_82 hF k)
  · rw [if_neg (by omega), if_neg (by omega), if_neg (by omega), if_pos (by omega)] at k
    apply b39_83 hF hb (i1 := one) (zI_nat one) ho
    all_goals rw [hS.2.2.2.2.1 one ho]
    all_goals simp (disch := omega) only [zI_lt]
    all_goals intro c2
    · rw [if_neg (by omega)] at k
      exact b39_100 hF (b39_101 hF k)
    · rw [if_pos (by omega)] at k
      apply b39_94 hF
      rw [zI_neg]
      exact b39_101 hF k
  · rw [if_neg (by omega), if_neg (by omega), if_neg (by omega), if_neg (by omega), if_pos (by omega)] at k
    apply b39_102 hF
    rw [zI_div (by omega) (by omega)]
    apply s30c hF (by omega) (by omega) (by omega)
    exact b39_111 hF k
  · rw [if_neg (by omega), if_neg (by omega), if_neg (by omega), if_neg (by omega), if_neg (by omega)] at k
    apply b39_112 hF
    apply s30c hF (by omega) (by omega) (by omega)
    exact b39_119 hF k
theorem zCS_fr {b : Nat} {V V' : Nat → Nat → Int32} {S : Nat → Nat → Nat} (h : zCS b V S) (hf : ∀ a, b ≤ a → a ≤ b + 5 → V' a = V a) : zCS b V' S := by
  obtain ⟨h0, h1, h2, h3, h4, h5, h6, h7⟩ := h
  have g0 := hf b (by omega) (by omega)
  have g1 := hf (b + 1) (by omega) (by omega)
  have g2 := hf (b + 2) (by omega) (by omega)
  have g3 := hf (b + 3) (by omega) (by omega)
  have g4 := hf (b + 4) (by omega) (by omega)
  have g5 := hf (b + 5) (by omega) (by omega)
  refine ⟨?_, ?_, ?_, ?_, ?_, ?_, ?_, ?_⟩
  · rw [g1]; exact h0
  · rw [g2]; exact h1
  · rw [g3]; exact h2
  · rw [g4]; exact h3
  · rw [g5]; exact h4
  · rw [g0]; exact h5
  · rw [g0]; exact h6
  · rw [g0]; exact h7
theorem yKp_in (w : Nat → Nat → (Nat → Int32) → Int32) (S : Nat → Nat → Nat) (one : Nat) : 0 ≤ yKp w S one ∧ yKp w S one ≤ 100 := yCl_in (by omega)
theorem yTk_in (w : Nat → Nat → (Nat → Int32) → Int32) (S : Nat → Nat → Nat) (one g nth len : Nat) : 0 ≤ yTk w S one g nth len ∧ yTk w S one g nth len ≤ 99 := yCl_in (by omega)
theorem ySh_in (w : Nat → Nat → (Nat → Int32) → Int32) (S : Nat → Nat → Nat) (r : Nat) : 0 ≤ ySh w S r ∧ ySh w S r ≤ 9 := yCl_in (by omega)
theorem yKpm_in {S : Nat → Nat → Nat} (hW : zWg S) (w : Nat → Nat → (Nat → Int32) → Int32) {one : Nat} (ho : one < 5) : 0 ≤ (S 4 one : Int) * yKp w S one ∧ (S 4 one : Int) * yKp w S one ≤ 99900 := by
  have ha := (hW one ho).2.2
  have h1 := yKp_in w S one
  constructor
  · exact Int.mul_nonneg (by omega) h1.1
  · have := Int.mul_le_mul (a := (S 4 one : Int)) (b := yKp w S one) (c := 999) (d := 100) (by omega) h1.2 h1.1 (by omega)
    omega
theorem s24 {x : zXs} {F : zF} (hF : zSh F) {d : Nat} {V : Nat → Nat → Int32} {T : Nat → Nat → Int64} {Q : Option Value → zG → Prop} {b : Nat} (hb : zSt b) {S : Nat → Nat → Nat} (hS : zCS b V S) (hW : zWg S) {n : Nat} {w : Nat → Nat → (Nat → Int32) → Int32} (hR : zRu V n w) (hru : S 5 2 < n) {one : Nat} (ho : one < 5) {o3 o4 : Option Value} (k : ∀ V', (∀ a, a ≠ 22 → a ≠ 23 → V' a = V a) → Q (some (.int (Int32.ofInt (yKept w S one)))) (V', T)) : E x F (d + 3) 24 0 [some (.ref 19), some (.ref b), some (.int (Int32.ofInt (one : Int))), o3, o4] [] (V, T) Q := by
  have hb2 := zSt_lt b hb
  unfold yKept at k
  have hk := (hW one ho).1
  have hn := (hW one ho).2.1
  have ha := (hW one ho).2.2
  have hm := yKpm_in hW w ho
  apply b24_0 hF hb (i1 := one) (zI_nat one) ho
  rw [hS.2.2.2.2.1 one ho]
  apply s25 hF hb hS hW hR hru ho
  intro V' hV'
  have hS' : zCS b V' S := zCS_fr hS (fun a h1 h2 => hV' a (by omega) (by omega))
  have k' := k V' hV'
  apply b24_17 hF hb (i1 := one) (zI_nat one) ho
  all_goals rw [hS'.2.2.1 one ho]
  all_goals simp (disch := omega) only [zI_eq, zI_mul, zI_div]
  all_goals intro c
  · rw [if_pos (by omega)] at k'
    exact b24_60 hF k'
  · rw [if_neg (by omega), if_pos (by omega)] at k'
    apply b24_62 hF hb (i1 := one) (zI_nat one) ho
    rw [hS'.2.2.2.1 one ho, zI_sub]
    apply s30c hF (by omega) (by omega) (by omega)
    exact b24_78 hF k'
  · rw [if_neg (by omega), if_neg (by omega), if_pos (by omega)] at k'
    apply b24_79 hF
    rw [zI_div (by omega) (by omega)]
    exact k'
  · rw [if_neg (by omega), if_neg (by omega), if_neg (by omega), if_pos (by omega)] at k'
    exact b24_83 hF k'
  · rw [if_neg (by omega), if_neg (by omega), if_neg (by omega), if_neg (by omega)] at k'
    exact b24_85 hF k'
