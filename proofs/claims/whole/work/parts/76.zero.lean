/-! Text 0 -/
def zB0 (i : Nat) : Nat := [116, 97, 107, 101, 115, 32, 103, 97, 112, 32, 59, 32, 107, 101, 101, 112, 115, 32, 53, 48, 32, 59, 32, 115, 104, 97, 107, 101, 115, 32, 48, 32, 59, 32, 32, 32, 32, 32, 32, 32].getD i 0
theorem yMk_at {b : Nat → Nat} {n : Nat} {sub : Option (yP × yP × yP)} {g : yL} {R : yL × List Nat × yS} (h9 : ¬ g.1 = 9) (h : yOneF b n sub g = R) (hR : R.1.1 = 59) : (yMk b n sub).2.2 g = R := by
  have h2 : yTermF b n (yOneF b n sub) g = R := by
    unfold yTermF
    rw [h]
    exact yLp_no (by rw [hR]; rfl) 160
  have h3 : ySumF b n (yTermF b n (yOneF b n sub)) g = R := by
    unfold ySumF
    rw [h2]
    exact yLp_no (by rw [hR]; rfl) 160
  have h4 : yDenF b n sub (ySumF b n (yTermF b n (yOneF b n sub))) g = R := by
    unfold yDenF
    rw [if_neg h9, h3, if_neg (by omega)]
  have h5 : yBothF b n (yDenF b n sub (ySumF b n (yTermF b n (yOneF b n sub)))) g = R := by
    unfold yBothF
    rw [h4]
    exact yLp_no (by rw [hR]; rfl) 160
  show yEithF b n (yBothF b n (yDenF b n sub (ySumF b n (yTermF b n (yOneF b n sub))))) g = _
  unfold yEithF
  rw [h5]
  exact yLp_no (by rw [hR]; rfl) 160
theorem yLv_at {b : Nat → Nat} {n q : Nat} {g : yL} {R : yL × List Nat × yS} (h9 : ¬ g.1 = 9) (h : ∀ sub, yOneF b n sub g = R) (hR : R.1.1 = 59) : (yLv b n q).2.2 g = R := by
  cases q with
  | zero => rw [yLv]; exact yMk_at h9 (h _) hR
  | succ q => rw [yLv]; exact yMk_at h9 (h _) hR
theorem yPt_at {b : Nat → Nat} {n p : Nat} {g g1 : yL} {R : yL × List Nat × yS} (h1 : yExp b n (4 + p) g = g1) (h9 : ¬ g1.1 = 9) (h : ∀ sub, yOneF b n sub g1 = R) (hR : R.1.1 = 59) {g2 : yL} (h2 : yExp b n 59 R.1 = g2) : yPt b n p g = (g2, R.2.1, R.2.2) := by
  unfold yPt
  rw [h1, yLv_at (q := 5) h9 h hR, h2]
theorem zB0_1 : yX1 zB0 40 = ((5, 7, 12, 17, 0), [0], fun e => e 0) := by
  unfold yX1
  have h0 : yTok zB0 40 0 = (4, 6, 0, 5, 0) := by decide +kernel
  rw [h0]
  refine yPt_at (g1 := (3, 0, 6, 9, 0)) (R := ((59, 0, 10, 11, 0), [0], fun e => e 0)) (by decide +kernel) (by decide) (fun sub => ?_) rfl (by decide +kernel)
  unfold yOneF
  rw [if_neg (by decide), if_pos rfl]
  have : yAdv zB0 40 (3, 0, 6, 9, 0) = (59, 0, 10, 11, 0) := by decide +kernel
  rw [this]
theorem zB0_2 : yX2 zB0 40 = ((6, 8, 23, 29, 0), [150], fun _ => Int32.ofInt ((50 : Nat) : Int)) := by
  unfold yX2
  rw [zB0_1]
  refine yPt_at (g1 := (2, 50, 18, 20, 0)) (R := ((59, 0, 21, 22, 0), [150], fun _ => Int32.ofInt ((50 : Nat) : Int))) (by decide +kernel) (by decide) (fun sub => ?_) rfl (by decide +kernel)
  unfold yOneF
  rw [if_pos rfl]
  have : yAdv zB0 40 (2, 50, 18, 20, 0) = (59, 0, 21, 22, 0) := by decide +kernel
  rw [this]
  rfl
theorem zB0_3 : yX3 zB0 40 = ((0, 0, 40, 40, 0), [100], fun _ => Int32.ofInt ((0 : Nat) : Int)) := by
  unfold yX3
  rw [zB0_2]
  refine yPt_at (g1 := (2, 0, 30, 31, 0)) (R := ((59, 0, 32, 33, 0), [100], fun _ => Int32.ofInt ((0 : Nat) : Int))) (by decide +kernel) (by decide) (fun sub => ?_) rfl (by decide +kernel)
  unfold yOneF
  rw [if_pos rfl]
  have : yAdv zB0 40 (2, 0, 30, 31, 0) = (59, 0, 32, 33, 0) := by decide +kernel
  rw [this]
  rfl
theorem zB0_f : yXf zB0 40 = 0 := by
  unfold yXf yXE
  rw [zB0_3]
  decide +kernel
/-- what text 0 tells -/
def zW0 (_ p : Nat) (e : Nat → Int32) : Int32 := yXv zB0 40 p e
theorem zW0_v (t : Nat) (e : Nat → Int32) : zW0 t 0 e = e 0 ∧ zW0 t 1 e = Int32.ofInt ((50 : Nat) : Int) ∧ zW0 t 2 e = Int32.ofInt ((0 : Nat) : Int) := by
  unfold zW0 yXv
  rw [zB0_1, zB0_2, zB0_3]
  exact ⟨rfl, rfl, rfl⟩
theorem zRt_0 {V : Nat → Nat → Int32} (h1 : V 61 0 = Int32.ofInt 40) (h2 : ∀ i, i < 40 → V 60 i = Int32.ofInt (zB0 i : Int)) : zRt V 1 zW0 := by
  refine ⟨by omega, fun t ht => ?_⟩
  have h0 : t = 0 := by omega
  subst h0
  have hb : ∀ i, i < 40 → zB0 i ≤ 255 := by decide +kernel
  exact ⟨zB0, 40, h1, by omega, fun i hi => ⟨by rw [Nat.mul_zero, Nat.zero_add]; exact h2 i hi, hb i hi⟩, zB0_f, fun _ _ _ => rfl⟩
theorem zRu_0 {V : Nat → Nat → Int32} (h3 : V 20 3 = Int32.ofInt 1) (h0 : V 26 0 = Int32.ofInt 1 ∧ V 26 1 = Int32.ofInt 2 ∧ V 26 2 = Int32.ofInt 3) (hc : V 25 0 = Int32.ofInt 0 ∧ V 25 1 = Int32.ofInt 150 ∧ V 25 2 = Int32.ofInt 100) : zRu V 1 zW0 := by
  refine ⟨h3, by omega, by omega, fun t ht => ?_⟩
  have ht0 : t = 0 := by omega
  subst ht0
  refine ⟨fun i => if i = 0 then 0 else if i = 1 then 150 else 100, fun p => p + 1, fun p hp => ?_, by decide, by decide, by decide, fun i hi => ?_, fun p hp e f => ?_⟩
  · rcases (show p = 0 ∨ p = 1 ∨ p = 2 by omega) with rfl | rfl | rfl
    · exact h0.1
    · exact h0.2.1
    · exact h0.2.2
  · have hi : i < 3 := hi
    rcases (show i = 0 ∨ i = 1 ∨ i = 2 by omega) with rfl | rfl | rfl
    · exact ⟨hc.1, by decide⟩
    · exact ⟨hc.2.1, by decide⟩
    · exact ⟨hc.2.2, by decide⟩
  · have hv := zW0_v 0 e
    have one : ∀ c, (c < 6 ∨ 100 ≤ c) → (yStep e c (0, f)).2 0 = if c < 6 then e c else Int32.ofInt ((c : Int) - 100) := by
      intro c hc
      unfold yStep
      rw [if_pos ⟨hc, by dsimp only; omega⟩]
      show (if 0 = 0 then (if c < 6 then e c else Int32.ofInt ((c : Int) - 100)) else f 0) = _
      rw [if_pos rfl]
    rcases (show p = 0 ∨ p = 1 ∨ p = 2 by omega) with rfl | rfl | rfl
    · rw [hv.1]
      exact (one 0 (by omega)).trans rfl
    · rw [hv.2.1]
      exact (one 150 (by omega)).trans rfl
    · rw [hv.2.2]
      exact (one 100 (by omega)).trans rfl
/-- the heap behind the constructors: what the texts need -/
theorem zGz_t : ([(20, 3, 1), (26, 0, 1), (26, 1, 2), (26, 2, 3), (25, 0, 0), (25, 1, 150), (25, 2, 100), (61, 0, 40), (59, 3, 1), (59, 6, 0), (45, 1, 0)] : List (Nat × Nat × Nat)).all (fun q => zGz.1 q.1 q.2.1 == Int32.ofInt (q.2.2 : Int)) = true ∧ (List.range 40).all (fun i => zGz.1 60 i == Int32.ofInt (zB0 i : Int)) = true := by decide +kernel
