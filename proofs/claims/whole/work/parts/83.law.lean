/-! The law: its loop -/
theorem zLaw {x : zXs} {F : zF} (hF : zSh F) {d : Nat} {Q : Option Value → zG → Prop} (hL : x.1 ≤ 3072) (hQ : ∀ V T, Q (some (.int (Int32.ofInt (1)))) (V, T)) : ∀ (m p : Nat) (P : Int) (V : Nat → Nat → Int32) (T : Nat → Nat → Int64), P = p → x.1 ≤ p + m → p ≤ x.1 + 6 → zRel V → E x F (d + 61) 211 18 [some (.double 50), some (.ref 0), some (.ref 59), some (.int (Int32.ofInt (P)))] [] (V, T) Q := by
  have ex : nI x.1 = Int32.ofInt (x.1 : Int) := (zI_nat x.1).symm
  intro m
  induction m with
  | zero =>
    intro p P V T hP hm hp hr
    subst hP
    apply b211_18 hF hL
    · intro _
      exact b211_1253 hF (hQ V T)
    · rw [ex, zI_sub]
      intro c
      simp (disch := omega) only [zI_lt] at c
      exfalso; omega
  | succ m ih =>
    intro p P V T hP hm hp hr
    subst hP
    apply b211_18 hF hL
    · intro _
      exact b211_1253 hF (hQ V T)
    rw [ex, zI_sub]
    intro c
    simp (disch := omega) only [zI_lt] at c
    have h6 : p + 6 ≤ x.1 := by omega
    have nxt : ∀ V2 T2, zRel V2 → E x F (d + 61) 211 1247 [some (.double 50), some (.ref 0), some (.ref 59), some (.int (Int32.ofInt ((p:Int))))] [] (V2, T2) Q := by
      intro V2 T2 hr2
      apply b211_1247 hF
      rw [zI_add]
      exact ih (p + 6) _ V2 T2 (by omega) (by omega) (by omega) hr2
    apply b211_27 hF hL (i1 := p) (zI_nat p) (by omega)
    · intro _; exact zk0 hF hL h6 hr nxt
    · intro _; exact zk1 hF hL h6 hr nxt
    · intro _; exact zk2 hF hL h6 hr nxt
    · intro _; exact zk3 hF hL h6 hr nxt
    · intro _; exact zk4 hF hL h6 hr nxt
    · intro _; exact zk5 hF hL h6 hr nxt
    · intro _; exact zk6 hF hL h6 hr nxt
    · intro _; exact zk7 hF hL h6 hr nxt
    · intro _; exact zk8 hF hL h6 hr nxt
    · intro _; exact zk9 hF hL h6 hr nxt
    · intro _; exact zk10 hF hL h6 hr nxt
    · intro _; exact zk11 hF hL h6 hr nxt
    · intro _; exact zk12 hF hL h6 hr nxt
    · intro _; exact zk13 hF hL h6 hr nxt
    · intro _; exact zk14 hF hL h6 hr nxt
    · intro _; exact zk15 hF hL h6 hr nxt
    · intro _; exact zk16 hF hL h6 hr nxt
    · intro _; exact zk17 hF hL h6 hr nxt
    · intro _; exact zk18 hF hL h6 hr nxt
    · intro _; exact zk19 hF hL h6 hr nxt
    · intro _; exact zk20 hF hL h6 hr nxt
    · intro _; exact zk21 hF hL h6 hr nxt
    · intro _; exact zk22 hF hL h6 hr nxt
    · intro _; exact zk23 hF hL h6 hr nxt
    · intro _; exact zk24 hF hL h6 hr nxt
    · intro _; exact zk25 hF hL h6 hr nxt
    · intro _; exact zk26 hF hL h6 hr nxt
    · intro _; exact zk27 hF hL h6 hr nxt
    · intro _; exact zk28 hF hL h6 hr nxt
    · intro _; exact zk29 hF hL h6 hr nxt
    · intro _; exact zk30 hF hL h6 hr nxt
    · intro _; exact nxt V T hr
/-- what stands at the start -/
theorem zGz_c : ((List.range 4).all (fun j => zGz.1 2 j == Int32.ofInt 0 && zGz.1 3 j == Int32.ofInt 0 && zGz.1 14 j == Int32.ofInt 0 && zGz.1 15 j == Int32.ofInt 0 && zGz.1 (51 + 2 * j) 1 == Int32.ofInt (-1) && zGz.1 (51 + 2 * j) 2 == Int32.ofInt 0 && zGz.1 77 j == Int32.ofInt 0)) = true ∧ ((List.range 5).all (fun j => zGz.1 4 j == Int32.ofInt 0 && zGz.1 5 j == Int32.ofInt 0 && zGz.1 6 j == Int32.ofInt 0 && zGz.1 16 j == Int32.ofInt 0 && zGz.1 17 j == Int32.ofInt 0 && zGz.1 18 j == Int32.ofInt 0 && zGz.1 63 j == Int32.ofInt 0 && zGz.1 64 j == Int32.ofInt 0 && zGz.1 65 j == Int32.ofInt 0 && zGz.1 66 (2 * j) == Int32.ofInt 0 && zGz.1 66 (2 * j + 1) == Int32.ofInt 0)) = true ∧ ((List.range 3).all (fun j => zGz.1 1 (5 + j) == Int32.ofInt 0 && zGz.1 13 (5 + j) == Int32.ofInt 0)) = true ∧ ((zGz.1 59 12 == Int32.ofInt 0 && zGz.1 59 7 == Int32.ofInt 0 && zGz.1 59 4 == Int32.ofInt 0 && zGz.1 59 40 == Int32.ofInt (-1) && zGz.1 0 8 == Int32.ofInt 0) = true) := by decide +kernel
