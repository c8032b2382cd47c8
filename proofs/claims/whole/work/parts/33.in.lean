/-! The reference: bounds -/
theorem zJ_toInt {a : Int} (h : -2147483648 ≤ a ∧ a ≤ 2147483647) : (Int64.ofInt a).toInt = a := Int64.toInt_ofInt_of_le (by omega) (by omega)
theorem zJ_of {a : Int} (h : -2147483648 ≤ a ∧ a ≤ 2147483647) : (Int32.ofInt a).toInt64 = Int64.ofInt a := by
  apply Int64.toInt_inj.mp
  rw [Int32.toInt_toInt64, zI_toInt h.1 h.2, zJ_toInt h]
theorem s132 {x : zXs} {F : zF} (hF : zSh F) {d : Nat} {V : Nat → Nat → Int32} {T : Nat → Nat → Int64} {Q : Option Value → zG → Prop} {v lo hi : Int} (hv : -2147483648 ≤ v ∧ v ≤ 2147483647) (h1 : -2147483648 ≤ lo ∧ lo ≤ 2147483647) (h2 : -2147483648 ≤ hi ∧ hi ≤ 2147483647) {o1 o3 o5 : Option Value} (k1 : lo ≤ v ∧ v ≤ hi → Q (some (.int (Int32.ofInt 1))) (V, T)) (k0 : ¬ (lo ≤ v ∧ v ≤ hi) → Q (some (.int (Int32.ofInt 0))) (V, T)) : E x F d 132 0 [some (.long (Int64.ofInt v)), o1, some (.long (Int64.ofInt lo)), o3, some (.long (Int64.ofInt hi)), o5] [] (V, T) Q := by
  apply b132_0 hF
  · rw [lg_cmp_lt, Int64.lt_iff_toInt_lt, zJ_toInt hv, zJ_toInt h1]
    intro c
    exact b132_17 hF (b132_18 hF zNb0 (k0 (by omega)))
  · rw [lg_cmp_lt, Int64.lt_iff_toInt_lt, zJ_toInt hv, zJ_toInt h1]
    intro c
    apply b132_6 hF
    · rw [lg_cmp_gt, Int64.lt_iff_toInt_lt, zJ_toInt hv, zJ_toInt h2]
      intro c2
      exact b132_17 hF (b132_18 hF zNb0 (k0 (by omega)))
    · rw [lg_cmp_gt, Int64.lt_iff_toInt_lt, zJ_toInt hv, zJ_toInt h2]
      intro c2
      exact b132_13 hF (b132_18 hF zNb1 (k1 (by omega)))
theorem s131 {x : zXs} {F : zF} (hF : zSh F) {d : Nat} {V : Nat → Nat → Int32} {T : Nat → Nat → Int64} {Q : Option Value → zG → Prop} {v : Int} (hv : -2147483648 ≤ v ∧ v ≤ 2147483647) (k1 : 0 ≤ v ∧ v ≤ 3 → Q (some (.int (Int32.ofInt 1))) (V, T)) (k0 : ¬ (0 ≤ v ∧ v ≤ 3) → Q (some (.int (Int32.ofInt 0))) (V, T)) : E x F (d + 1) 131 0 [some (.int (Int32.ofInt v))] [] (V, T) Q := by
  apply b131_0 hF
  rw [zJ_of hv]
  apply s132 hF (lo := 0) (hi := 3) hv (by omega) (by omega)
  · intro c
    exact b131_9 hF zNb1 (k1 c)
  · intro c
    exact b131_9 hF zNb0 (k0 c)
theorem s136 {x : zXs} {F : zF} (hF : zSh F) {d : Nat} {V : Nat → Nat → Int32} {T : Nat → Nat → Int64} {Q : Option Value → zG → Prop} {S : Nat → Nat → Nat} (hS : zMS V S) (h5 : S 5 0 ≤ 5) {v : Int} (hv : -2147483648 ≤ v ∧ v ≤ 2147483647) (k1 : 0 ≤ v ∧ v < S 5 0 → Q (some (.int (Int32.ofInt 1))) (V, T)) (k0 : ¬ (0 ≤ v ∧ v < S 5 0) → Q (some (.int (Int32.ofInt 0))) (V, T)) : E x F (d + 1) 136 0 [some (.ref 59), some (.int (Int32.ofInt v))] [] (V, T) Q := by
  apply b136_0 hF
  rw [hS.2.2.2.2.2.1, zI_sub, zJ_of hv, zJ_of (by omega)]
  apply s132 hF (lo := 0) (hi := (S 5 0 : Int) - 1) hv (by omega) (by omega)
  · intro c
    exact b136_13 hF zNb1 (k1 (by omega))
  · intro c
    exact b136_13 hF zNb0 (k0 (by omega))
