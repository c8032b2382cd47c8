/-! first, best: the reference -/
theorem s185t {x : zXs} {F : zF} (hF : zSh F) {d : Nat} {V : Nat → Nat → Int32} {T : Nat → Nat → Int64} {Q : Option Value → zG → Prop} {S : Nat → Nat → Nat} (hS : zMS V S) (hW : zWf S) {n : Nat} {w : Nat → Nat → (Nat → Int32) → Int32} (hR : zRd x F V n w) (hru : S 5 2 < n) {r : Nat} (hr : r < 4) {who : Int} (hwho : -1 ≤ who ∧ who ≤ 5) (k : ∀ V2 T2, zMS V2 S → yFr V V2 → V2 59 35 = Int32.ofInt (yBd (yBO w S r who)) → V2 59 36 = Int32.ofInt (yBv (yBO w S r who)) → Q none (V2, T2)) : E x F (d + 59) 185 0 [some (.ref 59), some (.int (Int32.ofInt ((r:Int)))), some (.int (Int32.ofInt (who))), some (.int (Int32.ofInt (0))), some (.int (Int32.ofInt (0))), some (.int (Int32.ofInt (0))), none, none, none, none, none] [] (zu (zu V 59 35 (Int32.ofInt (-1))) 59 36 (Int32.ofInt 0), T) Q := by
  have h5 := hW.2.2.1
  obtain ⟨ps, e1, e2, e3, e4⟩ := yDf_cons h5
  have hS1 : zMS (zu (zu V 59 35 (Int32.ofInt (-1))) 59 36 (Int32.ofInt 0)) S := zMS_fr hS (by rw [zu_ne (by omega), zu_ne (by omega)]) (by rw [zu_ne (by omega), zu_ne (by omega)]) (by rw [zu_ne (by omega), zu_ne (by omega)]) (by rw [zu_ne (by omega), zu_ne (by omega)]) (fun j hj => by rw [zuN_nk (by omega), zuN_nk (by omega)])
  have hf1 : yFr V (zu (zu V 59 35 (Int32.ofInt (-1))) 59 36 (Int32.ofInt 0)) := ⟨fun a h1 _ => by rw [zu_ne h1, zu_ne h1], fun j hj => by rw [zuN_nk (by omega), zuN_nk (by omega)]⟩
  have hB1 : zBr (zu (zu V 59 35 (Int32.ofInt (-1))) 59 36 (Int32.ofInt 0)) none := by
    unfold zBr
    dsimp only
    rw [zuN_nk (by omega), zuN_at]
  have A := s185 hF hR hW hru hr h5 rfl hwho (S 5 0) (d + (5 - S 5 0)) [] 0 _ T none Q (by simp) (fun f hf => absurd hf (by simp)) (Nat.two_pow_pos _) (fun f _ => by simp) (by rw [zpc_zero, Nat.zero_add]) hS1 hf1 hB1 (fun q v h => absurd h (by simp)) (fun V2 T2 h1 h2 h3 => by
    have eB : yBst (yVal w S r who) (yDf (S 5 0) (S 5 0) []) none = yBO w S r who := rfl
    rw [eB] at h3
    have g : ∃ b2, yBO w S r who = some b2 := by
      unfold yBO
      rw [e1]
      exact yBst_some _ ps _
    obtain ⟨⟨q, v⟩, hb⟩ := g
    have K := k V2 T2 h1 h2
    rw [hb] at h3 K
    exact K h3.1 h3.2) none none none none none
  rw [show d + (5 - S 5 0) + 54 + S 5 0 = d + 59 by omega] at A
  exact A
theorem s184 {x : zXs} {F : zF} (hF : zSh F) {d : Nat} {V : Nat → Nat → Int32} {T : Nat → Nat → Int64} {Q : Option Value → zG → Prop} {S : Nat → Nat → Nat} (hS : zMS V S) (hW : zWf S) {n : Nat} {w : Nat → Nat → (Nat → Int32) → Int32} (hR : zRd x F V n w) (hru : S 5 2 < n) {one row what : Int} (h_one : -2147483648 ≤ one ∧ one ≤ 2147483647) (h_row : -2147483648 ≤ row ∧ row ≤ 2147483647) (h_what : -2147483648 ≤ what ∧ what ≤ 2147483647) (k : ∀ V2 T2, zMS V2 S → yFr V V2 → Q (some (.int (Int32.ofInt (yFirst w S one row what)))) (V2, T2)) : E x F (d + 60) 184 0 [some (.ref 59), some (.int (Int32.ofInt (one))), some (.int (Int32.ofInt (row))), some (.int (Int32.ofInt (what)))] [] (V, T) Q := by
  have h5 := hW.2.2.1
  unfold yFirst at k
  have kb : ¬ ((0 ≤ one ∧ one < S 5 0) ∧ (0 ≤ row ∧ row ≤ 3) ∧ (0 ≤ what ∧ what ≤ 1)) → Q (some (.int (Int32.ofInt (-1000)))) (V, T) := by
    intro c
    rw [if_neg c] at k
    exact k V T hS (yFr_rfl V)
  repeat' (first
    | (intro c; (try simp (disch := omega) only [zI_lt, zI_le, zI_eq, zI_0, zI_add, zI_sub, zI_mul, zI_neg, Int.reduceNeg, Int.reduceAdd, Int.reduceSub, Int.reduceMul, Decidable.not_not, Int.not_lt, Int.not_le, not_true_eq_false, not_false_eq_true] at c); (try (exfalso; omega)))
    | simp only [zI_add, zI_sub, zI_mul, zI_neg]
    | apply s136 hF hS h5 h_one
    | apply s131 hF h_row
    | apply s132v hF h_what (lo := 0) (hi := 1) (by omega) (by omega)
    | apply b184_0 hF
    | apply b184_5 hF
    | apply b184_8 hF
    | apply b184_12 hF
    | apply b184_15 hF
    | apply b184_22 hF
    | apply b184_25 hF
    | apply b184_48 hF
    | apply b184_52 hF
    | apply b184_59 hF
    | apply b184_63 hF
    | exact kb (by omega)
    | with_reducible assumption
    | exact zI_nat _
    | exact zNb1
    | exact zNb0
    | omega
    | with_reducible rfl
    | exact zI_nI (by omega))
  have c : (0 ≤ one ∧ one < S 5 0) ∧ (0 ≤ row ∧ row ≤ 3) ∧ (0 ≤ what ∧ what ≤ 1) := by omega
  rw [if_pos c] at k
  obtain ⟨i, rfl⟩ : ∃ i : Nat, one = i := ⟨one.toNat, by omega⟩
  obtain ⟨r, rfl⟩ : ∃ r : Nat, row = r := ⟨row.toNat, by omega⟩
  rw [Int.toNat_natCast] at k
  apply b184_29 hF
  apply s185t hF hS hW hR hru (by omega) (by omega)
  intro V2 T2 hS2 f2 h35 h36
  have K := k V2 T2 hS2 f2
  apply b184_48 hF
  · intro c1
    simp (disch := omega) only [zI_eq, zI_0] at c1
    rw [if_neg c1] at K
    apply b184_59 hF
    rw [h36]
    exact b184_63 hF K
  · intro c1
    simp (disch := omega) only [zI_eq, zI_0, Decidable.not_not] at c1
    rw [if_pos c1] at K
    apply b184_52 hF
    rw [h35]
    exact b184_63 hF K
theorem s188l {x : zXs} {F : zF} (hF : zSh F) {d : Nat} {V : Nat → Nat → Int32} {T : Nat → Nat → Int64} {Q : Option Value → zG → Prop} {S : Nat → Nat → Nat} (hS : zMS V S) (hW : zWf S) {n : Nat} {w : Nat → Nat → (Nat → Int32) → Int32} (hR : zRd x F V n w) (hru : S 5 2 < n) {r : Nat} (hr : r < 4) {o2 : Option Value} : ∀ (m i : Nat) (V1 : Nat → Nat → Int32) (T1 : Nat → Nat → Int64) (P A B : Int), P = i → i + m = S 5 0 → A = (yFl w S r i).1 → B = (yFl w S r i).2 → zMS V1 S → yFr V V1 → (∀ V2 T2, zMS V2 S → yFr V V2 → ∀ o5 o6 : Option Value, E x F (d + 55) 188 52 [some (.ref 59), some (.int (Int32.ofInt ((r:Int)))), o2, some (.int (Int32.ofInt ((yFl w S r (S 5 0)).1))), some (.int (Int32.ofInt ((yFl w S r (S 5 0)).2))), o5, o6] [] (V2, T2) Q) → ∀ o6 : Option Value, E x F (d + 55) 188 8 [some (.ref 59), some (.int (Int32.ofInt ((r:Int)))), o2, some (.int (Int32.ofInt (A))), some (.int (Int32.ofInt (B))), some (.int (Int32.ofInt (P))), o6] [] (V1, T1) Q := by
  have h5 := hW.2.2.1
  intro m
  induction m with
  | zero =>
    intro i V1 T1 P A B hP hi hA hB hS1 hf K o6
    subst hP
    subst hA
    subst hB
    have hic : i = S 5 0 := by omega
    rw [hic]
    apply b188_8 hF
    · intro _
      exact K V1 T1 hS1 hf _ _
    · rw [hS1.2.2.2.2.2.1]
      intro c
      simp (disch := omega) only [zI_le] at c
      exfalso; omega
  | succ m ih =>
    intro i V1 T1 P A B hP hi hA hB hS1 hf K o6
    have hin := yFl_in (w := w) hW hr i (by omega)
    have ht := yTry_0 (w := w) hW (show i < 5 by omega) hr
    have hn : yFl w S r (i + 1) = if (yFl w S r i).1 = -1 ∨ (yFl w S r i).2 < yTry w S i r 0 then ((i : Int), yTry w S i r 0) else yFl w S r i := rfl
    subst hP
    apply b188_8 hF
    · rw [hS1.2.2.2.2.2.1]
      intro c
      simp (disch := omega) only [zI_le] at c
      exfalso; omega
    · intro _
      apply b188_17 hF
      have hR1 : zRd x F V1 n w := zRd_fr hR (hf.1 60 (by omega) (by omega)) (hf.1 61 (by omega) (by omega))
      refine s179 hF hR1 hS1 hW hru (what := 0) (by omega) (by omega) (by omega) ?_
      intro V3 T3 hS3 f1 f2
      have hf3 : yFr V V3 := yFr_tr hf ⟨fun a h1 h2 => f1 a h1 (by omega) (by omega) (by omega) (by omega) (by omega) (by omega) (by omega), fun j hj => f2 j (by omega)⟩
      generalize yTry w S i r 0 = t at *
      apply b188_25 hF
      · intro c
        simp (disch := omega) only [zI_eq] at c
        apply b188_39 hF
        apply b188_46 hF
        rw [zI_add]
        rw [if_pos (by omega)] at hn
        exact ih (i + 1) V3 T3 _ _ _ (by omega) (by omega) (by rw [hn]) (by rw [hn]) hS3 hf3 K _
      · intro c
        simp (disch := omega) only [zI_eq] at c
        apply b188_32 hF
        · intro c1
          simp (disch := omega) only [zI_le] at c1
          apply b188_46 hF
          rw [zI_add]
          rw [if_neg (by omega)] at hn
          exact ih (i + 1) V3 T3 _ _ _ (by omega) (by omega) (by rw [hn]; exact hA) (by rw [hn]; exact hB) hS3 hf3 K _
        · intro c1
          simp (disch := omega) only [zI_le] at c1
          apply b188_39 hF
          apply b188_46 hF
          rw [zI_add]
          rw [if_pos (by omega)] at hn
          exact ih (i + 1) V3 T3 _ _ _ (by omega) (by omega) (by rw [hn]) (by rw [hn]) hS3 hf3 K _
theorem yDay_23 {w : Nat → Nat → (Nat → Int32) → Int32} {r : Nat} {S : Nat → Nat → Nat} : yDay w r S 2 = S 2 ∧ yDay w r S 3 = S 3 := by
  unfold yDay
  exact ⟨by rw [yNi_23.1, (yOr_23 _ _ _).1], by rw [yNi_23.2, (yOr_23 _ _ _).2]⟩
theorem zFd_tr {V V1 V2 : Nat → Nat → Int32} (h1 : zFd V V1) (h2 : zFd V1 V2) : zFd V V2 := ⟨fun a a1 a2 a3 a4 a5 a6 a7 a8 a9 => (h2.1 a a1 a2 a3 a4 a5 a6 a7 a8 a9).trans (h1.1 a a1 a2 a3 a4 a5 a6 a7 a8 a9), fun j hj => (h2.2 j hj).trans (h1.2 j hj)⟩
theorem s187l {x : zXs} {F : zF} (hF : zSh F) {d : Nat} {V : Nat → Nat → Int32} {T : Nat → Nat → Int64} {Q : Option Value → zG → Prop} {n : Nat} {w : Nat → Nat → (Nat → Int32) → Int32} (hR : zRd x F V n w) {S : Nat → Nat → Nat} {r : Nat} (hr : r < 4) {B : Int} (K : ∀ V2 T2 S2 (z : Int), zMS V2 S2 → (∀ i, S2 2 i = S 2 i ∧ S2 3 i = S 3 i) ∧ S2 5 0 = S 5 0 ∧ S2 5 2 = S 5 2 → zFd V V2 → (z ≤ 20 ∧ 0 ≤ z ∧ z = B) ∨ (z = 21 ∧ B = -1) → E x F (d + 55) 187 32 [some (.ref 59), some (.int (Int32.ofInt ((r:Int)))), some (.int (Int32.ofInt (z)))] [] (V2, T2) Q) : ∀ (m i : Nat) (S1 : Nat → Nat → Nat) (V1 : Nat → Nat → Int32) (T1 : Nat → Nat → Int64) (P : Int), P = i → i + m = 21 → B = (if m = 0 then -1 else yBare w r (m - 1) i S1) → zMS V1 S1 → zWf S1 → S1 5 1 + m ≤ 1000000 → S1 5 2 < n → (∀ i, S1 2 i = S 2 i ∧ S1 3 i = S 3 i) ∧ S1 5 0 = S 5 0 ∧ S1 5 2 = S 5 2 → zFd V V1 → E x F (d + 55) 187 6 [some (.ref 59), some (.int (Int32.ofInt ((r:Int)))), some (.int (Int32.ofInt (P)))] [] (V1, T1) Q := by
  intro m
  induction m with
  | zero =>
    intro i S1 V1 T1 P hP hi hB hS1 hW hn hru hk hf
    subst hP
    rw [if_pos rfl] at hB
    apply b187_6 hF
    · intro _
      exact K V1 T1 S1 _ hS1 hk hf (by omega)
    · intro c
      simp (disch := omega) only [zI_lt] at c
      exfalso; omega
  | succ m ih =>
    intro i S1 V1 T1 P hP hi hB hS1 hW hn hru hk hf
    subst hP
    rw [if_neg (by omega), Nat.add_sub_cancel] at hB
    have hz := zpc_le 24 (zgb S1 r)
    have e0 : yBare w r m i S1 = if zpc 24 (zgb S1 r) = 0 then (i : Int) else if m = 0 then -1 else yBare w r (m - 1) (i + 1) (yDay w r S1) := by
      cases m with
      | zero => simp only [yBare]; rfl
      | succ m => simp only [yBare]; rfl
    rw [e0] at hB
    apply b187_6 hF
    · intro c
      simp (disch := omega) only [zI_lt] at c
      exfalso; omega
    intro _
    apply b187_12 hF
    apply s133 hF (L := S1 0 r) (B := S1 1 r) (by omega) (hS1.1 r (by omega)) (hS1.2.1 r (by omega)) (hW.1 r hr).1 (hW.1 r hr).2
    have ez : zpc 24 (ygb (S1 0 r) (S1 1 r)) = zpc 24 (zgb S1 r) := rfl
    rw [ez]
    apply b187_17 hF
    · intro c
      simp (disch := omega) only [zI_eq, zI_0] at c
      rw [if_pos (by omega)] at hB
      exact K V1 T1 S1 _ hS1 hk hf (by omega)
    · intro c
      simp (disch := omega) only [zI_eq, zI_0] at c
      rw [if_neg (by omega)] at hB
      apply b187_20 hF
      have hR1 : zRd x F V1 n w := zRd_fr hR (hf.1 60 (by omega) (by omega) (by omega) (by omega) (by omega) (by omega) (by omega) (by omega) (by omega)) (hf.1 61 (by omega) (by omega) (by omega) (by omega) (by omega) (by omega) (by omega) (by omega) (by omega))
      refine s183 hF hR1 hS1 hW hru (N := 1) hr (by omega) (by omega) ?_
      intro V2 T2 hS2 f2
      have eD : yDays w r 1 S1 = yDay w r S1 := rfl
      rw [eD] at hS2
      obtain ⟨d1, d2, d3, d4⟩ := yDay_wf (w := w) hr hW (by omega)
      obtain ⟨q2, q3⟩ := yDay_23 (w := w) (r := r) (S := S1)
      apply b187_26 hF
      rw [zI_add]
      exact ih (i + 1) (yDay w r S1) V2 T2 _ (by omega) (by omega) hB hS2 d1 (by omega) (by rw [d4]; exact hru) ⟨fun j => ⟨by rw [q2]; exact (hk.1 j).1, by rw [q3]; exact (hk.1 j).2⟩, by rw [d2]; exact hk.2.1, by rw [d4]; exact hk.2.2⟩ (zFd_tr hf f2)
theorem yBare_in {w : Nat → Nat → (Nat → Int32) → Int32} {r : Nat} : ∀ (m i : Nat) (S : Nat → Nat → Nat), -1 ≤ yBare w r m i S ∧ yBare w r m i S ≤ i + m := by
  intro m
  induction m with
  | zero => intro i S; simp only [yBare]; split <;> omega
  | succ m ih =>
    intro i S
    have := ih (i + 1) (yDay w r S)
    simp only [yBare]
    split <;> omega
theorem s187 {x : zXs} {F : zF} (hF : zSh F) {d : Nat} {V : Nat → Nat → Int32} {T : Nat → Nat → Int64} {Q : Option Value → zG → Prop} {S : Nat → Nat → Nat} (hS : zMS V S) (hW : zWf S) (hn : S 5 1 ≤ 999) {n : Nat} {w : Nat → Nat → (Nat → Int32) → Int32} (hR : zRd x F V n w) (hru : S 5 2 < n) {r : Nat} (hr : r < 4) (k : ∀ V2 T2, zMS V2 S → yFr V V2 → Q (some (.int (Int32.ofInt (yBare w r 20 0 S)))) (V2, T2)) {o2 : Option Value} : E x F (d + 55) 187 0 [some (.ref 59), some (.int (Int32.ofInt ((r:Int)))), o2] [] (V, T) Q := by
  have hBin := yBare_in (w := w) (r := r) 20 0 S
  apply b187_0 hF
  apply s180 hF
  intro V1 a1 a2 a3
  apply b187_4 hF
  have hR1 : zRd x F V1 n w := zRd_fr hR (a3 60 (by omega)) (a3 61 (by omega))
  have hS1 : zMS V1 S := zMS_fr hS (a3 64 (by omega)) (a3 63 (by omega)) (a3 66 (by omega)) (a3 65 (by omega)) (fun j _ => by rw [a3 59 (by omega)])
  refine s187l hF (T := T) hR1 (S := S) hr (B := yBare w r 20 0 S) ?_ 21 0 S V1 T 0 rfl rfl (by rw [if_neg (by omega)]) hS1 hW (by omega) hru ⟨fun _ => ⟨rfl, rfl⟩, rfl, rfl⟩ ⟨fun _ _ _ _ _ _ _ _ _ _ => rfl, fun _ _ => rfl⟩
  intro V2 T2 S2 z hS2 hk hf2 hz
  apply b187_32 hF
  apply s181 hF
  intro V4 b1 b2 b3 b4
  have e73 : V2 73 = V1 73 := hf2.1 73 (by omega) (by omega) (by omega) (by omega) (by omega) (by omega) (by omega) (by omega) (by omega)
  have K := k V4 T2 (by
    refine zMS_back hS hS2 (fun i _ => hk.1 i) hk.2 ?_ ?_ b1 b2 b3 b4
    · intro i hi
      rw [e73]
      exact a1 i hi
    · rw [e73]; exact a2) (by
    refine ⟨?_, ?_⟩
    · intro a c1 c2
      rw [b4 a (by omega) (by omega) (by omega) (by omega), hf2.1 a (by omega) (by omega) (by omega) (by omega) (by omega) (by omega) (by omega) (by omega) (by omega), a3 a (by omega)]
    · intro j hj
      rw [b3 j (by omega), hf2.2 j (by omega), a3 59 (by omega)])
  apply b187_36 hF
  · intro c
    simp (disch := omega) only [zI_le] at c
    apply b187_46 hF
    rw [show z = yBare w r 20 0 S by omega]
    exact b187_47 hF K
  · intro c
    simp (disch := omega) only [zI_le] at c
    apply b187_42 hF
    rw [show (-1 : Int) = yBare w r 20 0 S by omega]
    exact b187_47 hF K
theorem s186 {x : zXs} {F : zF} (hF : zSh F) {d : Nat} {V : Nat → Nat → Int32} {T : Nat → Nat → Int64} {Q : Option Value → zG → Prop} {S : Nat → Nat → Nat} (hS : zMS V S) (hW : zWf S) (hn : S 5 1 ≤ 999) {n : Nat} {w : Nat → Nat → (Nat → Int32) → Int32} (hR : zRd x F V n w) (hru : S 5 2 < n) {row what : Int} (h_row : -2147483648 ≤ row ∧ row ≤ 2147483647) (h_what : -2147483648 ≤ what ∧ what ≤ 2147483647) (k : ∀ V2 T2, zMS V2 S → yFr V V2 → Q (some (.int (Int32.ofInt (yBest w S row what)))) (V2, T2)) : E x F (d + 60) 186 0 [some (.ref 59), some (.int (Int32.ofInt (row))), some (.int (Int32.ofInt (what)))] [] (V, T) Q := by
  have h5 := hW.2.2.1
  unfold yBest at k
  have kb : ¬ ((0 ≤ row ∧ row ≤ 3) ∧ 0 ≤ what ∧ what ≤ 4) → Q (some (.int (Int32.ofInt (-1000)))) (V, T) := by
    intro c
    have K := k V T hS (yFr_rfl V)
    by_cases h : 0 ≤ row ∧ row ≤ 3
    · rw [if_pos h, if_neg (by omega), if_neg (by omega), if_neg (by omega), if_neg (by omega), if_neg (by omega)] at K
      exact K
    · rw [if_neg h] at K
      exact K
  repeat' (first
    | (intro c; (try simp (disch := omega) only [zI_lt, zI_le, zI_eq, zI_0, zI_add, zI_sub, zI_mul, zI_neg, Int.reduceNeg, Int.reduceAdd, Int.reduceSub, Int.reduceMul, Decidable.not_not, Int.not_lt, Int.not_le, not_true_eq_false, not_false_eq_true] at c); (try (exfalso; omega)))
    | simp only [zI_add, zI_sub, zI_mul, zI_neg]
    | apply s131 hF h_row
    | apply s132v hF h_what (lo := 0) (hi := 4) (by omega) (by omega)
    | apply b186_0 hF
    | apply b186_4 hF
    | apply b186_7 hF
    | apply b186_16 hF
    | apply b186_19 hF
    | apply b186_28 hF
    | apply b186_33 hF
    | apply b186_38 hF
    | apply b186_41 hF
    | apply b186_47 hF
    | apply b186_48 hF
    | apply b186_67 hF
    | apply b186_71 hF
    | apply b186_78 hF
    | apply b186_83 hF
    | exact kb (by omega)
    | with_reducible assumption
    | exact zI_nat _
    | exact zNb1
    | exact zNb0
    | omega
    | with_reducible rfl
    | exact zI_nI (by omega))
  rw [if_pos (by omega)] at k
  obtain ⟨r, rfl⟩ : ∃ r : Nat, row = r := ⟨row.toNat, by omega⟩
  rw [Int.toNat_natCast] at k
  have hr : r < 4 := by omega
  have hBO := yBO_in (w := w) hW hr (-1)
  have hFl := yFl_in (w := w) hW hr (S 5 0) h5
  apply b186_23 hF
  · intro c1
    simp (disch := omega) only [zI_le] at c1
    apply b186_48 hF
    apply s185t hF hS hW hR hru hr (by omega)
    intro V2 T2 hS2 f2 h35 h36
    have K := k V2 T2 hS2 f2
    apply b186_67 hF
    · intro c2
      simp (disch := omega) only [zI_eq, zI_0] at c2
      rw [if_neg c2, if_pos (by omega)] at K
      apply b186_78 hF
      rw [h36, zI_neg]
      exact b186_83 hF K
    · intro c2
      simp (disch := omega) only [zI_eq, zI_0, Decidable.not_not] at c2
      rw [if_pos c2] at K
      apply b186_71 hF
      rw [h35]
      exact b186_83 hF K
  · intro c1
    simp (disch := omega) only [zI_le] at c1
    rw [if_neg (by omega), if_neg (by omega)] at k
    apply b186_28 hF
    · intro c2
      simp (disch := omega) only [zI_eq] at c2
      apply b186_41 hF
      apply b188_0 hF
      refine s188l hF (d := d + 4) (T := T) hS hW hR hru hr (S 5 0) 0 V T 0 (-1) (-1) rfl (Nat.zero_add _) rfl rfl hS (yFr_rfl V) ?_ _
      intro V2 T2 hS2 f2 o5 o6
      have K := k V2 T2 hS2 f2
      apply b188_52 hF
      · intro c3
        simp (disch := omega) only [zI_eq] at c3
        rw [if_neg (by omega), if_pos (by omega)] at K
        exact b188_61 hF (b188_63 hF (b186_47 hF K))
      · intro c3
        simp (disch := omega) only [zI_eq, Decidable.not_not] at c3
        rw [if_pos (by omega)] at K
        exact b188_57 hF (b188_63 hF (b186_47 hF K))
    · intro c2
      simp (disch := omega) only [zI_eq, Decidable.not_not] at c2
      rw [if_neg (by omega), if_neg (by omega), if_pos c2] at k
      apply b186_33 hF
      apply s187 hF (d := d + 4) hS hW hn hR hru hr
      intro V2 T2 hS2 f2
      exact b186_38 hF (b186_47 hF (k V2 T2 hS2 f2))
