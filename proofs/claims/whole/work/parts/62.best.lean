/-! first, best: the class's tops -/
def yBd (b : Option (List Nat × Int)) : Int := match b with
  | none => 0
  | some (q, _) => (yDi q : Int)
def yBv (b : Option (List Nat × Int)) : Int := match b with
  | none => 0
  | some (_, v) => v
theorem yBst_some (val : List Nat → Int) : ∀ (l : List (List Nat)) (b : List Nat × Int), ∃ b2, yBst val l (some b) = some b2 := by
  intro l
  induction l with
  | nil => intro b; exact ⟨b, rfl⟩
  | cons p ps ih =>
    intro b
    obtain ⟨q, v⟩ := b
    simp only [yBst]
    split
    · exact ih _
    · exact ih _
theorem zBs_e {val : List Nat → Int} {p : List Nat} {ps : List (List Nat)} {D M : Int} (h : zBs (yBst val (p :: ps) none) D M) : D = yBd (yBst val (p :: ps) none) ∧ M = yBv (yBst val (p :: ps) none) := by
  have g : ∃ b2, yBst val (p :: ps) none = some b2 := yBst_some val ps _
  obtain ⟨⟨q, v⟩, hb⟩ := g
  rw [hb] at h ⊢
  exact h
theorem yBst_b {val : List Nat → Int} {P : List Nat → Prop} {c : Nat} (hv : ∀ q, P q → -24 ≤ val q ∧ val q ≤ 24) : ∀ (l : List (List Nat)) (b : Option (List Nat × Int)), (∀ q, q ∈ l → P q) → (∀ q v, b = some (q, v) → P q ∧ -24 ≤ v ∧ v ≤ 24) → ∀ q v, yBst val l b = some (q, v) → P q ∧ -24 ≤ v ∧ v ≤ 24 := by
  intro l
  induction l with
  | nil => intro b _ hb q v h; rw [show yBst val [] b = b by cases b <;> rfl] at h; exact hb q v h
  | cons p ps ih =>
    intro b hl hb q v h
    have hp := hl p List.mem_cons_self
    cases b with
    | none =>
      exact ih _ (fun q hq => hl q (List.mem_cons_of_mem _ hq)) (fun q v hq => by
        simp only [Option.some.injEq, Prod.mk.injEq] at hq
        rw [← hq.1, ← hq.2]; exact ⟨hp, hv p hp⟩) q v h
    | some b1 =>
      obtain ⟨q1, v1⟩ := b1
      have h1 := hb q1 v1 rfl
      simp only [yBst] at h
      refine ih _ (fun q hq => hl q (List.mem_cons_of_mem _ hq)) ?_ q v h
      intro q v hq
      split at hq
      · simp only [Option.some.injEq, Prod.mk.injEq] at hq
        rw [← hq.1, ← hq.2]; exact ⟨hp, hv p hp⟩
      · simp only [Option.some.injEq, Prod.mk.injEq] at hq
        rw [← hq.1, ← hq.2]; exact h1
/-- the best of all orders -/
def yBO (w : Nat → Nat → (Nat → Int32) → Int32) (S : Nat → Nat → Nat) (r : Nat) (who : Int) : Option (List Nat × Int) := yBst (yVal w S r who) (yDf (S 5 0) (S 5 0) []) none
theorem yDf_cons {c : Nat} (hc : c ≤ 5) : ∃ ps, yDf c c [] = List.range c :: ps ∧ yChn c (List.range c :: ps) = true ∧ (∀ q, q ∈ List.range c :: ps → q.length = c ∧ ∀ f, f ∈ q → f < c) ∧ ps.length + 1 ≤ 120 := by
  have h := yDf_chk c hc
  simp only [Bool.and_eq_true] at h
  obtain ⟨h1, h2⟩ := h
  obtain ⟨g1, g2, g3, g4⟩ := yAll_e h2
  revert h1 g1 g2 g3 g4
  generalize yDf c c [] = l
  intro h1 g1 g2 g3 g4
  cases l with
  | nil => exact absurd g3 (by simp)
  | cons p ps =>
    have hp : p = List.range c := g4
    subst hp
    exact ⟨ps, rfl, h1, g1, by rw [List.length_cons] at g2; exact g2⟩
theorem zO_first {V : Nat → Nat → Int32} {c : Nat} (hc : c ≤ 5) (h1 : V 43 1 = Int32.ofInt (c : Int)) (h2 : ∀ j, j < c → V 44 j = Int32.ofInt (j : Int)) : zO V c (fun k => (List.range c).getD k 0) := by
  refine ⟨h1, fun j hj => ?_⟩
  have e : (List.range c).getD j 0 = j := by
    rw [List.getD_eq_getElem?_getD, List.getElem?_range hj]
    rfl
  dsimp only
  rw [e]
  exact ⟨h2 j hj, by omega⟩
def yFirst (w : Nat → Nat → (Nat → Int32) → Int32) (S : Nat → Nat → Nat) (one row what : Int) : Int := if (0 ≤ one ∧ one < S 5 0) ∧ (0 ≤ row ∧ row ≤ 3) ∧ (0 ≤ what ∧ what ≤ 1) then (if what = 0 then yBd (yBO w S row.toNat one) else yBv (yBO w S row.toNat one)) else -1000
theorem yBO_in {w : Nat → Nat → (Nat → Int32) → Int32} {S : Nat → Nat → Nat} (hW : zWf S) {r : Nat} (hr : r < 4) (who : Int) : (0 ≤ yBd (yBO w S r who) ∧ yBd (yBO w S r who) ≤ 100000) ∧ (-24 ≤ yBv (yBO w S r who) ∧ yBv (yBO w S r who) ≤ 24) := by
  have h5 := hW.2.2.1
  obtain ⟨ps, e1, _, e3, _⟩ := yDf_cons h5
  have g := yBst_b (val := yVal w S r who) (P := fun q => q.length = S 5 0 ∧ ∀ f, f ∈ q → f < S 5 0) (c := 0) (fun q hq => yVal_in hW hr (fun f hf => by have := hq.2 f hf; omega)) (yDf (S 5 0) (S 5 0) []) none (by rw [e1]; exact e3) (fun q v h => absurd h (by simp))
  unfold yBO
  cases hb : yBst (yVal w S r who) (yDf (S 5 0) (S 5 0) []) none with
  | none => exact ⟨by simp only [yBd]; omega, by simp only [yBv]; omega⟩
  | some b =>
    obtain ⟨q, v⟩ := b
    have := g q v hb
    have hd := yDi_in (p := q) (by rw [this.1.1]; exact h5) (fun f hf => by have := this.1.2 f hf; omega)
    exact ⟨by simp only [yBd]; omega, this.2⟩
theorem s87 {x : zXs} {F : zF} (hF : zSh F) {d : Nat} {V : Nat → Nat → Int32} {T : Nat → Nat → Int64} {Q : Option Value → zG → Prop} {S : Nat → Nat → Nat} (hS : zCS 1 V S) (hW : zWf S) {n : Nat} {w : Nat → Nat → (Nat → Int32) → Int32} (hR : zRu V n w) (hru : S 5 2 < n) {one row what : Int} (h_one : -2147483648 ≤ one ∧ one ≤ 2147483647) (h_row : -2147483648 ≤ row ∧ row ≤ 2147483647) (h_what : -2147483648 ≤ what ∧ what ≤ 2147483647) (k : ∀ V2, zFt V V2 → Q (some (.int (Int32.ofInt (yFirst w S one row what)))) (V2, T)) {o4 o5 o6 o7 o8 : Option Value} : E x F (d + 5) 87 0 [some (.ref 0), some (.int (Int32.ofInt (one))), some (.int (Int32.ofInt (row))), some (.int (Int32.ofInt (what))), o4, o5, o6, o7, o8] [] (V, T) Q := by
  have hb : zSt 1 := Or.inl rfl
  have h5 := hW.2.2.1
  unfold yFirst at k
  have kb : ¬ ((0 ≤ one ∧ one < S 5 0) ∧ (0 ≤ row ∧ row ≤ 3) ∧ (0 ≤ what ∧ what ≤ 1)) → Q (some (.int (Int32.ofInt (-1000)))) (V, T) := by
    intro c
    rw [if_neg c] at k
    exact k V (zFt_rfl V)
  repeat' (first
    | (intro c; (try simp (disch := omega) only [zI_lt, zI_le, zI_eq, zI_0, zI_add, zI_sub, zI_mul, zI_neg, Int.reduceNeg, Int.reduceAdd, Int.reduceSub, Int.reduceMul, Decidable.not_not, Int.not_lt, Int.not_le, not_true_eq_false, not_false_eq_true] at c); (try (exfalso; omega)))
    | simp only [zI_add, zI_sub, zI_mul, zI_neg]
    | apply s19 hF hb hS hW h_one
    | apply s12 hF h_row
    | apply s7 hF h_what (by omega) (by omega)
    | apply b87_0 hF
    | apply b87_8 hF
    | apply b87_11 hF
    | apply b87_19 hF
    | apply b87_22 hF
    | apply b87_28 hF
    | apply b87_31 hF
    | apply b87_58 hF
    | apply b87_61 hF
    | apply b87_68 hF
    | apply b87_73 hF
    | apply b87_84 hF
    | apply b87_101 hF
    | apply b87_108 hF
    | apply b87_115 hF
    | apply b87_126 hF
    | apply b87_128 hF
    | apply b87_135 hF
    | apply b87_143 hF
    | apply b87_147 hF
    | apply b87_152 hF
    | apply b87_154 hF
    | exact kb (by omega)
    | with_reducible assumption
    | exact zI_nat _
    | exact zNb1
    | exact zNb0
    | omega
    | with_reducible rfl
    | exact zI_nI (by omega))
  have c : (0 ≤ one ∧ one < S 5 0) ∧ (0 ≤ row ∧ row ≤ 3) ∧ (0 ≤ what ∧ what ≤ 1) := by omega
  rw [if_pos c] at k
  obtain ⟨i, rfl⟩ : ∃ i : Nat, one = i := ⟨one.toNat, by omega⟩
  obtain ⟨r, rfl⟩ : ∃ r : Nat, row = r := ⟨row.toNat, by omega⟩
  rw [Int.toNat_natCast] at k
  have hin := yBO_in (w := w) hW (r := r) (by omega) (i : Int)
  obtain ⟨ps, e1, e2, e3, e4⟩ := yDf_cons h5
  apply b87_35 hF
  rw [hS.2.2.2.2.2.1]
  apply s86 hF h5
  intro V1 a1 a2 a3
  have hf1 : zFt V V1 := fun a _ _ _ _ _ h6 h7 => a3 a h6 h7
  apply b87_58 hF
  refine s87l hF hS hW hR hru (c := S 5 0) rfl (r := r) (one := i) (by omega) (by omega) ps (List.range (S 5 0)) 0 none V1 0 0 0 rfl (by omega) ⟨fun _ => rfl, fun _ => rfl⟩ trivial (fun q v h => absurd h (by simp)) e3 e2 (zO_first h5 a1 a2) hf1 ?_ _
  intro V2 D M hf2 hB o6 o7 o8
  obtain ⟨hD, hM⟩ := zBs_e hB
  have eB : yBst (yVal w S r (i : Int)) (List.range (S 5 0) :: ps) none = yBO w S r (i : Int) := by
    unfold yBO; rw [e1]
  rw [eB] at hD hM
  subst hD
  subst hM
  have K := k V2 hf2
  apply b87_143 hF
  · intro c1
    simp (disch := omega) only [zI_eq, zI_0] at c1
    rw [if_neg c1] at K
    exact b87_152 hF (b87_154 hF K)
  · intro c1
    simp (disch := omega) only [zI_eq, zI_0, Decidable.not_not] at c1
    rw [if_pos c1] at K
    exact b87_147 hF (b87_154 hF K)
theorem s92 {x : zXs} {F : zF} (hF : zSh F) {d : Nat} {V : Nat → Nat → Int32} {T : Nat → Nat → Int64} {Q : Option Value → zG → Prop} {S : Nat → Nat → Nat} (hS : zCS 1 V S) (hW : zWf S) {n : Nat} {w : Nat → Nat → (Nat → Int32) → Int32} (hR : zRu V n w) (hru : S 5 2 < n) {r : Nat} (hr : r < 4) {b : Int} (hb01 : b = 0 ∨ b = 1) (k : ∀ V2, zFt V V2 → Q (some (.int (Int32.ofInt (if b = 1 then yBd (yBO w S r (-1)) else -(yBv (yBO w S r (-1))))))) (V2, T)) {o3 o4 o5 o6 o7 : Option Value} : E x F (d + 5) 92 0 [some (.ref 0), some (.int (Int32.ofInt ((r:Int)))), some (.int (Int32.ofInt (b))), o3, o4, o5, o6, o7] [] (V, T) Q := by
  have h5 := hW.2.2.1
  have hin := yBO_in (w := w) hW (r := r) (by omega) (-1)
  obtain ⟨ps, e1, e2, e3, e4⟩ := yDf_cons h5
  apply b92_0 hF
  rw [hS.2.2.2.2.2.1]
  apply s86 hF h5
  intro V1 a1 a2 a3
  have hf1 : zFt V V1 := fun a _ _ _ _ _ h6 h7 => a3 a h6 h7
  apply b92_22 hF
  refine s92l hF hS hW hR hru (c := S 5 0) rfl (r := r) (by omega) ps (List.range (S 5 0)) 0 none V1 0 0 0 rfl (by omega) ⟨fun _ => rfl, fun _ => rfl⟩ trivial (fun q v h => absurd h (by simp)) e3 e2 (zO_first h5 a1 a2) hf1 ?_ _
  intro V2 D M hf2 hB o5 o6 o7
  obtain ⟨hD, hM⟩ := zBs_e hB
  have eB : yBst (yVal w S r (-1)) (List.range (S 5 0) :: ps) none = yBO w S r (-1) := by
    unfold yBO; rw [e1]
  rw [eB] at hD hM
  have hM2 : M = -(yBv (yBO w S r (-1))) := by omega
  subst hD
  subst hM2
  have K := k V2 hf2
  apply b92_115 hF
  · intro c1
    simp (disch := omega) only [zI_eq, zI_0] at c1
    rw [if_neg (by omega)] at K
    exact b92_123 hF (b92_125 hF K)
  · intro c1
    simp (disch := omega) only [zI_eq, zI_0] at c1
    rw [if_pos (by omega)] at K
    exact b92_119 hF (b92_125 hF K)
/-- who takes most alone, and how much -/
def yFl (w : Nat → Nat → (Nat → Int32) → Int32) (S : Nat → Nat → Nat) (r : Nat) : Nat → Int × Int
  | 0 => (-1, -1)
  | k + 1 => if (yFl w S r k).1 = -1 ∨ (yFl w S r k).2 < yTry w S k r 0 then ((k : Int), yTry w S k r 0) else yFl w S r k
theorem yFl_in {w : Nat → Nat → (Nat → Int32) → Int32} {S : Nat → Nat → Nat} (hW : zWf S) {r : Nat} (hr : r < 4) : ∀ k, k ≤ 5 → (-1 ≤ (yFl w S r k).1 ∧ (yFl w S r k).1 ≤ k) ∧ (-24 ≤ (yFl w S r k).2 ∧ (yFl w S r k).2 ≤ 24) := by
  intro k
  induction k with
  | zero => intro _; exact ⟨by simp only [yFl]; omega, by simp only [yFl]; omega⟩
  | succ k ih =>
    intro hk
    have a := ih (by omega)
    have b := yTry_0 (w := w) hW (show k < 5 by omega) hr
    simp only [yFl]
    split
    · dsimp only; omega
    · omega
theorem s93l {x : zXs} {F : zF} (hF : zSh F) {d : Nat} {V : Nat → Nat → Int32} {T : Nat → Nat → Int64} {Q : Option Value → zG → Prop} {S : Nat → Nat → Nat} (hS : zCS 1 V S) (hW : zWf S) {n : Nat} {w : Nat → Nat → (Nat → Int32) → Int32} (hR : zRu V n w) (hru : S 5 2 < n) {r : Nat} (hr : r < 4) {o2 : Option Value} : ∀ (m i : Nat) (V1 : Nat → Nat → Int32) (P A B : Int), P = i → i + m = S 5 0 → A = (yFl w S r i).1 → B = (yFl w S r i).2 → zFt V V1 → (∀ V2, zFt V V2 → ∀ o5 o6 : Option Value, E x F (d + 4) 93 72 [some (.ref 0), some (.int (Int32.ofInt ((r:Int)))), o2, some (.int (Int32.ofInt ((yFl w S r (S 5 0)).1))), some (.int (Int32.ofInt ((yFl w S r (S 5 0)).2))), o5, o6] [] (V2, T) Q) → ∀ o6 : Option Value, E x F (d + 4) 93 8 [some (.ref 0), some (.int (Int32.ofInt ((r:Int)))), o2, some (.int (Int32.ofInt (A))), some (.int (Int32.ofInt (B))), some (.int (Int32.ofInt (P))), o6] [] (V1, T) Q := by
  have hb : zSt 1 := Or.inl rfl
  have hb7 : zSt 7 := Or.inr (Or.inl rfl)
  have h5 := hW.2.2.1
  intro m
  induction m with
  | zero =>
    intro i V1 P A B hP hi hA hB hf K o6
    subst hP
    subst hA
    subst hB
    have hic : i = S 5 0 := by omega
    rw [hic]
    have hS1 := zFt_S hS hf
    apply b93_8 hF
    · intro _
      exact K V1 hf _ _
    · rw [hS1.2.2.2.2.2.1]
      intro c
      simp (disch := omega) only [zI_le] at c
      exfalso; omega
  | succ m ih =>
    intro i V1 P A B hP hi hA hB hf K o6
    have hin := yFl_in (w := w) hW hr i (by omega)
    have ht := yTry_0 (w := w) hW (show i < 5 by omega) hr
    have hn : yFl w S r (i + 1) = if (yFl w S r i).1 = -1 ∨ (yFl w S r i).2 < yTry w S i r 0 then ((i : Int), yTry w S i r 0) else yFl w S r i := rfl
    subst hP
    have hS1 := zFt_S hS hf
    have hR1 := zFt_R hR hf
    apply b93_8 hF
    · rw [hS1.2.2.2.2.2.1]
      intro c
      simp (disch := omega) only [zI_le] at c
      exfalso; omega
    · intro _
      apply b93_20 hF
      apply s83 hF hb7 hb (by omega) hS1
      intro V2 hS2 f2
      apply b93_31 hF
      have hR2 : zRu V2 n w := zRu_fr hR1 (fun a ha => f2 a (by omega))
      apply s74 hF hb7 hS2 hW hR2 hru (by omega) hr
      intro V3 _ _ _ f3
      have hf3 : zFt V V3 := fun a a1 a2 a3 a4 a5 a6 a7 => ((f3 a (by omega) a2 a3 a4 a5).trans (f2 a (by omega))).trans (hf a a1 a2 a3 a4 a5 a6 a7)
      have et : (yGl w S i (S 0 r) (S 1 r)).2.2.2.2.2.2.1 = yTry w S i r 0 := by
        unfold yTry; rw [if_pos rfl]
      rw [et]
      generalize yTry w S i r 0 = t at *
      apply b93_45 hF
      · intro c
        simp (disch := omega) only [zI_eq] at c
        apply b93_59 hF
        apply b93_66 hF
        rw [zI_add]
        rw [if_pos (by omega)] at hn
        exact ih (i + 1) V3 _ _ _ (by omega) (by omega) (by rw [hn]) (by rw [hn]) hf3 K _
      · intro c
        simp (disch := omega) only [zI_eq] at c
        apply b93_52 hF
        · intro c1
          simp (disch := omega) only [zI_le] at c1
          apply b93_66 hF
          rw [zI_add]
          rw [if_neg (by omega)] at hn
          exact ih (i + 1) V3 _ _ _ (by omega) (by omega) (by rw [hn]; exact hA) (by rw [hn]; exact hB) hf3 K _
        · intro c1
          simp (disch := omega) only [zI_le] at c1
          apply b93_59 hF
          apply b93_66 hF
          rw [zI_add]
          rw [if_pos (by omega)] at hn
          exact ih (i + 1) V3 _ _ _ (by omega) (by omega) (by rw [hn]) (by rw [hn]) hf3 K _
/-- when a row is bare -/
def yBare (w : Nat → Nat → (Nat → Int32) → Int32) (r : Nat) : Nat → Nat → (Nat → Nat → Nat) → Int
  | 0, i, S => if zpc 24 (zgb S r) = 0 then (i : Int) else -1
  | m + 1, i, S => if zpc 24 (zgb S r) = 0 then (i : Int) else yBare w r m (i + 1) (yDay w r S)
theorem s94l {x : zXs} {F : zF} (hF : zSh F) {d : Nat} {V : Nat → Nat → Int32} {T : Nat → Nat → Int64} {Q : Option Value → zG → Prop} {n : Nat} {w : Nat → Nat → (Nat → Int32) → Int32} (hR : zRu V n w) {r : Nat} (hr : r < 4) : ∀ (m i : Nat) (S : Nat → Nat → Nat) (V1 : Nat → Nat → Int32) (P : Int), P = i → i + m = 20 → zCS 7 V1 S → zWf S → S 5 2 < n → S 5 1 + m ≤ 1000000 → zFt V V1 → (∀ V2, zFt V V2 → Q (some (.int (Int32.ofInt (yBare w r m i S)))) (V2, T)) → E x F (d + 6) 94 13 [some (.ref 0), some (.int (Int32.ofInt ((r:Int)))), some (.int (Int32.ofInt (P)))] [] (V1, T) Q := by
  have hb7 : zSt 7 := Or.inr (Or.inl rfl)
  intro m
  induction m with
  | zero =>
    intro i S V1 P hP hi hS hW hru hn hf K
    subst hP
    have hi20 : i = 20 := by omega
    subst hi20
    have k := K V1 hf
    have hz := zpc_le 24 (zgb S r)
    simp only [yBare] at k
    apply b94_13 hF
    · intro _
      apply b94_43 hF
      apply s13 hF hb7 hS hW hr
      apply b94_51 hF
      · intro c
        simp (disch := omega) only [zI_eq, zI_0] at c
        rw [if_neg (by omega)] at k
        exact b94_59 hF (b94_60 hF k)
      · intro c
        simp (disch := omega) only [zI_eq, zI_0, Decidable.not_not] at c
        rw [if_pos (by omega)] at k
        exact b94_54 hF (b94_60 hF k)
    · intro c
      simp (disch := omega) only [zI_le] at c
      exfalso; omega
  | succ m ih =>
    intro i S V1 P hP hi hS hW hru hn hf K
    subst hP
    have hz := zpc_le 24 (zgb S r)
    have hR1 := zFt_R hR hf
    simp only [yBare] at K
    apply b94_13 hF
    · intro c
      simp (disch := omega) only [zI_le] at c
      exfalso; omega
    intro _
    apply b94_19 hF
    apply s13 hF hb7 hS hW hr
    apply b94_27 hF
    · intro c
      simp (disch := omega) only [zI_eq, zI_0] at c
      have K := fun V2 h => K V2 h
      simp only [if_neg (show ¬ zpc 24 (zgb S r) = 0 by omega)] at K
      apply b94_32 hF
      apply s85 hF hS hW hR1 hru hr
      intro V2 hS2 f2
      obtain ⟨d1, d2, d3, d4⟩ := yDay_wf (w := w) hr hW (by omega)
      apply b94_37 hF
      rw [zI_add]
      exact ih (i + 1) (yDay w r S) V2 _ (by omega) (by omega) hS2 d1 (by rw [d4]; exact hru) (by omega) (zFt_tr hf f2) K
    · intro c
      simp (disch := omega) only [zI_eq, zI_0, Decidable.not_not] at c
      have k := K V1 hf
      rw [if_pos (by omega)] at k
      exact b94_30 hF k
def yBest (w : Nat → Nat → (Nat → Int32) → Int32) (S : Nat → Nat → Nat) (row what : Int) : Int := if 0 ≤ row ∧ row ≤ 3 then (if what = 0 then yBd (yBO w S row.toNat (-1)) else if what = 1 then -(yBv (yBO w S row.toNat (-1))) else if what = 2 then (yFl w S row.toNat (S 5 0)).1 else if what = 3 then (yFl w S row.toNat (S 5 0)).2 else if what = 4 then yBare w row.toNat 20 0 S else -1000) else -1000
theorem s91 {x : zXs} {F : zF} (hF : zSh F) {d : Nat} {V : Nat → Nat → Int32} {T : Nat → Nat → Int64} {Q : Option Value → zG → Prop} {S : Nat → Nat → Nat} (hS : zCS 1 V S) (hW : zWf S) (hn : S 5 1 ≤ 999) {n : Nat} {w : Nat → Nat → (Nat → Int32) → Int32} (hR : zRu V n w) (hru : S 5 2 < n) {row what : Int} (h_row : -2147483648 ≤ row ∧ row ≤ 2147483647) (h_what : -2147483648 ≤ what ∧ what ≤ 2147483647) (k : ∀ V2, zFt V V2 → Q (some (.int (Int32.ofInt (yBest w S row what)))) (V2, T)) : E x F (d + 7) 91 0 [some (.ref 0), some (.int (Int32.ofInt (row))), some (.int (Int32.ofInt (what)))] [] (V, T) Q := by
  have hb : zSt 1 := Or.inl rfl
  have hb7 : zSt 7 := Or.inr (Or.inl rfl)
  have h5 := hW.2.2.1
  unfold yBest at k
  apply b91_0 hF
  refine s12 hF h_row ?_ ?_
  rotate_left
  · intro c
    rw [if_neg c] at k
    apply b91_8 hF
    · intro c2; exact absurd rfl c2
    intro _
    exact b91_11 hF (k V (zFt_rfl V))
  intro c
  rw [if_pos c] at k
  apply b91_8 hF
  rotate_left
  · intro c2; exact absurd (by decide) c2
  intro _
  obtain ⟨r, rfl⟩ : ∃ r : Nat, row = r := ⟨row.toNat, by omega⟩
  rw [Int.toNat_natCast] at k
  have hr : r < 4 := by omega
  have go92 : ∀ b : Int, (what = 0 ∧ b = 1) ∨ (what = 1 ∧ b = 0) → E x F (d + 6 + 1) 91 63 [some (.ref 0), some (.int (Int32.ofInt ((r:Int)))), some (.int (Int32.ofInt (what)))] [.int (Int32.ofInt (b)), .int (Int32.ofInt ((r:Int))), .ref 0] (V, T) Q := by
    intro b hb1
    apply b91_63 hF
    apply s92 hF hS hW hR hru hr (b := b) (by omega)
    intro V2 f2
    have K := k V2 f2
    apply b91_66 hF
    rcases hb1 with ⟨q1, rfl⟩ | ⟨q1, rfl⟩
    · rw [if_pos q1] at K
      rw [if_pos rfl]; exact K
    · rw [if_neg (by omega), if_pos q1] at K
      rw [if_neg (by omega)]; exact K
  have hFl := yFl_in (w := w) hW hr (S 5 0) h5
  have go93 : ∀ b : Int, (what = 2 ∧ b = 1) ∨ (what = 3 ∧ b = 0) → E x F (d + 6 + 1) 91 79 [some (.ref 0), some (.int (Int32.ofInt ((r:Int)))), some (.int (Int32.ofInt (what)))] [.int (Int32.ofInt (b)), .int (Int32.ofInt ((r:Int))), .ref 0] (V, T) Q := by
    intro b hb1
    apply b91_79 hF
    apply b93_0 hF
    refine s93l hF hS hW hR hru hr (S 5 0) 0 V 0 (-1) (-1) rfl (Nat.zero_add _) rfl rfl (zFt_rfl V) ?_ _
    intro V2 f2 o5 o6
    have K := k V2 f2
    apply b93_72 hF
    · intro c1
      simp (disch := omega) only [zI_eq, zI_0] at c1
      rw [if_neg (by omega), if_neg (by omega), if_neg (by omega), if_pos (by omega)] at K
      exact b93_80 hF (b93_82 hF (b91_82 hF K))
    · intro c1
      simp (disch := omega) only [zI_eq, zI_0] at c1
      rw [if_neg (by omega), if_neg (by omega), if_pos (by omega)] at K
      exact b93_76 hF (b93_82 hF (b91_82 hF K))
  apply b91_15 hF
  · intro c1
    simp (disch := omega) only [zI_eq] at c1
    apply b91_52 hF
    · intro c2
      simp (disch := omega) only [zI_eq, zI_0] at c2
      exfalso; omega
    · intro _
      apply b91_58 hF
      exact go92 1 (by omega)
  · intro c1
    simp (disch := omega) only [zI_eq] at c1
    apply b91_52 hF
    · intro _
      apply b91_62 hF
      exact go92 0 (by omega)
    · intro c2
      simp (disch := omega) only [zI_eq, zI_0, Decidable.not_not] at c2
      exfalso; omega
  · intro c1
    simp (disch := omega) only [zI_eq] at c1
    apply b91_67 hF
    · intro c2
      simp (disch := omega) only [zI_eq] at c2
      exfalso; omega
    · intro _
      apply b91_74 hF
      exact go93 1 (by omega)
  · intro c1
    simp (disch := omega) only [zI_eq] at c1
    apply b91_67 hF
    · intro _
      apply b91_78 hF
      exact go93 0 (by omega)
    · intro c2
      simp (disch := omega) only [zI_eq, Decidable.not_not] at c2
      exfalso; omega
  · intro c1
    simp (disch := omega) only [zI_eq] at c1
    rw [if_neg (by omega), if_neg (by omega), if_neg (by omega), if_neg (by omega), if_pos c1] at k
    apply b91_83 hF
    apply b94_0 hF
    apply s83 hF hb7 hb (by omega) hS
    intro V1 hS1 f1
    have hf1 : zFt V V1 := fun a a1 _ _ _ _ _ _ => f1 a (by omega)
    apply b94_11 hF
    refine s94l hF (V := V) hR hr 20 0 S V1 0 rfl rfl hS1 hW hru (by omega) hf1 ?_
    intro V2 f2
    exact b91_88 hF (k V2 f2)
  · intro c1
    simp (disch := omega) only [zI_eq] at c1
    rw [if_neg (by omega), if_neg (by omega), if_neg (by omega), if_neg (by omega), if_neg (by omega)] at k
    exact b91_89 hF (k V (zFt_rfl V))
