/-! taken, feed, image, back: both -/
abbrev yUnd (a k : Int) : Prop := (0 ≤ a ∧ a = k) ∨ ((a = 1 ∨ a = 2 ∨ a = 5) ∧ k = 0) ∨ (a = 3 ∧ (k = 1 ∨ k = 0)) ∨ (a = 4 ∧ (k = 2 ∨ k = 0))
def yAb (a : Int) : Int := if a = 0 then -1 else if a = 3 then 1 else if a = 4 then 2 else 0
theorem yAb_get {a : Nat} (h : a ≤ 5) : ([-1, 0, 0, 1, 2, 0] : List Int32).getD a 0 = Int32.ofInt (yAb (a : Int)) := by
  rcases (show a = 0 ∨ a = 1 ∨ a = 2 ∨ a = 3 ∨ a = 4 ∨ a = 5 by omega) with rfl | rfl | rfl | rfl | rfl | rfl <;> decide +kernel
theorem s127l {x : zXs} {F : zF} (hF : zSh F) {d : Nat} {V : Nat → Nat → Int32} {T : Nat → Nat → Int64} {Q : Option Value → zG → Prop} {t : Int} (ht : 0 ≤ t ∧ t ≤ 5) {o0 : Option Value} : ∀ (m i : Nat) (P a : Int), P = i → i + m ≤ 6 → (-1 ≤ a ∧ a ≤ 5) → ((a = 0 → 1 ≤ m) ∧ ((a = 1 ∨ a = 2 ∨ a = 5) → 2 ≤ m) ∧ ((a = 3 ∨ a = 4) → 3 ≤ m)) → (yUnd a t → Q (some (.int (Int32.ofInt 1))) (V, T)) → (¬ yUnd a t → Q (some (.int (Int32.ofInt 0))) (V, T)) → E x F (d + 1) 127 4 [o0, some (.int (Int32.ofInt (t))), some (.int (Int32.ofInt (a))), some (.int (Int32.ofInt (P)))] [] (V, T) Q := by
  intro m
  induction m with
  | zero =>
    intro i P a hP hi ha hm k1 k0
    subst hP
    have e : ¬ yUnd a t := by unfold yUnd; omega
    have k := k0 e
    repeat' (first
      | (intro c; (try simp (disch := omega) only [zI_lt, zI_le, zI_eq, zI_0, zI_add, zI_sub, zI_mul, zI_neg, Int.reduceNeg, Int.reduceAdd, Int.reduceSub, Int.reduceMul, Decidable.not_not, Int.not_lt, Int.not_le, not_true_eq_false, not_false_eq_true] at c); (try (exfalso; omega)))
      | simp only [zI_add, zI_sub, zI_mul, zI_neg]
      | apply s7 hF (v := a) (by omega) (by omega) (by omega)
      | apply b127_0 hF
      | apply b127_4 hF
      | apply b127_10 hF
      | apply b127_16 hF
      | apply b127_24 hF
      | apply b127_38 hF
      | exact k
      | with_reducible assumption
      | exact zI_nat _
      | exact zNb1
      | exact zNb0
      | omega
      | with_reducible rfl
      | exact zI_nI (by omega))
    all_goals (exfalso; omega)
  | succ m ih =>
    intro i P a hP hi ha hm k1 k0
    subst hP
    apply b127_4 hF
    · intro c
      simp (disch := omega) only [zI_le] at c
      have e : ¬ yUnd a t := by unfold yUnd; omega
      exact b127_38 hF (k0 e)
    · intro c
      apply b127_10 hF
      refine s7 hF (v := a) (by omega) (by omega) (by omega) ?_ ?_
      · intro c1
        apply b127_16 hF
        · intro c; exact absurd c (by decide)
        intro _
        obtain ⟨n, rfl⟩ : ∃ n : Nat, a = n := ⟨a.toNat, by omega⟩
        apply b127_19 hF
        · intro c2
          simp (disch := omega) only [zI_eq] at c2
          apply b127_26 hF (i1 := n) (zI_nat n) (by omega)
          rw [yAb_get (by omega), zI_add]
          have e : yAb (n : Int) = if (n : Int) = 0 then -1 else if (n : Int) = 3 then 1 else if (n : Int) = 4 then 2 else 0 := rfl
          have e2 : yUnd (yAb (n : Int)) t ↔ yUnd (n : Int) t := by
            unfold yUnd
            rw [e]
            split
            · omega
            · split
              · omega
              · split <;> omega
          apply ih (i + 1) _ _ (by omega) (by omega)
          · rw [e]; split
            · omega
            · split
              · omega
              · split <;> omega
          · rw [e]; split
            · omega
            · split
              · omega
              · split <;> omega
          · rw [e2]; exact k1
          · rw [e2]; exact k0
        · intro c2
          simp (disch := omega) only [zI_eq, Decidable.not_not] at c2
          exact b127_24 hF (k1 (by unfold yUnd; omega))
      · intro c1
        apply b127_16 hF
        · intro _
          have e : ¬ yUnd a t := by unfold yUnd; omega
          exact b127_38 hF (k0 e)
        · intro c; exact absurd rfl c
def yTaken (S : Nat → Nat → Nat) (who t : Int) : Int := if 0 ≤ t ∧ t ≤ 5 then (if 0 ≤ who ∧ who < S 5 0 then (if yUnd (S 2 who.toNat : Int) t then (S 3 who.toNat : Int) else -13) else -11) else -2
theorem s126 {x : zXs} {F : zF} (hF : zSh F) {d : Nat} {V : Nat → Nat → Int32} {T : Nat → Nat → Int64} {Q : Option Value → zG → Prop} {S : Nat → Nat → Nat} (hS : zCS 1 V S) (hW : zWf S) {who t : Int} (h_who : -2147483648 ≤ who ∧ who ≤ 2147483647) (h_t : -2147483648 ≤ t ∧ t ≤ 2147483647) (k : Q (some (.int (Int32.ofInt (yTaken S who t)))) (V, T)) : E x F (d + 2) 126 0 [some (.ref 0), some (.int (Int32.ofInt (who))), some (.int (Int32.ofInt (t)))] [] (V, T) Q := by
  have hb : zSt 1 := Or.inl rfl
  have h5 := hW.2.2.1
  unfold yTaken at k
  repeat' (first
    | (intro c; (try simp (disch := omega) only [zI_lt, zI_le, zI_eq, zI_0, zI_add, zI_sub, zI_mul, zI_neg, Int.reduceNeg, Int.reduceAdd, Int.reduceSub, Int.reduceMul, Decidable.not_not, Int.not_lt, Int.not_le, not_true_eq_false, not_false_eq_true] at c); (try (exfalso; omega)))
    | simp only [zI_add, zI_sub, zI_mul, zI_neg]
    | apply s7 hF h_t (by omega) (by omega)
    | apply s19 hF hb hS hW h_who
    | apply b126_0 hF
    | apply b126_6 hF
    | apply b126_12 hF
    | apply b126_20 hF
    | apply b126_39 hF
    | apply b126_42 hF
    | apply b126_54 hF
    | apply b126_56 hF
    | with_reducible assumption
    | exact zI_nat _
    | exact zNb1
    | exact zNb0
    | omega
    | with_reducible rfl
    | exact zI_nI (by omega))
  · rw [if_pos (by omega), if_pos (by omega)] at k
    obtain ⟨i, rfl⟩ : ∃ i : Nat, who = i := ⟨who.toNat, by omega⟩
    rw [Int.toNat_natCast] at k
    have hk := (hW.2.1 i (by omega)).1
    apply b126_26 hF (i1 := i) (zI_nat i) (by omega)
    rw [hS.2.2.1 i (by omega)]
    apply b127_0 hF
    apply s127l hF (t := t) (by omega) 6 0 0 _ rfl (by omega) (by omega) (by omega)
    · intro c
      rw [if_pos c] at k
      apply b126_39 hF
      · intro c; exact absurd c (by decide)
      intro _
      apply b126_42 hF (i1 := i) (zI_nat i) (by omega)
      rw [hS.2.2.2.1 i (by omega)]
      exact b126_56 hF k
    · intro c
      rw [if_neg c] at k
      apply b126_39 hF
      · intro _
        exact b126_54 hF (b126_56 hF k)
      · intro c; exact absurd rfl c
  · rw [if_pos (by omega), if_neg (by omega)] at k
    exact b126_23 hF k
  · rw [if_neg (by omega)] at k
    exact b126_9 hF k
theorem s210 {x : zXs} {F : zF} (hF : zSh F) {d : Nat} {V : Nat → Nat → Int32} {T : Nat → Nat → Int64} {Q : Option Value → zG → Prop} {a : Int} (ha : 0 ≤ a ∧ a ≤ 5) (k : Q (some (.int (Int32.ofInt (yAb a)))) (V, T)) : E x F d 210 0 [some (.int (Int32.ofInt (a)))] [] (V, T) Q := by
  unfold yAb at k
  repeat' (first
    | (intro c; (try simp (disch := omega) only [zI_lt, zI_le, zI_eq, zI_0, zI_add, zI_sub, zI_mul, zI_neg, Int.reduceNeg, Int.reduceAdd, Int.reduceSub, Int.reduceMul, Decidable.not_not, Int.not_lt, Int.not_le, not_true_eq_false, not_false_eq_true] at c); (try (exfalso; omega)))
    | simp only [zI_add, zI_sub, zI_mul, zI_neg]
    | apply b210_0 hF
    | apply b210_4 hF
    | apply b210_8 hF
    | apply b210_13 hF
    | apply b210_17 hF
    | apply b210_22 hF
    | apply b210_26 hF
    | apply b210_27 hF
    | (have := k; split at this <;> first | assumption | (exfalso; omega) | (split at this <;> first | assumption | (exfalso; omega) | (split at this <;> first | assumption | (exfalso; omega))))
    | with_reducible assumption
    | exact zI_nat _
    | exact zNb1
    | exact zNb0
    | omega
    | with_reducible rfl
    | exact zI_nI (by omega))
theorem s209l {x : zXs} {F : zF} (hF : zSh F) {d : Nat} {V : Nat → Nat → Int32} {T : Nat → Nat → Int64} {Q : Option Value → zG → Prop} {t : Int} (ht : 0 ≤ t ∧ t ≤ 5) {o0 o1 : Option Value} : ∀ (m : Nat) (a : Int), (-1 ≤ a ∧ a ≤ 5) → ((a = 0 → 1 ≤ m) ∧ ((a = 1 ∨ a = 2 ∨ a = 5) → 2 ≤ m) ∧ ((a = 3 ∨ a = 4) → 3 ≤ m)) → (∀ a2 : Int, yUnd a t → a2 = t → E x F (d + 1) 209 51 [o0, o1, some (.int (Int32.ofInt (t))), some (.int (Int32.ofInt (a2)))] [] (V, T) Q) → (∀ a2 : Int, ¬ yUnd a t → a2 = -1 → E x F (d + 1) 209 51 [o0, o1, some (.int (Int32.ofInt (t))), some (.int (Int32.ofInt (a2)))] [] (V, T) Q) → E x F (d + 1) 209 33 [o0, o1, some (.int (Int32.ofInt (t))), some (.int (Int32.ofInt (a)))] [] (V, T) Q := by
  intro m
  induction m with
  | zero =>
    intro a ha hm k1 k0
    apply b209_33 hF
    · intro c
      exact k0 a (by unfold yUnd; omega) (by omega)
    · intro c
      simp (disch := omega) only [zI_eq] at c
      exfalso; omega
  | succ m ih =>
    intro a ha hm k1 k0
    apply b209_33 hF
    · intro c
      simp (disch := omega) only [zI_eq] at c
      exact k0 a (by unfold yUnd; omega) (by omega)
    · intro c
      simp (disch := omega) only [zI_eq] at c
      apply b209_38 hF
      · intro c1
        simp (disch := omega) only [zI_eq] at c1
        exact k1 a (by unfold yUnd; omega) (by omega)
      · intro c1
        simp (disch := omega) only [zI_eq] at c1
        apply b209_43 hF
        apply s210 hF (by omega)
        apply b209_47 hF
        have e : yAb a = if a = 0 then -1 else if a = 3 then 1 else if a = 4 then 2 else 0 := rfl
        have e2 : yUnd (yAb a) t ↔ yUnd a t := by
          unfold yUnd
          rw [e]
          split
          · omega
          · split
            · omega
            · split <;> omega
        apply ih
        · rw [e]; split
          · omega
          · split
            · omega
            · split <;> omega
        · rw [e]; split
          · omega
          · split
            · omega
            · split <;> omega
        · rw [e2]; exact k1
        · rw [e2]; exact k0
theorem s209 {x : zXs} {F : zF} (hF : zSh F) {d : Nat} {V : Nat → Nat → Int32} {T : Nat → Nat → Int64} {Q : Option Value → zG → Prop} {S : Nat → Nat → Nat} (hS : zMS V S) (hW : zWf S) {who t : Int} (h_who : -2147483648 ≤ who ∧ who ≤ 2147483647) (h_t : -2147483648 ≤ t ∧ t ≤ 2147483647) (k : Q (some (.int (Int32.ofInt (yTaken S who t)))) (V, T)) {o3 : Option Value} : E x F (d + 2) 209 0 [some (.ref 59), some (.int (Int32.ofInt (who))), some (.int (Int32.ofInt (t))), o3] [] (V, T) Q := by
  have h5 := hW.2.2.1
  unfold yTaken at k
  repeat' (first
    | (intro c; (try simp (disch := omega) only [zI_lt, zI_le, zI_eq, zI_0, zI_add, zI_sub, zI_mul, zI_neg, Int.reduceNeg, Int.reduceAdd, Int.reduceSub, Int.reduceMul, Decidable.not_not, Int.not_lt, Int.not_le, not_true_eq_false, not_false_eq_true] at c); (try (exfalso; omega)))
    | simp only [zI_add, zI_sub, zI_mul, zI_neg]
    | apply s132v hF h_t (lo := 0) (hi := 5) (by omega) (by omega)
    | apply s136 hF hS h5 h_who
    | apply b209_0 hF
    | apply b209_9 hF
    | apply b209_15 hF
    | apply b209_20 hF
    | apply b209_33 hF
    | apply b209_38 hF
    | apply b209_43 hF
    | apply b209_47 hF
    | apply b209_51 hF
    | apply b209_56 hF
    | apply b209_67 hF
    | apply b209_69 hF
    | with_reducible assumption
    | exact zI_nat _
    | exact zNb1
    | exact zNb0
    | omega
    | with_reducible rfl
    | exact zI_nI (by omega))
  · rw [if_pos (by omega), if_pos (by omega)] at k
    obtain ⟨i, rfl⟩ : ∃ i : Nat, who = i := ⟨who.toNat, by omega⟩
    rw [Int.toNat_natCast] at k
    have hk := (hW.2.1 i (by omega)).1
    apply b209_26 hF (i1 := i) (zI_nat i) (by omega)
    rw [hS.2.2.1 i (by omega)]
    apply s209l hF (t := t) (by omega) 3 _ (by omega) (by omega)
    · intro a2 c1 c2
      subst c2
      rw [if_pos c1] at k
      apply b209_51 hF
      · intro c; exact absurd rfl c
      intro _
      have e2 : Int32.ofInt 2 * Int32.ofInt (i : Int) = Int32.ofInt ((2 * i : Nat) : Int) := by
        rw [zI_mul]; congr 1
      apply b209_56 hF (i1 := 2 * i) (e2.trans (zI_nat _)) (by omega)
      rw [hS.2.2.2.1 i (by omega)]
      exact b209_69 hF k
    · intro a2 c1 c2
      rw [if_neg c1] at k
      apply b209_51 hF
      · intro _
        exact b209_67 hF (b209_69 hF k)
      · intro c
        simp (disch := omega) only [zI_eq, Decidable.not_not] at c
        exfalso; omega
  · rw [if_pos (by omega), if_neg (by omega)] at k
    exact b209_23 hF k
  · rw [if_neg (by omega)] at k
    exact b209_12 hF k
/-- the tape: the class's, the reference's -/
def zTc (V : Nat → Nat → Int32) (B : Nat → Nat) (n : Nat) : Prop := V 45 1 = Int32.ofInt (n : Int) ∧ n ≤ 160 ∧ ∀ i, i < n → V 46 i = Int32.ofInt (B i : Int) ∧ B i ≤ 255
def zTm (V : Nat → Nat → Int32) (B : Nat → Nat) (n : Nat) : Prop := V 59 6 = Int32.ofInt (n : Int) ∧ n ≤ 160 ∧ ∀ i, i < n → V 62 i = Int32.ofInt (B i : Int) ∧ B i ≤ 255
def yFeedN (n : Nat) (l : Int) : Nat := if (0 ≤ l ∧ l ≤ 255) ∧ n < 160 then n + 1 else n
def yFeedB (B : Nat → Nat) (n : Nat) (l : Int) : Nat → Nat := if (0 ≤ l ∧ l ≤ 255) ∧ n < 160 then (fun i => if i = n then l.toNat else B i) else B
def yFeed (n : Nat) (l : Int) : Int := if 0 ≤ l ∧ l ≤ 255 then (if n < 160 then (n : Int) + 1 else -4) else -2
theorem s41 {x : zXs} {F : zF} (hF : zSh F) {d : Nat} {V : Nat → Nat → Int32} {T : Nat → Nat → Int64} {Q : Option Value → zG → Prop} {B : Nat → Nat} {n : Nat} (hT : zTc V B n) {l : Int} (h_l : -2147483648 ≤ l ∧ l ≤ 2147483647) (k : ∀ V2, zTc V2 (yFeedB B n l) (yFeedN n l) → (∀ a, a ≠ 45 → a ≠ 46 → V2 a = V a) → Q (some (.int (Int32.ofInt (yFeed n l)))) (V2, T)) : E x F (d + 2) 41 0 [some (.ref 0), some (.int (Int32.ofInt (l)))] [] (V, T) Q := by
  unfold yFeedB yFeedN yFeed at k
  obtain ⟨h1, h2, h3⟩ := hT
  repeat' (first
    | (intro c; (try simp (disch := omega) only [zI_lt, zI_le, zI_eq, zI_0, zI_add, zI_sub, zI_mul, zI_neg, Int.reduceNeg, Int.reduceAdd, Int.reduceSub, Int.reduceMul, Decidable.not_not, Int.not_lt, Int.not_le, not_true_eq_false, not_false_eq_true] at c); (try (exfalso; omega)))
    | simp only [zI_add, zI_sub, zI_mul, zI_neg]
    | apply s7 hF h_l (by omega) (by omega)
    | apply b41_0 hF
    | apply b41_8 hF
    | apply b41_22 hF
    | apply b41_25 hF
    | apply b41_35 hF
    | apply b41_37 hF
    | with_reducible assumption
    | exact zI_nat _
    | exact zNb1
    | exact zNb0
    | omega
    | with_reducible rfl
    | exact zI_nI (by omega))
  · rw [if_pos (show 0 ≤ l ∧ l ≤ 255 by omega)] at k
    obtain ⟨z, rfl⟩ : ∃ z : Nat, l = z := ⟨l.toNat, by omega⟩
    apply b41_14 hF
    apply b42_0 hF
    · rw [h1]
      intro c
      simp (disch := omega) only [zI_lt] at c
      rw [if_pos (by omega), if_pos (by omega), if_pos (by omega), Int.toNat_natCast] at k
      apply b42_12 hF (i1 := n) (by rw [h1]; exact zI_nat _) (by omega)
      rw [zu_ne (by omega), h1, zI_add]
      apply b41_22 hF
      · intro c; exact absurd c (by decide)
      intro _
      apply b41_25 hF
      rw [zuN_at]
      apply b41_37 hF
      apply k
      · refine ⟨by rw [zuN_at]; congr 1, by omega, ?_⟩
        intro i hi
        rw [zu_ne (by omega), zu_at]
        split
        · rename_i hin
          dsimp only
          rw [if_pos hin]
          exact ⟨rfl, by omega⟩
        · rename_i hin
          dsimp only
          rw [if_neg hin]
          exact h3 i (by omega)
      · intro a a1 a2
        rw [zu_ne a1, zu_ne a2]
    · rw [h1]
      intro c
      simp (disch := omega) only [zI_lt] at c
      rw [if_neg (by omega), if_neg (by omega), if_neg (by omega)] at k
      apply b42_10 hF
      apply b41_22 hF
      · intro _
        apply b41_35 hF
        apply b41_37 hF
        exact k V ⟨h1, h2, h3⟩ (fun _ _ _ => rfl)
      · intro c; exact absurd rfl c
  · rw [if_neg (by omega), if_neg (by omega), if_neg (by omega)] at k
    exact b41_11 hF (k V ⟨h1, h2, h3⟩ (fun _ _ _ => rfl))
theorem s164 {x : zXs} {F : zF} (hF : zSh F) {d : Nat} {V : Nat → Nat → Int32} {T : Nat → Nat → Int64} {Q : Option Value → zG → Prop} {B : Nat → Nat} {n : Nat} (hT : zTm V B n) {l : Int} (h_l : -2147483648 ≤ l ∧ l ≤ 2147483647) (k : ∀ V2, zTm V2 (yFeedB B n l) (yFeedN n l) → (∀ a, a ≠ 59 → a ≠ 62 → V2 a = V a) → (∀ j, j ≠ 6 → V2 59 j = V 59 j) → Q (some (.int (Int32.ofInt (yFeed n l)))) (V2, T)) : E x F (d + 2) 164 0 [some (.ref 59), some (.int (Int32.ofInt (l)))] [] (V, T) Q := by
  unfold yFeedB yFeedN yFeed at k
  obtain ⟨h1, h2, h3⟩ := hT
  repeat' (first
    | (intro c; (try simp (disch := omega) only [zI_lt, zI_le, zI_eq, zI_0, zI_add, zI_sub, zI_mul, zI_neg, Int.reduceNeg, Int.reduceAdd, Int.reduceSub, Int.reduceMul, Decidable.not_not, Int.not_lt, Int.not_le, not_true_eq_false, not_false_eq_true] at c); (try (exfalso; omega)))
    | simp only [zI_add, zI_sub, zI_mul, zI_neg]
    | apply s132v hF h_l (lo := 0) (hi := 255) (by omega) (by omega)
    | apply b164_0 hF
    | apply b164_9 hF
    | apply b164_25 hF
    | apply b164_28 hF
    | with_reducible assumption
    | exact zI_nat _
    | exact zNb1
    | exact zNb0
    | omega
    | with_reducible rfl
    | exact zI_nI (by omega))
  · rw [if_pos (show 0 ≤ l ∧ l ≤ 255 by omega)] at k
    obtain ⟨z, rfl⟩ : ∃ z : Nat, l = z := ⟨l.toNat, by omega⟩
    apply b164_15 hF
    · rw [h1]
      intro c
      simp (disch := omega) only [zI_eq] at c
      rw [if_pos (by omega), if_pos (by omega), if_pos (by omega), Int.toNat_natCast] at k
      apply b164_28 hF (i1 := n) (by rw [h1]; exact zI_nat _) (by omega)
      rw [zuN_at, zu_ne (by omega), h1, zI_add]
      apply k
      · refine ⟨by rw [zuN_at]; congr 1, by omega, ?_⟩
        intro i hi
        rw [zu_ne (by omega), zu_at]
        split
        · rename_i hin
          dsimp only
          rw [if_pos hin]
          exact ⟨rfl, by omega⟩
        · rename_i hin
          dsimp only
          rw [if_neg hin]
          exact h3 i (by omega)
      · intro a a1 a2
        rw [zu_ne a1, zu_ne a2]
      · intro j hj
        rw [zuN_nk hj, zu_ne (by omega)]
    · rw [h1]
      intro c
      simp (disch := omega) only [zI_eq, Decidable.not_not] at c
      rw [if_neg (by omega), if_neg (by omega), if_neg (by omega)] at k
      apply b164_25 hF
      exact k V ⟨h1, h2, h3⟩ (fun _ _ _ => rfl) (fun _ _ => rfl)
  · rw [if_neg (by omega), if_neg (by omega), if_neg (by omega)] at k
    exact b164_12 hF (k V ⟨h1, h2, h3⟩ (fun _ _ _ => rfl) (fun _ _ => rfl))
