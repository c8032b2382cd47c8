/-! sheet, cell: both -/
/-- the sheets: sort (-1 missing), size, items -/
def zHw (H : Nat → Int × Nat × (Nat → Int32)) : Prop := ∀ s, s < 4 → (-1 ≤ (H s).1 ∧ (H s).1 ≤ 2) ∧ (H s).2.1 ≤ 40
def zHc (V : Nat → Nat → Int32) (H : Nat → Int × Nat × (Nat → Int32)) : Prop := ∀ s, s < 4 → V (51 + 2 * s) 1 = Int32.ofInt (H s).1 ∧ V (51 + 2 * s) 2 = Int32.ofInt ((H s).2.1 : Int) ∧ ∀ i, i < (H s).2.1 → V (51 + 2 * s + 1) i = (H s).2.2 i
def zHo (V : Nat → Nat → Int32) (s : Nat) (X : Int × Nat × (Nat → Int32)) : Prop := V 77 s = Int32.ofInt (if X.1 = -1 then 0 else 1) ∧ (X.1 ≠ -1 → V 78 s = Int32.ofInt X.1 ∧ V 79 s = Int32.ofInt (X.2.1 : Int) ∧ ∀ i, i < X.2.1 → V 80 (40 * s + i) = X.2.2 i)
def zHm (V : Nat → Nat → Int32) (H : Nat → Int × Nat × (Nat → Int32)) : Prop := ∀ s, s < 4 → zHo V s (H s)
theorem zHc_fr {V V2 : Nat → Nat → Int32} {H : Nat → Int × Nat × (Nat → Int32)} (h : zHc V H) (hf : ∀ a, 51 ≤ a → a ≤ 58 → V2 a = V a) : zHc V2 H := by
  intro s hs
  rw [hf (51 + 2 * s) (by omega) (by omega), hf (51 + 2 * s + 1) (by omega) (by omega)]
  exact h s hs
theorem zHm_fr {V V2 : Nat → Nat → Int32} {H : Nat → Int × Nat × (Nat → Int32)} (h : zHm V H) (hf : ∀ a, 77 ≤ a → a ≤ 80 → V2 a = V a) : zHm V2 H := by
  intro s hs
  have g := h s hs
  unfold zHo at g ⊢
  rw [hf 77 (by omega) (by omega), hf 78 (by omega) (by omega), hf 79 (by omega) (by omega), hf 80 (by omega) (by omega)]
  exact g
theorem zSt4_k {s : Nat} (h : s < 4) : zSt4 (51 + 2 * s) := by
  unfold zSt4; omega
theorem s194 {x : zXs} {F : zF} (hF : zSh F) {d : Nat} {V : Nat → Nat → Int32} {T : Nat → Nat → Int64} {Q : Option Value → zG → Prop} {v : Int} (h_v : -2147483648 ≤ v ∧ v ≤ 2147483647) (k1 : 0 ≤ v ∧ v ≤ 3 → Q (some (.int (Int32.ofInt 1))) (V, T)) (k0 : ¬ (0 ≤ v ∧ v ≤ 3) → Q (some (.int (Int32.ofInt 0))) (V, T)) : E x F (d + 1) 194 0 [some (.int (Int32.ofInt (v)))] [] (V, T) Q := by
  repeat' (first
    | (intro c; (try simp (disch := omega) only [zI_lt, zI_le, zI_eq, zI_0, zI_add, zI_sub, zI_mul, zI_neg, Int.reduceNeg, Int.reduceAdd, Int.reduceSub, Int.reduceMul, Decidable.not_not, Int.not_lt, Int.not_le, not_true_eq_false, not_false_eq_true] at c); (try (exfalso; omega)))
    | simp only [zI_add, zI_sub, zI_mul, zI_neg]
    | apply s132v hF h_v (lo := 0) (hi := 3) (by omega) (by omega)
    | apply b194_0 hF
    | apply b194_9 hF
    | exact k1 (by omega)
    | exact k0 (by omega)
    | with_reducible assumption
    | exact zI_nat _
    | exact zNb1
    | exact zNb0
    | omega
    | with_reducible rfl
    | exact zI_nI (by omega))
theorem s102 {x : zXs} {F : zF} (hF : zSh F) {d : Nat} {V : Nat → Nat → Int32} {T : Nat → Nat → Int64} {Q : Option Value → zG → Prop} {l : Nat} (hl : zSt4 l) {so : Int} (h1 : -1 ≤ so ∧ so ≤ 2) (h : V l 1 = Int32.ofInt so) (k1 : so = -1 → Q (some (.int (Int32.ofInt 1))) (V, T)) (k0 : ¬ so = -1 → Q (some (.int (Int32.ofInt 0))) (V, T)) : E x F d 102 0 [some (.ref l)] [] (V, T) Q := by
  apply b102_0 hF hl
  · rw [h]
    intro c
    simp (disch := omega) only [zI_eq] at c
    exact b102_12 hF (b102_13 hF zNb0 (k0 c))
  · rw [h]
    intro c
    simp (disch := omega) only [zI_eq, Decidable.not_not] at c
    exact b102_8 hF (b102_13 hF zNb1 (k1 c))
theorem s113l {x : zXs} {F : zF} (hF : zSh F) {d : Nat} {V : Nat → Nat → Int32} {T : Nat → Nat → Int64} {Q : Option Value → zG → Prop} {l N : Nat} (hl : zsh F l = 100 ∧ zln F l = N) (hN : N ≤ 1000) (k : ∀ V2, (∀ j, j < N → V2 l j = Int32.ofInt 0) → (∀ a, a ≠ l → V2 a = V a) → Q none (V2, T)) : ∀ (m i : Nat) (V1 : Nat → Nat → Int32) (P : Int), P = i → i + m = N → (∀ j, j < i → V1 l j = Int32.ofInt 0) → (∀ a, a ≠ l → V1 a = V a) → E x F d 113 5 [some (.ref l), some (.int (Int32.ofInt (0))), some (.int (Int32.ofInt (P))), some (.int (nI N))] [] (V1, T) Q := by
  have eN : nI N = Int32.ofInt (N : Int) := (zI_nat N).symm
  intro m
  induction m with
  | zero =>
    intro i V1 P hP hi hj hf
    subst hP
    have hiN : i = N := by omega
    subst hiN
    apply b113_5 hF
    · intro _
      exact b113_20 hF (k V1 hj hf)
    · rw [eN]
      intro c
      simp (disch := omega) only [zI_le] at c
      exfalso; omega
  | succ m ih =>
    intro i V1 P hP hi hj hf
    subst hP
    apply b113_5 hF
    · rw [eN]
      intro c
      simp (disch := omega) only [zI_le] at c
      exfalso; omega
    · intro _
      apply b113_10 hF hl (by omega) (i1 := i) (zI_nat i) (by omega)
      rw [zI_add]
      apply ih (i + 1) _ _ (by omega) (by omega)
      · intro j hj2
        rw [zu_at]
        split
        · rfl
        · exact hj j (by omega)
      · intro a ha
        rw [zu_ne ha]; exact hf a ha
theorem s112 {x : zXs} {F : zF} (hF : zSh F) {d : Nat} {V : Nat → Nat → Int32} {T : Nat → Nat → Int64} {Q : Option Value → zG → Prop} {l : Nat} (hl : zSt4 l) {so n : Int} (hn : 0 ≤ n ∧ n ≤ 40) (k : ∀ V2, V2 l 1 = Int32.ofInt so → V2 l 2 = Int32.ofInt n → (∀ j, j < 40 → V2 (l + 1) j = Int32.ofInt 0) → (∀ a, a ≠ l → a ≠ l + 1 → V2 a = V a) → Q none (V2, T)) : E x F (d + 1) 112 0 [some (.ref l), some (.int (Int32.ofInt (so))), some (.int (Int32.ofInt (n)))] [] (V, T) Q := by
  apply b112_0 hF hl
  apply s30c hF (by omega) (by omega) (by omega)
  have e : yCl n 0 40 = n := by
    unfold yCl
    rw [if_neg (by omega), if_neg (by omega)]
  rw [e]
  apply b112_13 hF hl hl
  apply b113_0 hF (zSt4_a0 hF hl) (by omega)
  refine s113l hF (zSt4_a0 hF hl) (V := zu (zu V l 1 (Int32.ofInt so)) l 2 (Int32.ofInt n)) (by omega) ?_ 40 0 _ 0 rfl rfl (fun j hj => absurd hj (Nat.not_lt_zero _)) (fun _ _ => rfl)
  intro V2 h1 h2
  apply b112_24 hF
  apply k
  · rw [h2 l (by omega), zuN_nk (by omega), zuN_at]
  · rw [h2 l (by omega), zuN_at]
  · exact h1
  · intro a a1 a2
    rw [h2 a a2, zu_ne a1, zu_ne a1]
def ySheetH (H : Nat → Int × Nat × (Nat → Int32)) (s sort n : Int) : Nat → Int × Nat × (Nat → Int32) := if (0 ≤ s ∧ s ≤ 3) ∧ (-1 ≤ sort ∧ sort ≤ 2) ∧ (sort = -1 ∨ 0 ≤ n ∧ n ≤ 40) then (fun t => if t = s.toNat then (sort, (if sort = -1 then 0 else n.toNat), fun _ => Int32.ofInt 0) else H t) else H
def ySheet (s sort n : Int) : Int := if (0 ≤ s ∧ s ≤ 3) ∧ (-1 ≤ sort ∧ sort ≤ 2) then (if sort = -1 then 1 else if 40 < n then -2 else if n < 0 then -14 else 1) else -2
theorem ySheet_w {H : Nat → Int × Nat × (Nat → Int32)} (h : zHw H) (s sort n : Int) : zHw (ySheetH H s sort n) := by
  unfold ySheetH
  split
  · intro t ht
    dsimp only
    split
    · dsimp only
      split <;> omega
    · exact h t ht
  · exact h
theorem s122 {x : zXs} {F : zF} (hF : zSh F) {d : Nat} {V : Nat → Nat → Int32} {T : Nat → Nat → Int64} {Q : Option Value → zG → Prop} {H : Nat → Int × Nat × (Nat → Int32)} (hH : zHc V H) {s sort n : Int} (h_s : -2147483648 ≤ s ∧ s ≤ 2147483647) (h_sort : -2147483648 ≤ sort ∧ sort ≤ 2147483647) (h_n : -2147483648 ≤ n ∧ n ≤ 2147483647) (k : ∀ V2, zHc V2 (ySheetH H s sort n) → (∀ a, (a < 51 ∨ 58 < a) → V2 a = V a) → Q (some (.int (Int32.ofInt (ySheet s sort n)))) (V2, T)) : E x F (d + 2) 122 0 [some (.ref 0), some (.int (Int32.ofInt (s))), some (.int (Int32.ofInt (sort))), some (.int (Int32.ofInt (n)))] [] (V, T) Q := by
  unfold ySheetH ySheet at k
  have good : (0 ≤ s ∧ s ≤ 3) ∧ (-1 ≤ sort ∧ sort ≤ 2) ∧ (sort = -1 ∨ 0 ≤ n ∧ n ≤ 40) → ∀ (V2 : Nat → Nat → Int32) (m : Nat), m = (if sort = -1 then 0 else n.toNat) → V2 (51 + 2 * s.toNat) 1 = Int32.ofInt sort → V2 (51 + 2 * s.toNat) 2 = Int32.ofInt (m : Int) → (∀ j, j < 40 → V2 (51 + 2 * s.toNat + 1) j = Int32.ofInt 0) → (∀ a, a ≠ 51 + 2 * s.toNat → a ≠ 51 + 2 * s.toNat + 1 → V2 a = V a) → Q (some (.int (Int32.ofInt 1))) (V2, T) := by
    intro c V2 m hm h1 h2 h3 h4
    have K := k V2
    rw [if_pos c, if_pos (show (0 ≤ s ∧ s ≤ 3) ∧ (-1 ≤ sort ∧ sort ≤ 2) from ⟨c.1, c.2.1⟩)] at K
    have e : (if sort = -1 then (1 : Int) else if 40 < n then -2 else if n < 0 then -14 else 1) = 1 := by
      split
      · rfl
      · rw [if_neg (by omega), if_neg (by omega)]
    rw [e, ← hm] at K
    have hm40 : m ≤ 40 := by
      rw [hm]; split <;> omega
    apply K
    · intro t ht
      dsimp only
      by_cases hts : t = s.toNat
      · subst hts
        rw [if_pos rfl]
        exact ⟨h1, h2, fun i hi => h3 i (by dsimp only at hi; omega)⟩
      · rw [if_neg hts, h4 (51 + 2 * t) (by omega) (by omega), h4 (51 + 2 * t + 1) (by omega) (by omega)]
        exact hH t ht
    · intro a ha
      exact h4 a (by omega) (by omega)
  have bad : ∀ z : Int, ¬ ((0 ≤ s ∧ s ≤ 3) ∧ (-1 ≤ sort ∧ sort ≤ 2) ∧ (sort = -1 ∨ 0 ≤ n ∧ n ≤ 40)) → ((¬ ((0 ≤ s ∧ s ≤ 3) ∧ (-1 ≤ sort ∧ sort ≤ 2)) ∨ 40 < n) ∧ z = -2 ∨ ((0 ≤ s ∧ s ≤ 3) ∧ (-1 ≤ sort ∧ sort ≤ 2)) ∧ n < 0 ∧ z = -14) → Q (some (.int (Int32.ofInt z))) (V, T) := by
    intro z c hz
    have K := k V
    rw [if_neg c] at K
    have K := K hH (fun _ _ => rfl)
    rcases hz with ⟨c1 | c1, rfl⟩ | ⟨c1, c2, rfl⟩
    · rw [if_neg c1] at K
      exact K
    · by_cases c3 : (0 ≤ s ∧ s ≤ 3) ∧ (-1 ≤ sort ∧ sort ≤ 2)
      · rw [if_pos c3, if_neg (by omega), if_pos c1] at K
        exact K
      · rw [if_neg c3] at K
        exact K
    · rw [if_pos c1, if_neg (by omega), if_neg (by omega), if_pos c2] at K
      exact K
  repeat' (first
    | (intro c; (try simp (disch := omega) only [zI_lt, zI_le, zI_eq, zI_0, zI_add, zI_sub, zI_mul, zI_neg, Int.reduceNeg, Int.reduceAdd, Int.reduceSub, Int.reduceMul, Decidable.not_not, Int.not_lt, Int.not_le, not_true_eq_false, not_false_eq_true] at c); (try (exfalso; omega)))
    | simp only [zI_add, zI_sub, zI_mul, zI_neg]
    | apply s101 hF h_s
    | apply s7 hF h_sort (by omega) (by omega)
    | apply b122_0 hF
    | apply b122_5 hF
    | apply b122_8 hF
    | apply b122_14 hF
    | apply b122_17 hF
    | apply b122_20 hF
    | apply b122_36 hF
    | apply b122_38 hF
    | apply b122_44 hF
    | apply b122_47 hF
    | apply b122_51 hF
    | apply b122_65 hF
    | exact bad _ (by omega) (by omega)
    | with_reducible assumption
    | exact zI_nat _
    | exact zNb1
    | exact zNb0
    | omega
    | with_reducible rfl
    | exact zI_nI (by omega))
  · obtain ⟨t, rfl⟩ : ∃ t : Nat, s = t := ⟨s.toNat, by omega⟩
    obtain ⟨m, rfl⟩ : ∃ m : Nat, n = m := ⟨n.toNat, by omega⟩
    simp only [Int.toNat_natCast] at good
    apply b122_54 hF (i1 := t) (zI_nat t) (by omega)
    apply s112 hF (zSt4_k (by omega)) (by omega)
    intro V2 h1 h2 h3 h4
    apply b122_65 hF
    exact good (by omega) V2 m (by rw [if_neg (by omega)]) h1 h2 h3 h4
  · obtain ⟨t, rfl⟩ : ∃ t : Nat, s = t := ⟨s.toNat, by omega⟩
    simp only [Int.toNat_natCast] at good
    have hs : sort = -1 := by omega
    subst hs
    apply b122_25 hF (i1 := t) (zI_nat t) (by omega)
    apply s112 hF (zSt4_k (by omega)) (by omega)
    intro V2 h1 h2 h3 h4
    apply b122_36 hF
    exact good (by omega) V2 0 (by rw [if_pos rfl]) h1 h2 h3 h4
