/-! go: both -/
/-- digits of an order: whether it is one, as the class reads it, as the reference does -/
def yIs (c : Nat) : Nat → Nat → Nat → Bool
  | 0, rest, _ => decide (rest = 0)
  | m + 1, rest, seen => if (0 < rest % 10 ∧ rest % 10 ≤ c) ∧ seen.testBit (rest % 10 - 1) = false then yIs c m (rest / 10) (seen ||| 2 ^ (rest % 10 - 1)) else false
def yIr (c : Nat) : Nat → Nat → Nat → Bool
  | 0, rest, seen => decide (rest = 0 ∧ seen = 2 ^ c - 1)
  | m + 1, rest, seen => if 0 < rest % 10 ∧ rest % 10 ≤ c then yIr c m (rest / 10) (seen ||| 2 ^ (rest % 10 - 1)) else false
theorem zpc_set {s d : Nat} : ∀ k, zpc k (s ||| 2 ^ d) = zpc k s + (if d < k ∧ s.testBit d = false then 1 else 0) := by
  intro k
  induction k with
  | zero => rw [if_neg (by omega)]; rfl
  | succ k ih =>
    rw [zpc_succ, zpc_succ, ih, Nat.testBit_or, Nat.testBit_two_pow]
    by_cases hd : d = k
    · subst hd
      rw [if_neg (by omega), Nat.add_zero]
      cases hs : s.testBit d with
      | false => rw [if_pos ⟨by omega, rfl⟩]; simp
      | true => rw [if_neg (by simp)]; simp
    · have h1 : (decide (d = k)) = false := by simp [hd]
      rw [h1, Bool.or_false]
      by_cases hc : d < k ∧ s.testBit d = false
      · rw [if_pos hc, if_pos ⟨by omega, hc.2⟩]; omega
      · rw [if_neg hc, if_neg (fun g => hc ⟨by omega, g.2⟩)]; omega
theorem zpc_full {c s : Nat} (hs : s < 2 ^ c) : zpc c s = c ↔ s = 2 ^ c - 1 := by
  have g := zpc_gap hs c
  rw [if_neg (Nat.lt_irrefl _)] at g
  constructor
  · intro h
    apply Decidable.byContradiction
    intro h2
    have := zpc_pos c (2 ^ c - 1 - s) (by omega) (by omega)
    omega
  · intro h
    subst h
    rw [Nat.sub_self, zpc_zero] at g
    omega
theorem yI_eq {c : Nat} : ∀ (m rest seen : Nat), seen < 2 ^ c → (zpc c seen + m = c → yIs c m rest seen = yIr c m rest seen) ∧ (zpc c seen + m < c → yIr c m rest seen = false) := by
  intro m
  induction m with
  | zero =>
    intro rest seen hs
    have g := zpc_full hs
    refine ⟨fun h => ?_, fun h => ?_⟩
    · have h2 : seen = 2 ^ c - 1 := g.mp (by omega)
      simp only [yIs, yIr, h2, and_true]
    · have h2 : ¬ seen = 2 ^ c - 1 := fun e => by have := g.mpr e; omega
      simp only [yIr, h2, and_false, decide_false]
  | succ m ih =>
    intro rest seen hs
    simp only [yIs, yIr]
    by_cases hd : 0 < rest % 10 ∧ rest % 10 ≤ c
    · have hlt : seen ||| 2 ^ (rest % 10 - 1) < 2 ^ c := Nat.or_lt_two_pow hs (Nat.pow_lt_pow_right (by omega) (by omega))
      have hz := zpc_set (s := seen) (d := rest % 10 - 1) c
      have I := ih (rest / 10) _ hlt
      rw [if_pos hd]
      cases hb : seen.testBit (rest % 10 - 1) with
      | false =>
        rw [if_pos ⟨hd, rfl⟩]
        rw [if_pos ⟨by omega, hb⟩] at hz
        exact ⟨fun h => I.1 (by omega), fun h => I.2 (by omega)⟩
      | true =>
        rw [if_neg (fun g => absurd g.2 (by decide))]
        rw [if_neg (fun g => by rw [hb] at g; exact absurd g.2 (by decide))] at hz
        exact ⟨fun h => (I.2 (by omega)).symm, fun h => I.2 (by omega)⟩
    · rw [if_neg hd, if_neg (fun g => hd g.1)]
      exact ⟨fun _ => rfl, fun _ => rfl⟩
theorem yIs_eq (c rest : Nat) : yIs c c rest 0 = yIr c c rest 0 := (yI_eq c rest 0 (Nat.two_pow_pos c)).1 (by rw [zpc_zero, Nat.zero_add])
/-- who goes at a place of an order -/
def yAt (order c k : Nat) : Nat := order / 10 ^ (c - 1 - k) % 10 - 1
theorem zI_tdiv {a : Int} (h1 : -2147483648 ≤ a ∧ a < 0) : ∃ z : Int, (-10 ≤ z ∧ z ≤ -1) ∧ (Int32.ofInt a - Int32.ofInt a / Int32.ofInt 10 * Int32.ofInt 10) - Int32.ofInt 1 = Int32.ofInt z := by
  obtain ⟨n, rfl⟩ : ∃ n : Nat, a = -(n : Int) := ⟨a.natAbs, by omega⟩
  have e : Int32.ofInt (-(n : Int)) / Int32.ofInt 10 = Int32.ofInt (-((n : Int) / 10)) := by
    apply Int32.toInt_inj.mp
    rw [Int32.toInt_div, zI_toInt (by omega) (by omega), zI_toInt (by omega) (by omega), zI_toInt (by omega) (by omega), Int.neg_tdiv, Int.tdiv_eq_ediv_of_nonneg (by omega)]
    exact Int.bmod_eq_of_le (by omega) (by omega)
  refine ⟨-(n : Int) - -((n : Int) / 10) * 10 - 1, by omega, ?_⟩
  rw [e, zI_mul, zI_sub, zI_sub]
theorem s77l {x : zXs} {F : zF} (hF : zSh F) {d : Nat} {V : Nat → Nat → Int32} {T : Nat → Nat → Int64} {Q : Option Value → zG → Prop} {c order : Nat} (hc : c ≤ 5) (ho : order ≤ 2147483647) (h43 : V 43 1 = Int32.ofInt (c : Int)) {o1 o2 : Option Value} (k1 : yIs c c order 0 = true → ∀ V2, (∀ j, j < c → V2 44 j = Int32.ofInt (yAt order c j : Int) ∧ yAt order c j < c) → (∀ a, a ≠ 44 → V2 a = V a) → Q (some (.int (Int32.ofInt 1))) (V2, T)) (k0 : yIs c c order 0 = false → ∀ V2, (∀ a, a ≠ 44 → V2 a = V a) → Q (some (.int (Int32.ofInt 0))) (V2, T)) : ∀ (m rest seen : Nat) (V1 : Nat → Nat → Int32) (P : Int), P = (m : Int) - 1 → m ≤ c → rest = order / 10 ^ (c - m) → seen < 2 ^ c → yIs c m rest seen = yIs c c order 0 → (∀ j, m ≤ j → j < c → V1 44 j = Int32.ofInt (yAt order c j : Int) ∧ yAt order c j < c) → (∀ a, a ≠ 44 → V1 a = V a) → ∀ o6 : Option Value, E x F (d + 1) 77 23 [some (.ref 43), o1, o2, some (.int (Int32.ofInt ((seen:Int)))), some (.int (Int32.ofInt ((rest:Int)))), some (.int (Int32.ofInt (P))), o6] [] (V1, T) Q := by
  intro m
  induction m with
  | zero =>
    intro rest seen V1 P hP hm hr hs he hj hf o6
    subst hP
    have hr2 : rest ≤ order := by rw [hr]; exact Nat.div_le_self _ _
    simp only [yIs] at he
    apply b77_23 hF
    · intro _
      apply b77_93 hF
      · intro c1
        simp (disch := omega) only [zI_eq, zI_0] at c1
        have e : yIs c c order 0 = false := by rw [← he]; simp only [decide_eq_false_iff_not]; omega
        exact b77_102 hF (b77_103 hF zNb0 (k0 e V1 hf))
      · intro c1
        simp (disch := omega) only [zI_eq, zI_0, Decidable.not_not] at c1
        have e : yIs c c order 0 = true := by rw [← he]; simp only [decide_eq_true_eq]; omega
        exact b77_98 hF (b77_103 hF zNb1 (k1 e V1 (fun j hjc => hj j (Nat.zero_le _) hjc) hf))
    · intro c1
      exact absurd (by decide) c1
  | succ m ih =>
    intro rest seen V1 P hP hm hr hs he hj hf o6
    have eP : P = (m : Int) := by omega
    subst eP
    have hr2 : rest ≤ order := by rw [hr]; exact Nat.div_le_self _ _
    have hp5 : 2 ^ c ≤ 2 ^ 5 := Nat.pow_le_pow_right (by omega) hc
    have ed : (Int32.ofInt (rest : Int) - Int32.ofInt (rest : Int) / Int32.ofInt 10 * Int32.ofInt 10) - Int32.ofInt 1 = Int32.ofInt (((rest % 10 : Nat) : Int) - 1) := by
      rw [zI_div (by omega) (by omega), zI_mul, zI_sub, zI_sub]
      congr 1; omega
    have eq : Int32.ofInt (rest : Int) / Int32.ofInt 10 = Int32.ofInt ((rest / 10 : Nat) : Int) := by
      rw [zI_div (by omega) (by omega)]
      congr 1
    have hat : yAt order c m = rest % 10 - 1 := by
      unfold yAt
      rw [hr, show c - 1 - m = c - (m + 1) by omega]
    have hrn : rest / 10 = order / 10 ^ (c - m) := by
      rw [hr, Nat.div_div_eq_div_mul, ← Nat.pow_succ, show (c - (m + 1)).succ = c - m by omega]
    simp only [yIs] at he
    apply b77_23 hF
    · intro c1
      simp (disch := omega) only [zI_lt, zI_0] at c1
      exfalso; omega
    intro _
    have h43b : V1 43 1 = Int32.ofInt (c : Int) := by rw [hf 43 (by omega)]; exact h43
    apply b77_28 hF
    rw [h43b, ed, zI_sub]
    refine s7 hF (v := ((rest % 10 : Nat) : Int) - 1) (lo := 0) (hi := (c : Int) - 1) (by omega) (by omega) (by omega) ?_ ?_
    · intro c1
      apply b77_49 hF
      · intro c2; exact absurd c2 (by decide)
      intro _
      have e1 : ((rest % 10 : Nat) : Int) - 1 = ((rest % 10 - 1 : Nat) : Int) := by omega
      rw [e1]
      apply b77_52 hF
      · rw [zbit_one (by omega) (by omega)]
        intro c2
        have c3 : seen.testBit (rest % 10 - 1) = false := by
          cases h : seen.testBit (rest % 10 - 1) with
          | false => rfl
          | true => exact absurd h c2
        rw [if_pos ⟨by omega, c3⟩] at he
        apply b77_64 hF (i1 := m) (zI_nat m) (by omega)
        have e2 : Int32.ofInt (seen : Int) ||| (Int32.ofInt 1 <<< (Int32.ofInt ((rest % 10 - 1 : Nat) : Int) &&& 31)) = Int32.ofInt ((seen ||| 2 ^ (rest % 10 - 1) : Nat) : Int) := by
          rw [zB_put (by omega), Nat.shiftLeft_eq, Nat.one_mul]
        rw [e2, eq, zI_add]
        apply ih (rest / 10) _ _ _ (by omega) (by omega) hrn (Nat.or_lt_two_pow hs (Nat.pow_lt_pow_right (by omega) (by omega))) he
        · intro j hj1 hj2
          rw [zu_at]
          by_cases hjm : j = m
          · subst hjm
            rw [if_pos rfl, hat]
            exact ⟨rfl, by omega⟩
          · rw [if_neg hjm]
            exact hj j (by omega) hj2
        · intro a ha
          rw [zu_ne ha]; exact hf a ha
      · rw [zbit_one (by omega) (by omega)]
        intro c2
        have c3 := Decidable.not_not.mp c2
        rw [if_neg (fun g => by rw [c3] at g; exact absurd g.2 (by decide))] at he
        exact b77_62 hF (k0 he.symm V1 hf)
    · intro c1
      rw [if_neg (fun g => by omega)] at he
      apply b77_49 hF
      · intro _
        exact b77_62 hF (k0 he.symm V1 hf)
      · intro c2; exact absurd rfl c2
theorem s77 {x : zXs} {F : zF} (hF : zSh F) {d : Nat} {V : Nat → Nat → Int32} {T : Nat → Nat → Int64} {Q : Option Value → zG → Prop} {c : Nat} (hc : c ≤ 5) {order : Int} (h_order : -2147483648 ≤ order ∧ order ≤ 2147483647) {o3 o4 o5 o6 : Option Value} (k1 : 0 ≤ order → yIs c c order.toNat 0 = true → ∀ V2, V2 43 1 = Int32.ofInt (c : Int) → (∀ j, j < c → V2 44 j = Int32.ofInt (yAt order.toNat c j : Int) ∧ yAt order.toNat c j < c) → (∀ a, a ≠ 43 → a ≠ 44 → V2 a = V a) → Q (some (.int (Int32.ofInt 1))) (V2, T)) (k0 : ¬ (0 ≤ order ∧ yIs c c order.toNat 0 = true) → ∀ V2, (∀ a, a ≠ 43 → a ≠ 44 → V2 a = V a) → Q (some (.int (Int32.ofInt 0))) (V2, T)) : E x F (d + 1) 77 0 [some (.ref 43), some (.int (Int32.ofInt (order))), some (.int (Int32.ofInt ((c:Int)))), o3, o4, o5, o6] [] (V, T) Q := by
  apply b77_0 hF
  apply s30c hF (by omega) (by omega) (by omega)
  have e : yCl (c : Int) 0 5 = c := by
    unfold yCl
    rw [if_neg (by omega), if_neg (by omega)]
  rw [e]
  apply b77_7 hF
  rw [zuN_at, zI_sub]
  by_cases hneg : order < 0
  · have K := fun V2 h => k0 (fun g => by omega) V2 h
    cases c with
    | zero =>
      apply b77_23 hF
      · intro _
        apply b77_93 hF
        · intro _
          exact b77_102 hF (b77_103 hF zNb0 (K _ (fun a h1 _ => zu_ne h1)))
        · intro c1
          simp (disch := omega) only [zI_eq, zI_0, Decidable.not_not] at c1
          exfalso; omega
      · intro c1
        exact absurd (by decide) c1
    | succ c =>
      apply b77_23 hF
      · intro c1
        simp (disch := omega) only [zI_lt, zI_0] at c1
        exfalso; omega
      intro _
      apply b77_28 hF
      obtain ⟨z, hz, ez⟩ := zI_tdiv (a := order) (by omega)
      rw [zuN_at, ez, zI_sub]
      refine s7 hF (v := z) (lo := 0) (hi := ((c + 1 : Nat) : Int) - 1) (by omega) (by omega) (by omega) ?_ ?_
      · intro c1
        exfalso; omega
      · intro _
        apply b77_49 hF
        · intro _
          exact b77_62 hF (K _ (fun a h1 _ => zu_ne h1))
        · intro c2; exact absurd rfl c2
  · obtain ⟨n, rfl⟩ : ∃ n : Nat, order = n := ⟨order.toNat, by omega⟩
    rw [Int.toNat_natCast] at k1 k0
    refine s77l hF (c := c) (order := n) hc (by omega) (V := zu V 43 1 (Int32.ofInt (c : Int))) zuN_at ?_ ?_ c n 0 _ _ rfl (Nat.le_refl _) (by rw [Nat.sub_self, Nat.pow_zero, Nat.div_one]) (Nat.two_pow_pos c) rfl (fun j h1 h2 => by omega) (fun _ _ => rfl) _
    · intro h V2 hj hf
      exact k1 (by omega) h V2 (by rw [hf 43 (by omega), zuN_at]) hj (fun a a1 a2 => by rw [hf a a2, zu_ne a1])
    · intro h V2 hf
      exact k0 (fun g => by rw [g.2] at h; exact absurd h (by decide)) V2 (fun a a1 a2 => by rw [hf a a2, zu_ne a1])
theorem s174l {x : zXs} {F : zF} (hF : zSh F) {d : Nat} {V : Nat → Nat → Int32} {T : Nat → Nat → Int64} {Q : Option Value → zG → Prop} {S : Nat → Nat → Nat} {c order : Nat} (hc : c ≤ 5) (hS : zMS V S) (hcr : S 5 0 = c) (ho : order ≤ 2147483647) (k1 : yIr c c order 0 = true → ∀ V2, (∀ j, j < c → V2 70 j = Int32.ofInt (yAt order c j : Int) ∧ yAt order c j < c) → (∀ a, a ≠ 70 → V2 a = V a) → Q (some (.int (Int32.ofInt 1))) (V2, T)) (k0 : yIr c c order 0 = false → ∀ V2, (∀ a, a ≠ 70 → V2 a = V a) → Q (some (.int (Int32.ofInt 0))) (V2, T)) : ∀ (m rest seen : Nat) (V1 : Nat → Nat → Int32) (P : Int), P = (m : Int) - 1 → m ≤ c → rest = order / 10 ^ (c - m) → seen < 2 ^ c → yIr c m rest seen = yIr c c order 0 → (∀ j, m ≤ j → j < c → V1 70 j = Int32.ofInt (yAt order c j : Int) ∧ yAt order c j < c) → (∀ a, a ≠ 70 → V1 a = V a) → E x F (d + 2) 174 12 [some (.ref 59), some (.int (Int32.ofInt ((order:Int)))), some (.int (Int32.ofInt ((seen:Int)))), some (.int (Int32.ofInt ((rest:Int)))), some (.int (Int32.ofInt (P)))] [] (V1, T) Q := by
  have hp5 : 2 ^ c ≤ 2 ^ 5 := Nat.pow_le_pow_right (by omega) hc
  intro m
  induction m with
  | zero =>
    intro rest seen V1 P hP hm hr hs he hj hf
    subst hP
    have hr2 : rest ≤ order := by rw [hr]; exact Nat.div_le_self _ _
    simp only [yIr] at he
    apply b174_12 hF
    · intro _
      apply b174_73 hF
      · intro c1
        simp (disch := omega) only [zI_eq, zI_0] at c1
        have e : yIr c c order 0 = false := by rw [← he]; simp only [decide_eq_false_iff_not]; omega
        exact b174_93 hF (b174_94 hF zNb0 (k0 e V1 hf))
      · intro c1
        simp (disch := omega) only [zI_eq, zI_0, Decidable.not_not] at c1
        apply b174_77 hF
        · rw [hf 59 (by omega), hS.2.2.2.2.2.1, hcr, zI_one (by omega)]
          intro c2
          simp (disch := omega) only [zI_eq] at c2
          have e : yIr c c order 0 = false := by rw [← he]; simp only [decide_eq_false_iff_not]; omega
          exact b174_93 hF (b174_94 hF zNb0 (k0 e V1 hf))
        · rw [hf 59 (by omega), hS.2.2.2.2.2.1, hcr, zI_one (by omega)]
          intro c2
          simp (disch := omega) only [zI_eq, Decidable.not_not] at c2
          have e : yIr c c order 0 = true := by rw [← he]; simp only [decide_eq_true_eq]; omega
          exact b174_89 hF (b174_94 hF zNb1 (k1 e V1 (fun j hjc => hj j (Nat.zero_le _) hjc) hf))
    · intro c1
      exact absurd (by decide) c1
  | succ m ih =>
    intro rest seen V1 P hP hm hr hs he hj hf
    have eP : P = (m : Int) := by omega
    subst eP
    have hr2 : rest ≤ order := by rw [hr]; exact Nat.div_le_self _ _
    have ed : (Int32.ofInt (rest : Int) - Int32.ofInt (rest : Int) / Int32.ofInt 10 * Int32.ofInt 10) - Int32.ofInt 1 = Int32.ofInt (((rest % 10 : Nat) : Int) - 1) := by
      rw [zI_div (by omega) (by omega), zI_mul, zI_sub, zI_sub]
      congr 1; omega
    have eq : Int32.ofInt (rest : Int) / Int32.ofInt 10 = Int32.ofInt ((rest / 10 : Nat) : Int) := by
      rw [zI_div (by omega) (by omega)]
      congr 1
    have hat : yAt order c m = rest % 10 - 1 := by
      unfold yAt
      rw [hr, show c - 1 - m = c - (m + 1) by omega]
    have hrn : rest / 10 = order / 10 ^ (c - m) := by
      rw [hr, Nat.div_div_eq_div_mul, ← Nat.pow_succ, show (c - (m + 1)).succ = c - m by omega]
    simp only [yIr] at he
    apply b174_12 hF
    · intro c1
      simp (disch := omega) only [zI_lt, zI_0] at c1
      exfalso; omega
    intro _
    apply b174_17 hF (i1 := m) (zI_nat m) (by omega)
    · intro c1
      simp (disch := omega) only [zI_lt, zI_0] at c1
      exfalso; omega
    intro _
    rw [ed, eq]
    have hS1 : zMS (zu V1 70 m (Int32.ofInt (((rest % 10 : Nat) : Int) - 1))) S := zMS_fr hS (by rw [zu_ne (by omega), hf 64 (by omega)]) (by rw [zu_ne (by omega), hf 63 (by omega)]) (by rw [zu_ne (by omega), hf 66 (by omega)]) (by rw [zu_ne (by omega), hf 65 (by omega)]) (fun j _ => by rw [zu_ne (by omega), hf 59 (by omega)])
    have hf1 : ∀ a, a ≠ 70 → zu V1 70 m (Int32.ofInt (((rest % 10 : Nat) : Int) - 1)) a = V a := fun a ha => by rw [zu_ne ha]; exact hf a ha
    apply b174_39 hF (i1 := m) (zI_nat m) (by omega)
    rw [zuN_at]
    refine s136 hF hS1 (by omega) (v := ((rest % 10 : Nat) : Int) - 1) (by omega) ?_ ?_
    · intro c1
      rw [if_pos (by omega)] at he
      apply b174_50 hF
      rotate_left
      · intro c2; exact absurd (by decide) c2
      intro _
      apply b174_55 hF (i1 := m) (zI_nat m) (by omega)
      have e1 : ((rest % 10 : Nat) : Int) - 1 = ((rest % 10 - 1 : Nat) : Int) := by omega
      have e2 : Int32.ofInt (seen : Int) ||| (Int32.ofInt 1 <<< (Int32.ofInt ((rest % 10 - 1 : Nat) : Int) &&& 31)) = Int32.ofInt ((seen ||| 2 ^ (rest % 10 - 1) : Nat) : Int) := by
        rw [zB_put (by omega), Nat.shiftLeft_eq, Nat.one_mul]
      rw [zuN_at, e1, e2, zI_add]
      apply ih (rest / 10) _ _ _ (by omega) (by omega) hrn (Nat.or_lt_two_pow hs (Nat.pow_lt_pow_right (by omega) (by omega))) he
      · intro j hj1 hj2
        rw [zu_at]
        by_cases hjm : j = m
        · subst hjm
          rw [if_pos rfl, hat]
          exact ⟨rfl, by omega⟩
        · rw [if_neg hjm]
          exact hj j (by omega) hj2
      · intro a ha
        rw [zu_ne ha]; exact hf a ha
    · intro c1
      rw [if_neg (fun g => by omega)] at he
      apply b174_50 hF
      · intro c2; exact absurd rfl c2
      intro _
      exact b174_53 hF (k0 he.symm _ hf1)
theorem s174 {x : zXs} {F : zF} (hF : zSh F) {d : Nat} {V : Nat → Nat → Int32} {T : Nat → Nat → Int64} {Q : Option Value → zG → Prop} {S : Nat → Nat → Nat} {c : Nat} (hc : c ≤ 5) (hS : zMS V S) (hcr : S 5 0 = c) {order : Int} (h_order : -2147483648 ≤ order ∧ order ≤ 2147483647) {o2 o3 o4 : Option Value} (k1 : 0 ≤ order → yIs c c order.toNat 0 = true → ∀ V2, (∀ j, j < c → V2 70 j = Int32.ofInt (yAt order.toNat c j : Int) ∧ yAt order.toNat c j < c) → (∀ a, a ≠ 70 → V2 a = V a) → Q (some (.int (Int32.ofInt 1))) (V2, T)) (k0 : ¬ (0 ≤ order ∧ yIs c c order.toNat 0 = true) → ∀ V2, (∀ a, a ≠ 70 → V2 a = V a) → Q (some (.int (Int32.ofInt 0))) (V2, T)) : E x F (d + 2) 174 0 [some (.ref 59), some (.int (Int32.ofInt (order))), o2, o3, o4] [] (V, T) Q := by
  apply b174_0 hF
  rw [hS.2.2.2.2.2.1, hcr, zI_sub]
  by_cases hneg : order < 0
  · have K := fun V2 h => k0 (fun g => by omega) V2 h
    cases c with
    | zero =>
      apply b174_12 hF
      · intro _
        apply b174_73 hF
        · intro _
          exact b174_93 hF (b174_94 hF zNb0 (K _ (fun _ _ => rfl)))
        · intro c1
          simp (disch := omega) only [zI_eq, zI_0, Decidable.not_not] at c1
          exfalso; omega
      · intro c1
        exact absurd (by decide) c1
    | succ c =>
      apply b174_12 hF
      · intro c1
        simp (disch := omega) only [zI_lt, zI_0] at c1
        exfalso; omega
      intro _
      apply b174_17 hF (i1 := c) (by rw [show ((c + 1 : Nat) : Int) - 1 = (c : Int) by omega]; exact zI_nat c) (by omega)
      · intro _
        exact b174_53 hF (K _ (fun a h1 => zu_ne h1))
      · intro c1
        simp (disch := omega) only [zI_lt, zI_0] at c1
        exfalso; omega
  · obtain ⟨n, rfl⟩ : ∃ n : Nat, order = n := ⟨order.toNat, by omega⟩
    rw [Int.toNat_natCast] at k1 k0
    refine s174l hF (c := c) (order := n) hc hS hcr (by omega) ?_ ?_ c n 0 _ _ rfl (Nat.le_refl _) (by rw [Nat.sub_self, Nat.pow_zero, Nat.div_one]) (Nat.two_pow_pos c) rfl (fun j h1 h2 => by omega) (fun _ _ => rfl)
    · intro h V2 hj hf
      exact k1 (by omega) (by rw [yIs_eq]; exact h) V2 hj hf
    · intro h V2 hf
      exact k0 (fun g => by rw [← yIs_eq, g.2] at h; exact absurd h (by decide)) V2 hf
