/-! nights: the reference -/
theorem s132v {x : zXs} {F : zF} (hF : zSh F) {d : Nat} {V : Nat → Nat → Int32} {T : Nat → Nat → Int64} {Q : Option Value → zG → Prop} {v : Int} (h_v : -2147483648 ≤ v ∧ v ≤ 2147483647) {lo hi : Int} (h1 : -2147483648 ≤ lo ∧ lo ≤ 2147483647) (h2 : -2147483648 ≤ hi ∧ hi ≤ 2147483647) {o1 o3 o5 : Option Value} (k1 : lo ≤ v ∧ v ≤ hi → Q (some (.int (Int32.ofInt 1))) (V, T)) (k0 : ¬ (lo ≤ v ∧ v ≤ hi) → Q (some (.int (Int32.ofInt 0))) (V, T)) : E x F d 132 0 [some (.long (Int32.ofInt v).toInt64), o1, some (.long (Int64.ofInt lo)), o3, some (.long (Int64.ofInt hi)), o5] [] (V, T) Q := by
  rw [zJ_of h_v]
  exact s132 hF h_v h1 h2 k1 k0
/-- what a call that changes no state leaves alone in the reference -/
def yFr (V V2 : Nat → Nat → Int32) : Prop := (∀ a, a ≠ 59 → (a < 63 ∨ 73 < a) → V2 a = V a) ∧ (∀ j, (j < 7 ∨ 7 < j ∧ j < 13 ∨ 36 < j) → V2 59 j = V 59 j)
theorem yFr_rfl (V : Nat → Nat → Int32) : yFr V V := ⟨fun _ _ _ => rfl, fun _ _ => rfl⟩
theorem yFr_tr {V V1 V2 : Nat → Nat → Int32} (h1 : yFr V V1) (h2 : yFr V1 V2) : yFr V V2 := ⟨fun a h g => (h2.1 a h g).trans (h1.1 a h g), fun j h => (h2.2 j h).trans (h1.2 j h)⟩
theorem yNi_23 {w : Nat → Nat → (Nat → Int32) → Int32} {S : Nat → Nat → Nat} : yNi w S 2 = S 2 ∧ yNi w S 3 = S 3 := by
  unfold yNi
  constructor
  · rw [zu_ne (by omega)]; rfl
  · rw [zu_ne (by omega)]; rfl
theorem yOr_23 {w : Nat → Nat → (Nat → Int32) → Int32} {r : Nat} {at' : Nat → Nat} : ∀ (m i : Nat) (S : Nat → Nat → Nat), yOr w r at' i m S 2 = S 2 ∧ yOr w r at' i m S 3 = S 3 := by
  intro m
  induction m with
  | zero => intro i S; exact ⟨rfl, rfl⟩
  | succ m ih =>
    intro i S
    rw [yOr]
    exact ⟨(ih _ _).1.trans yGS_23.1, (ih _ _).2.trans yGS_23.2⟩
theorem yDays_23 {w : Nat → Nat → (Nat → Int32) → Int32} {r : Nat} : ∀ (m : Nat) (S : Nat → Nat → Nat) (i : Nat), yDays w r m S 2 i = S 2 i ∧ yDays w r m S 3 i = S 3 i := by
  intro m
  induction m with
  | zero => intro S i; exact ⟨rfl, rfl⟩
  | succ m ih =>
    intro S i
    rw [yDays]
    have a := ih (yDay w r S) i
    unfold yDay at a ⊢
    exact ⟨a.1.trans (by rw [yNi_23.1, (yOr_23 _ _ _).1]), a.2.trans (by rw [yNi_23.2, (yOr_23 _ _ _).2])⟩
theorem s182 {x : zXs} {F : zF} (hF : zSh F) {d : Nat} {V : Nat → Nat → Int32} {T : Nat → Nat → Int64} {Q : Option Value → zG → Prop} {S : Nat → Nat → Nat} (hS : zMS V S) (hW : zWf S) {n : Nat} {w : Nat → Nat → (Nat → Int32) → Int32} (hR : zRd x F V n w) (hru : S 5 2 < n) (hn : S 5 1 ≤ 999) {one row N what : Int} (h_one : -2147483648 ≤ one ∧ one ≤ 2147483647) (h_row : -2147483648 ≤ row ∧ row ≤ 2147483647) (h_N : -2147483648 ≤ N ∧ N ≤ 2147483647) (h_what : -2147483648 ≤ what ∧ what ≤ 2147483647) (k : ∀ V2 T2, zMS V2 S → yFr V V2 → Q (some (.int (Int32.ofInt (yNights w S one row N what)))) (V2, T2)) {o5 : Option Value} : E x F (d + 55) 182 0 [some (.ref 59), some (.int (Int32.ofInt (one))), some (.int (Int32.ofInt (row))), some (.int (Int32.ofInt (N))), some (.int (Int32.ofInt (what))), o5] [] (V, T) Q := by
  have h5 := hW.2.2.1
  have k0 := k V T hS (yFr_rfl V)
  unfold yNights at k k0
  have kb : ¬ ((0 ≤ one ∧ one < S 5 0) ∧ (0 ≤ row ∧ row ≤ 3) ∧ (0 ≤ N ∧ N ≤ 20) ∧ (0 ≤ what ∧ what ≤ 1)) → Q (some (.int (Int32.ofInt (-2)))) (V, T) := by
    intro c
    rw [if_neg c] at k0
    exact k0
  repeat' (first
    | (intro c; (try simp (disch := omega) only [zI_lt, zI_le, zI_eq, zI_0, zI_add, zI_sub, zI_mul, zI_neg, Int.reduceNeg, Int.reduceAdd, Int.reduceSub, Int.reduceMul, Decidable.not_not, Int.not_lt, Int.not_le, not_true_eq_false, not_false_eq_true] at c); (try (exfalso; omega)))
    | simp only [zI_add, zI_sub, zI_mul, zI_neg]
    | apply s136 hF hS h5 h_one
    | apply s131 hF h_row
    | apply s132v hF h_N (lo := 0) (hi := 20) (by omega) (by omega)
    | apply s132v hF h_what (lo := 0) (hi := 1) (by omega) (by omega)
    | apply b182_0 hF
    | apply b182_5 hF
    | apply b182_8 hF
    | apply b182_12 hF
    | apply b182_15 hF
    | apply b182_24 hF
    | apply b182_27 hF
    | apply b182_35 hF
    | apply b182_38 hF
    | apply b182_45 hF
    | apply b182_51 hF
    | apply b182_56 hF
    | apply b182_69 hF
    | apply b182_74 hF
    | apply b182_80 hF
    | exact kb (by omega)
    | with_reducible assumption
    | exact zI_nat _
    | exact zNb1
    | exact zNb0
    | omega
    | with_reducible rfl
    | exact zI_nI (by omega))
  have c : (0 ≤ one ∧ one < S 5 0) ∧ (0 ≤ row ∧ row ≤ 3) ∧ (0 ≤ N ∧ N ≤ 20) ∧ (0 ≤ what ∧ what ≤ 1) := by omega
  simp only [if_pos c] at k
  obtain ⟨i, rfl⟩ : ∃ i : Nat, one = i := ⟨one.toNat, by omega⟩
  obtain ⟨r, rfl⟩ : ∃ r : Nat, row = r := ⟨row.toNat, by omega⟩
  obtain ⟨M, rfl⟩ : ∃ M : Nat, N = M := ⟨N.toNat, by omega⟩
  simp only [Int.toNat_natCast] at k
  apply b182_41 hF
  apply s180 hF
  intro V1 a1 a2 a3
  apply b182_45 hF
  have hR1 : zRd x F V1 n w := zRd_fr hR (a3 60 (by omega)) (a3 61 (by omega))
  have hS1 : zMS V1 S := zMS_fr hS (a3 64 (by omega)) (a3 63 (by omega)) (a3 66 (by omega)) (a3 65 (by omega)) (fun j _ => by rw [a3 59 (by omega)])
  apply s183 hF hR1 hS1 hW hru (by omega) (by omega) (by omega)
  intro V2 T2 hS2 hf2
  have hWd := yDays_wf (w := w) (r := r) (by omega) M S hW (by omega)
  have e2 : ∀ i, i < 5 → yDays w r M S 2 i = S 2 i ∧ yDays w r M S 3 i = S 3 i := by
    intro i hi
    exact yDays_23 M S i
  have back : ∀ (o1 o2 o3 o4 o5 : Option Value) (z : Int), (∀ V2 T2, zMS V2 S → yFr V V2 → Q (some (.int (Int32.ofInt z))) (V2, T2)) → E x F (d + 55) 182 74 [some (.ref 59), o1, o2, o3, o4, o5] [.int (Int32.ofInt z)] (V2, T2) Q := by
    intro o1 o2 o3 o4 o5 z k
    apply b182_74 hF
    apply s181 hF
    intro V4 b1 b2 b3 b4
    apply b182_80 hF
    have e73 : V2 73 = V1 73 := hf2.1 73 (by omega) (by omega) (by omega) (by omega) (by omega) (by omega) (by omega) (by omega) (by omega)
    apply k V4 T2
    · refine zMS_back hS hS2 e2 ⟨hWd.2.2, hWd.2.1⟩ ?_ ?_ b1 b2 b3 b4
      · intro i hi
        rw [e73]
        exact a1 i hi
      · rw [e73]; exact a2
    · refine ⟨?_, ?_⟩
      · intro a c1 c2
        rw [b4 a (by omega) (by omega) (by omega) (by omega), hf2.1 a (by omega) (by omega) (by omega) (by omega) (by omega) (by omega) (by omega) (by omega) (by omega), a3 a (by omega)]
      · intro j hj
        rw [b3 j (by omega), hf2.2 j (by omega), a3 59 (by omega)]
  by_cases hw : what = 0
  · rw [if_pos hw] at k
    subst hw
    apply b182_51 hF
    · intro c; exact absurd rfl c
    intro _
    have e21 : Int32.ofInt 2 * Int32.ofInt (i : Int) + Int32.ofInt 1 = Int32.ofInt ((2 * i + 1 : Nat) : Int) := by
      rw [zI_mul, zI_add]; congr 1
    apply b182_56 hF (i1 := 2 * i + 1) (e21.trans (zI_nat _)) (by omega)
    rw [hS2.2.2.2.2.1 i (by omega)]
    exact back _ _ _ _ _ _ k
  · rw [if_neg hw] at k
    apply b182_51 hF
    rotate_left
    · intro c
      simp (disch := omega) only [zI_eq, zI_0, Decidable.not_not] at c
      exact absurd c hw
    intro _
    apply b182_69 hF
    apply s133 hF (L := yDays w r M S 0 r) (B := yDays w r M S 1 r) (by omega) (hS2.1 r (by omega)) (hS2.2.1 r (by omega)) (hWd.1.1 r (by omega)).1 (hWd.1.1 r (by omega)).2
    exact back _ _ _ _ _ _ k
