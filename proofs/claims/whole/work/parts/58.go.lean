/-! go: both tops -/
abbrev yGoOk (S : Nat → Nat → Nat) (row order : Int) : Prop := (0 ≤ row ∧ row ≤ 3) ∧ 0 ≤ order ∧ yIs (S 5 0) (S 5 0) order.toNat 0 = true
def yGoS (w : Nat → Nat → (Nat → Int32) → Int32) (S : Nat → Nat → Nat) (row order : Int) : Nat → Nat → Nat := if yGoOk S row order then yOr w row.toNat (yAt order.toNat (S 5 0)) 0 (S 5 0) S else S
def yGo (w : Nat → Nat → (Nat → Int32) → Int32) (S : Nat → Nat → Nat) (row order : Int) : Int := if yGoOk S row order then (zpc 24 (zgb (yOr w row.toNat (yAt order.toNat (S 5 0)) 0 (S 5 0) S) row.toNat) : Int) else -2
theorem yIs_at {c order : Nat} : ∀ m, m ≤ c → ∀ rest seen, rest = order / 10 ^ (c - m) → yIs c m rest seen = true → ∀ j, j < m → yAt order c j < c := by
  intro m
  induction m with
  | zero => intro _ _ _ _ _ j hj; exact absurd hj (Nat.not_lt_zero _)
  | succ m ih =>
    intro hm rest seen hr he j hj
    simp only [yIs] at he
    have hat : yAt order c m = rest % 10 - 1 := by
      unfold yAt
      rw [hr, show c - 1 - m = c - (m + 1) by omega]
    have hrn : rest / 10 = order / 10 ^ (c - m) := by
      rw [hr, Nat.div_div_eq_div_mul, ← Nat.pow_succ, show (c - (m + 1)).succ = c - m by omega]
    by_cases hd : (0 < rest % 10 ∧ rest % 10 ≤ c) ∧ seen.testBit (rest % 10 - 1) = false
    · rw [if_pos hd] at he
      by_cases hjm : j = m
      · subst hjm
        rw [hat]; omega
      · exact ih (by omega) _ _ hrn he j (by omega)
    · rw [if_neg hd] at he
      exact absurd he (by decide)
theorem yGo_at {S : Nat → Nat → Nat} {row order : Int} (h : yGoOk S row order) : ∀ j, j < S 5 0 → yAt order.toNat (S 5 0) j < S 5 0 := fun j hj => yIs_at (S 5 0) (Nat.le_refl _) _ 0 (by rw [Nat.sub_self, Nat.pow_zero, Nat.div_one]) h.2.2 j hj
theorem yGo_wf {w : Nat → Nat → (Nat → Int32) → Int32} {S : Nat → Nat → Nat} (hW : zWf S) (row order : Int) : zWf (yGoS w S row order) := by
  unfold yGoS
  split
  · rename_i c
    have h5 := hW.2.2.1
    have h1 := c.1
    exact (yOr_wf (by omega) _ 0 S (fun j _ hj => by have := yGo_at c j (by omega); omega) hW).1
  · exact hW
theorem s76 {x : zXs} {F : zF} (hF : zSh F) {d : Nat} {V : Nat → Nat → Int32} {T : Nat → Nat → Int64} {Q : Option Value → zG → Prop} {S : Nat → Nat → Nat} (hS : zCS 1 V S) (hW : zWf S) {n : Nat} {w : Nat → Nat → (Nat → Int32) → Int32} (hR : zRu V n w) (hru : S 5 2 < n) {row order : Int} (h_row : -2147483648 ≤ row ∧ row ≤ 2147483647) (h_order : -2147483648 ≤ order ∧ order ≤ 2147483647) (k : ∀ V2, zCS 1 V2 (yGoS w S row order) → yFn V V2 → Q (some (.int (Int32.ofInt (yGo w S row order)))) (V2, T)) : E x F (d + 5) 76 0 [some (.ref 0), some (.int (Int32.ofInt (row))), some (.int (Int32.ofInt (order)))] [] (V, T) Q := by
  have hb : zSt 1 := Or.inl rfl
  have h5 := hW.2.2.1
  have hwf := yGo_wf (w := w) hW row order
  have kb : ¬ yGoOk S row order → ∀ V2, (∀ a, a ≠ 43 → a ≠ 44 → V2 a = V a) → Q (some (.int (Int32.ofInt (-2)))) (V2, T) := by
    intro c V2 hf
    have K := k V2
    unfold yGoS yGo at K
    rw [if_neg c, if_neg c] at K
    exact K (zCS_fr hS (fun a _ _ => hf a (by omega) (by omega))) (fun a _ _ _ _ _ h6 h7 => hf a h6 h7)
  apply b76_0 hF
  refine s12 hF h_row ?_ ?_
  rotate_left
  · intro c
    apply b76_8 hF
    · intro _
      exact b76_29 hF (kb (fun g => c g.1) V (fun _ _ _ => rfl))
    · intro c2; exact absurd rfl c2
  intro c
  apply b76_8 hF
  · intro c2; exact absurd c2 (by decide)
  intro _
  apply b76_11 hF
  rw [hS.2.2.2.2.2.1]
  refine s77 hF h5 h_order ?_ ?_
  · intro c1 c2 V2 h43 h44 f2
    have cg : yGoOk S row order := ⟨c, c1, c2⟩
    have K := k
    unfold yGoS at hwf
    unfold yGoS yGo at K
    simp only [if_pos cg] at K
    rw [if_pos cg] at hwf
    obtain ⟨r, rfl⟩ : ∃ r : Nat, row = r := ⟨row.toNat, by omega⟩
    simp only [Int.toNat_natCast] at K hwf
    apply b76_26 hF
    rotate_left
    · intro c3; exact absurd (by decide) c3
    intro _
    apply b76_32 hF
    have hS2 : zCS 1 V2 S := zCS_fr hS (fun a _ _ => f2 a (by omega) (by omega))
    have hR2 : zRu V2 n w := zRu_fr hR (fun a ha => f2 a (by omega) (by omega))
    apply s78 hF hb hS2 hW hR2 hru (one := -1) (at' := yAt order.toNat (S 5 0)) (by omega) (by omega) h5 (fun j hj => ⟨(h44 j hj).1, by have := (h44 j hj).2; omega⟩) h43
    intro V3 hS3 f3
    rw [yAl_or] at hS3
    dsimp only at hS3
    apply b76_49 hF
    apply s13 hF hb hS3 hwf (by omega)
    apply b76_58 hF
    exact K V3 hS3 (fun a h1 h2 h3 h4 h5 h6 h7 => (f3 a (by omega) h2 h3 h4 h5).trans (f2 a h6 h7))
  · intro c1 V2 f2
    apply b76_26 hF
    · intro c3; exact absurd rfl c3
    intro _
    exact b76_29 hF (kb (fun g => c1 g.2) V2 f2)
theorem s173l {x : zXs} {F : zF} (hF : zSh F) {d : Nat} {V : Nat → Nat → Int32} {T : Nat → Nat → Int64} {Q : Option Value → zG → Prop} {n : Nat} {w : Nat → Nat → (Nat → Int32) → Int32} (hR : zRd x F V n w) {r c : Nat} {at' : Nat → Nat} (hr : r < 4) (hc : c ≤ 5) (hat : ∀ j, j < c → V 70 j = Int32.ofInt (at' j : Int) ∧ at' j < c) {o2 : Option Value} : ∀ (m i : Nat) (S : Nat → Nat → Nat) (V1 : Nat → Nat → Int32) (T1 : Nat → Nat → Int64) (P : Int), P = i → i + m = c → zMS V1 S → zWf S → S 5 2 < n → S 5 0 = c → yFr V V1 → V1 70 = V 70 → (∀ V2 T2, zMS V2 (yOr w r at' i m S) → yFr V V2 → ∀ o3 : Option Value, E x F (d + 54) 173 46 [some (.ref 59), some (.int (Int32.ofInt ((r:Int)))), o2, o3] [] (V2, T2) Q) → E x F (d + 54) 173 20 [some (.ref 59), some (.int (Int32.ofInt ((r:Int)))), o2, some (.int (Int32.ofInt (P)))] [] (V1, T1) Q := by
  intro m
  induction m with
  | zero =>
    intro i S V1 T1 P hP hi hS hW hru h5 hf h70 K
    subst hP
    have hic : i = c := by omega
    subst hic
    apply b173_20 hF
    · intro _
      exact K V1 T1 hS hf _
    · rw [hS.2.2.2.2.2.1, h5]
      intro c
      simp (disch := omega) only [zI_le] at c
      exfalso; omega
  | succ m ih =>
    intro i S V1 T1 P hP hi hS hW hru h5 hf h70 K
    subst hP
    have ha := hat i (by omega)
    apply b173_20 hF
    · rw [hS.2.2.2.2.2.1, h5]
      intro c
      simp (disch := omega) only [zI_le] at c
      exfalso; omega
    · intro _
      apply b173_28 hF (i1 := i) (zI_nat i) (by omega)
      rw [h70, ha.1]
      have hR1 : zRd x F V1 n w := zRd_fr hR (hf.1 60 (by omega) (by omega)) (hf.1 61 (by omega) (by omega))
      apply s171 hF hR1 hS hW.2.1 hru (by omega) (by omega) (hW.1 r hr).1 (hW.1 r hr).2
      intro V2 T2 hS2 _ _ f1 f2
      apply b173_39 hF
      rw [zI_add]
      exact ih (i + 1) (yGS w S (at' i) r) V2 T2 _ (by omega) (by omega) hS2 (yGS_wf hW (by omega) hr) (by rw [yGS_5]; exact hru) (by rw [yGS_5]; exact h5) (yFr_tr hf ⟨fun a h1 h2 => f1 a h1 (by omega) (by omega) (by omega) (by omega) (by omega) (by omega), fun j hj => f2 j (by omega)⟩) (by rw [f1 70 (by omega) (by omega) (by omega) (by omega) (by omega) (by omega) (by omega), h70]) K
theorem s173 {x : zXs} {F : zF} (hF : zSh F) {d : Nat} {V : Nat → Nat → Int32} {T : Nat → Nat → Int64} {Q : Option Value → zG → Prop} {S : Nat → Nat → Nat} (hS : zMS V S) (hW : zWf S) {n : Nat} {w : Nat → Nat → (Nat → Int32) → Int32} (hR : zRd x F V n w) (hru : S 5 2 < n) {row order : Int} (h_row : -2147483648 ≤ row ∧ row ≤ 2147483647) (h_order : -2147483648 ≤ order ∧ order ≤ 2147483647) (k : ∀ V2 T2, zMS V2 (yGoS w S row order) → yFq V V2 → Q (some (.int (Int32.ofInt (yGo w S row order)))) (V2, T2)) {o3 : Option Value} : E x F (d + 54) 173 0 [some (.ref 59), some (.int (Int32.ofInt (row))), some (.int (Int32.ofInt (order))), o3] [] (V, T) Q := by
  have h5 := hW.2.2.1
  have hwf := yGo_wf (w := w) hW row order
  have kb : ¬ yGoOk S row order → ∀ V2, (∀ a, a ≠ 70 → V2 a = V a) → Q (some (.int (Int32.ofInt (-2)))) (V2, T) := by
    intro c V2 hf
    have K := k V2 T
    unfold yGoS yGo at K
    rw [if_neg c, if_neg c] at K
    exact K (zMS_fr hS (hf 64 (by omega)) (hf 63 (by omega)) (hf 66 (by omega)) (hf 65 (by omega)) (fun j _ => by rw [hf 59 (by omega)])) ⟨fun a h1 h2 => hf a (by omega), fun j _ => by rw [hf 59 (by omega)]⟩
  apply b173_0 hF
  refine s131 hF h_row ?_ ?_
  rotate_left
  · intro c
    apply b173_4 hF
    · intro _
      exact b173_15 hF (kb (fun g => c g.1) V (fun _ _ => rfl))
    · intro c2; exact absurd rfl c2
  intro c
  apply b173_4 hF
  · intro c2; exact absurd c2 (by decide)
  intro _
  apply b173_7 hF
  refine s174 hF h5 hS rfl h_order ?_ ?_
  · intro c1 c2 V2 h70 f2
    have cg : yGoOk S row order := ⟨c, c1, c2⟩
    have K := k
    unfold yGoS at hwf
    unfold yGoS yGo at K
    simp only [if_pos cg] at K
    rw [if_pos cg] at hwf
    obtain ⟨r, rfl⟩ : ∃ r : Nat, row = r := ⟨row.toNat, by omega⟩
    simp only [Int.toNat_natCast] at K hwf
    have hr : r < 4 := by omega
    apply b173_12 hF
    rotate_left
    · intro c3; exact absurd (by decide) c3
    intro _
    apply b173_18 hF
    have hS2 : zMS V2 S := zMS_fr hS (f2 64 (by omega)) (f2 63 (by omega)) (f2 66 (by omega)) (f2 65 (by omega)) (fun j _ => by rw [f2 59 (by omega)])
    have hR2 : zRd x F V2 n w := zRd_fr hR (f2 60 (by omega)) (f2 61 (by omega))
    refine s173l hF (T := T) hR2 (at' := yAt order.toNat (S 5 0)) hr h5 h70 (S 5 0) 0 S V2 T 0 rfl (Nat.zero_add _) hS2 hW hru rfl (yFr_rfl V2) rfl ?_
    intro V3 T3 hS3 f3 o3
    apply b173_46 hF
    apply s133 hF (L := yOr w r (yAt order.toNat (S 5 0)) 0 (S 5 0) S 0 r) (B := yOr w r (yAt order.toNat (S 5 0)) 0 (S 5 0) S 1 r) (by omega) (hS3.1 r (by omega)) (hS3.2.1 r (by omega)) (hwf.1 r hr).1 (hwf.1 r hr).2
    apply b173_51 hF
    exact K V3 T3 hS3 ⟨fun a h1 h2 => by rw [f3.1 a h1 h2, f2 a (by omega)], fun j hj => by rw [f3.2 j (by omega), f2 59 (by omega)]⟩
  · intro c1 V2 f2
    apply b173_12 hF
    · intro c3; exact absurd rfl c3
    intro _
    exact b173_15 hF (kb (fun g => c1 g.2) V2 f2)
