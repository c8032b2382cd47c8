/-! nights: both -/
/-- what nights answers -/
def yNights (w : Nat → Nat → (Nat → Int32) → Int32) (S : Nat → Nat → Nat) (one row n what : Int) : Int :=
  if (0 ≤ one ∧ one < S 5 0) ∧ (0 ≤ row ∧ row ≤ 3) ∧ (0 ≤ n ∧ n ≤ 20) ∧ (0 ≤ what ∧ what ≤ 1) then (if what = 0 then (yDays w row.toNat n.toNat S 4 one.toNat : Int) else (zpc 24 (zgb (yDays w row.toNat n.toNat S) row.toNat) : Int)) else -2
theorem yDays_wf {w : Nat → Nat → (Nat → Int32) → Int32} {r : Nat} (hr : r < 4) : ∀ (n : Nat) (S : Nat → Nat → Nat), zWf S → S 5 1 + n ≤ 1000000 → zWf (yDays w r n S) ∧ yDays w r n S 5 2 = S 5 2 ∧ yDays w r n S 5 0 = S 5 0 := by
  intro n
  induction n with
  | zero => intro S h _; exact ⟨h, rfl, rfl⟩
  | succ n ih =>
    intro S h hn
    obtain ⟨d1, d2, d3, d4⟩ := yDay_wf (w := w) hr h (by omega)
    obtain ⟨a1, a2, a3⟩ := ih (yDay w r S) d1 (by omega)
    exact ⟨a1, a2.trans d4, a3.trans d2⟩
theorem s84l {x : zXs} {F : zF} (hF : zSh F) {d : Nat} {V : Nat → Nat → Int32} {T : Nat → Nat → Int64} {Q : Option Value → zG → Prop} {n : Nat} {w : Nat → Nat → (Nat → Int32) → Int32} (hR : zRu V n w) {r N : Nat} (hr : r < 4) (hN : N ≤ 20) {o1 o4 : Option Value} : ∀ (m i : Nat) (S : Nat → Nat → Nat) (V1 : Nat → Nat → Int32) (P : Int), P = i → i + m = N → zCS 7 V1 S → zWf S → S 5 2 < n → S 5 1 + m ≤ 1000000 → zFt V V1 → (∀ V2, zCS 7 V2 (yDays w r m S) → zFt V V2 → E x F (d + 6) 84 76 [some (.ref 0), o1, some (.int (Int32.ofInt (r : Int))), some (.int (Int32.ofInt (N : Int))), o4, some (.int (Int32.ofInt (N : Int)))] [] (V2, T) Q) → E x F (d + 6) 84 59 [some (.ref 0), o1, some (.int (Int32.ofInt (r : Int))), some (.int (Int32.ofInt (N : Int))), o4, some (.int (Int32.ofInt P))] [] (V1, T) Q := by
  intro m
  induction m with
  | zero =>
    intro i S V1 P hP hi hS hW hru hn hf K
    subst hP
    have hiN : i = N := by omega
    subst hiN
    apply b84_59 hF
    · intro _
      exact K V1 hS hf
    · intro c
      simp (disch := omega) only [zI_le] at c
      exfalso; omega
  | succ m ih =>
    intro i S V1 P hP hi hS hW hru hn hf K
    subst hP
    obtain ⟨d1, d2, d3, d4⟩ := yDay_wf (w := w) hr hW (by omega)
    apply b84_59 hF
    · intro c
      simp (disch := omega) only [zI_le] at c
      exfalso; omega
    · intro _
      apply b84_65 hF
      have hR1 : zRu V1 n w := zRu_fr hR (fun a ha => hf a (by omega) (by omega) (by omega) (by omega) (by omega) (by omega) (by omega))
      apply s85 hF hS hW hR1 hru hr
      intro V2 hS2 f2
      apply b84_70 hF
      rw [zI_add]
      apply ih (i + 1) (yDay w r S) V2 _ (by omega) (by omega) hS2 d1 (by rw [d4]; exact hru) (by omega)
      · intro a a1 a2 a3 a4 a5 a6 a7
        rw [f2 a a1 a2 a3 a4 a5 a6 a7]; exact hf a a1 a2 a3 a4 a5 a6 a7
      · exact K
theorem s84 {x : zXs} {F : zF} (hF : zSh F) {d : Nat} {V : Nat → Nat → Int32} {T : Nat → Nat → Int64} {Q : Option Value → zG → Prop} {S : Nat → Nat → Nat} (hS : zCS 1 V S) (hW : zWf S) (hn : S 5 1 ≤ 999) {n : Nat} {w : Nat → Nat → (Nat → Int32) → Int32} (hR : zRu V n w) (hru : S 5 2 < n) {one row N what : Int} (h1 : -2147483648 ≤ one ∧ one ≤ 2147483647) (h2 : -2147483648 ≤ row ∧ row ≤ 2147483647) (h3 : -2147483648 ≤ N ∧ N ≤ 2147483647) (h4 : -2147483648 ≤ what ∧ what ≤ 2147483647) (k : ∀ V2, zFt V V2 → Q (some (.int (Int32.ofInt (yNights w S one row N what)))) (V2, T)) {o5 : Option Value} : E x F (d + 7) 84 0 [some (.ref 0), some (.int (Int32.ofInt one)), some (.int (Int32.ofInt row)), some (.int (Int32.ofInt N)), some (.int (Int32.ofInt what)), o5] [] (V, T) Q := by
  have hb : zSt 1 := Or.inl rfl
  have hb7 : zSt 7 := Or.inr (Or.inl rfl)
  have h5 := hW.2.2.1
  have k0 := k V (fun _ _ _ _ _ _ _ _ => rfl)
  unfold yNights at k k0
  have bad : ¬ ((0 ≤ one ∧ one < S 5 0) ∧ (0 ≤ row ∧ row ≤ 3) ∧ (0 ≤ N ∧ N ≤ 20) ∧ (0 ≤ what ∧ what ≤ 1)) → ∀ o0 o1 o2 o3 o4 o5 : Option Value, E x F (d + 7) 84 42 [o0, o1, o2, o3, o4, o5] [] (V, T) Q := by
    intro c o0 o1 o2 o3 o4 o5
    rw [if_neg c] at k0
    exact b84_42 hF k0
  apply b84_0 hF
  apply s19 hF hb hS hW h1
  rotate_left
  · intro c
    apply b84_8 hF
    · intro _; exact bad (fun g => c g.1) _ _ _ _ _ _
    · intro c2; exact absurd rfl c2
  intro c1
  apply b84_8 hF
  · intro c2; exact absurd c2 (by decide)
  intro _
  apply b84_11 hF
  apply s12 hF h2
  rotate_left
  · intro c
    apply b84_19 hF
    · intro _; exact bad (fun g => c g.2.1) _ _ _ _ _ _
    · intro c2; exact absurd rfl c2
  intro c2
  apply b84_19 hF
  · intro c2; exact absurd c2 (by decide)
  intro _
  apply b84_22 hF
  apply s7 hF h3 (by omega) (by omega)
  rotate_left
  · intro c
    apply b84_29 hF
    · intro _; exact bad (fun g => c g.2.2.1) _ _ _ _ _ _
    · intro c2; exact absurd rfl c2
  intro c3
  apply b84_29 hF
  · intro c2; exact absurd c2 (by decide)
  intro _
  apply b84_32 hF
  apply s7 hF h4 (by omega) (by omega)
  rotate_left
  · intro c
    apply b84_39 hF
    · intro c2; exact absurd rfl c2
    · intro _; exact bad (fun g => c g.2.2.2) _ _ _ _ _ _
  intro c4
  apply b84_39 hF
  rotate_left
  · intro c2; exact absurd (by decide) c2
  intro _
  rw [if_pos ⟨c1, c2, c3, c4⟩] at k
  obtain ⟨i, rfl⟩ : ∃ i : Nat, one = i := ⟨one.toNat, by omega⟩
  obtain ⟨r, rfl⟩ : ∃ r : Nat, row = r := ⟨row.toNat, by omega⟩
  obtain ⟨M, rfl⟩ : ∃ M : Nat, N = M := ⟨N.toNat, by omega⟩
  simp only [Int.toNat_natCast] at k
  apply b84_45 hF
  apply s83 hF hb7 hb (by omega) hS
  intro V1 hS1 f1
  apply b84_56 hF
  have hR1 : zRu V1 n w := zRu_fr hR (fun a ha => f1 a (by omega))
  have hf1 : zFt V V1 := fun a a1 _ _ _ _ _ _ => f1 a (by omega)
  have hWd := yDays_wf (w := w) (r := r) (by omega) M S hW (by omega)
  refine s84l hF (V := V1) hR1 (by omega) (by omega) M 0 S V1 0 rfl (Nat.zero_add _) hS1 hW hru (by omega) (fun _ _ _ _ _ _ _ _ => rfl) ?_
  intro V2 hS2 f2
  have K := k V2 (fun a a1 a2 a3 a4 a5 a6 a7 => (f2 a a1 a2 a3 a4 a5 a6 a7).trans (hf1 a a1 a2 a3 a4 a5 a6 a7))
  apply b84_76 hF
  · intro c
    simp (disch := omega) only [zI_eq, zI_0] at c
    rw [if_neg c] at K
    apply b84_93 hF
    apply s13 hF hb7 hS2 hWd.1 (by omega)
    exact b84_101 hF K
  · intro c
    simp (disch := omega) only [zI_eq, zI_0, Decidable.not_not] at c
    rw [if_pos c] at K
    apply b84_81 hF (i1 := i) (zI_nat i) (by omega)
    rw [hS2.2.2.2.2.1 i (by omega)]
    exact b84_101 hF K
