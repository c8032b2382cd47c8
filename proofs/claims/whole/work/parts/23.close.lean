/-! The reference: a run is closed -/
/-- the bits when so many gaps fewer stand at a place -/
def yCB (C pl : Nat) (n : Int) : Nat := (C % 2 ^ pl) ||| (if 0 ≤ n then (C >>> (pl + n.toNat)) <<< pl else (C >>> pl) <<< ((pl : Int) - n).toNat)
theorem s172 {x : zXs} {F : zF} (hF : zSh F) {d : Nat} {V : Nat → Nat → Int32} {T : Nat → Nat → Int64} {Q : Option Value → zG → Prop} {r C ln pl : Nat} {n : Int} (hr : r < 5) (hC : V 63 r = Int32.ofInt (C : Int)) (hl : V 64 r = Int32.ofInt (ln : Int)) (h1 : C < 2147483648) (h2 : pl < 32) (h3 : (pl : Int) - n < 32 ∧ pl + n < 32) (k : Q none (zu (zu V 63 r (Int32.ofInt (yCB C pl n : Int))) 64 r (Int32.ofInt ((ln : Int) - n)), T)) {o4 : Option Value} : E x F d 172 0 [some (.ref 59), some (.int (Int32.ofInt (r : Int))), some (.int (Int32.ofInt (pl : Int))), some (.int (Int32.ofInt n)), o4] [] (V, T) Q := by
  have e1 : Int32.ofInt 1 <<< (Int32.ofInt (pl : Int) &&& 31) = Int32.ofInt ((2 ^ pl : Nat) : Int) := by
    have := zB_shl 1 (show pl < 32 by omega)
    rw [Nat.shiftLeft_eq, Nat.one_mul] at this
    exact this
  have hp : 0 < 2 ^ pl := Nat.two_pow_pos pl
  have elow : Int32.ofInt (C : Int) &&& ((Int32.ofInt 1 <<< (Int32.ofInt (pl : Int) &&& 31)) - Int32.ofInt 1) = Int32.ofInt ((C % 2 ^ pl : Nat) : Int) := by
    rw [e1, zI_sub, show ((2 ^ pl : Nat) : Int) - 1 = ((2 ^ pl - 1 : Nat) : Int) by omega, zB_and, Nat.and_two_pow_sub_one_eq_mod]
  have h63 : zsh F 63 = 100 ∧ zln F 63 = 5 := zsh_at hF rfl
  apply b172_0 hF (i1 := r) (zI_nat r) hr
  · rw [hC, elow]
    intro c
    simp (disch := omega) only [zI_le, zI_0] at c
    apply b172_41 hF h63 (by omega) (i1 := r) (zI_nat r) hr
    rw [hC, zI_add, show (pl : Int) + n = ((pl + n.toNat : Nat) : Int) by omega, zB_shr h1 (by omega), zB_shl _ (by omega), zB_or]
    apply b172_56 hF h63 (by omega) (i1 := r) (zI_nat r) hr (i2 := r) (zI_nat r) hr (i3 := r) (zI_nat r) hr
    rw [zu_ne (b := 64) (by omega), hl, zI_sub]
    unfold yCB at k
    rw [if_pos c] at k
    exact k
  · rw [hC, elow]
    intro c
    simp (disch := omega) only [zI_le, zI_0] at c
    apply b172_23 hF h63 (by omega) (i1 := r) (zI_nat r) hr
    rw [hC, zI_sub, show (pl : Int) - n = ((((pl : Int) - n).toNat : Nat) : Int) by omega, zB_shr h1 (by omega), zB_shl _ (by omega), zB_or]
    apply b172_56 hF h63 (by omega) (i1 := r) (zI_nat r) hr (i2 := r) (zI_nat r) hr (i3 := r) (zI_nat r) hr
    rw [zu_ne (b := 64) (by omega), hl, zI_sub]
    unfold yCB at k
    rw [if_neg c] at k
    exact k
theorem s157 {x : zXs} {F : zF} (hF : zSh F) {d : Nat} {V : Nat → Nat → Int32} {T : Nat → Nat → Int64} {Q : Option Value → zG → Prop} {v lo hi : Int} (hv : -2147483648 ≤ v ∧ v ≤ 2147483647) (h1 : -2147483648 ≤ lo ∧ lo ≤ 2147483647) (h2 : -2147483648 ≤ hi ∧ hi ≤ 2147483647) (k : Q (some (.int (Int32.ofInt (yCl v lo hi)))) (V, T)) : E x F d 157 0 [some (.int (Int32.ofInt v)), some (.int (Int32.ofInt lo)), some (.int (Int32.ofInt hi))] [] (V, T) Q := by
  unfold yCl at k
  apply b157_0 hF
  · intro c
    simp (disch := omega) only [zI_le] at c
    rw [if_neg (by omega)] at k
    apply b157_9 hF
    · intro c2
      simp (disch := omega) only [zI_le] at c2
      rw [if_neg (by omega)] at k
      exact b157_18 hF (b157_19 hF k)
    · intro c2
      simp (disch := omega) only [zI_le] at c2
      rw [if_pos (by omega)] at k
      exact b157_14 hF (b157_19 hF k)
  · intro c
    simp (disch := omega) only [zI_le] at c
    rw [if_pos (by omega)] at k
    exact b157_5 hF (b157_19 hF k)
theorem s157v {x : zXs} {F : zF} (hF : zSh F) {d : Nat} {V : Nat → Nat → Int32} {T : Nat → Nat → Int64} {Q : Option Value → zG → Prop} {v : Int32} {lo hi : Int} (h1 : -2147483648 ≤ lo ∧ lo ≤ 2147483647) (h2 : -2147483648 ≤ hi ∧ hi ≤ 2147483647) (k : Q (some (.int (Int32.ofInt (yCl v.toInt lo hi)))) (V, T)) : E x F d 157 0 [some (.int v), some (.int (Int32.ofInt lo)), some (.int (Int32.ofInt hi))] [] (V, T) Q := by
  have := s157 (x := x) hF (d := d) (V := V) (T := T) (Q := Q) (v := v.toInt) (lo := lo) (hi := hi) (zI_rng v) h1 h2 k
  rw [zI_self] at this
  exact this
/-- the old bits moved: a closed run at a place -/
theorem yCB_eq {P H pl sz : Nat} {n : Int} (hP : P < 2 ^ pl) (h1 : n ≤ sz) : yCB (P + 2 ^ pl * (2 ^ sz * H)) pl n = P + 2 ^ ((pl : Int) + (sz - n)).toNat * H := by
  have hp : 0 < 2 ^ pl := Nat.two_pow_pos pl
  have hm : (P + 2 ^ pl * (2 ^ sz * H)) % 2 ^ pl = P := by
    rw [Nat.add_mul_mod_self_left, Nat.mod_eq_of_lt hP]
  have hd : (P + 2 ^ pl * (2 ^ sz * H)) / 2 ^ pl = 2 ^ sz * H := by
    rw [Nat.add_mul_div_left _ _ hp, Nat.div_eq_of_lt hP, Nat.zero_add]
  unfold yCB
  rw [hm]
  have key : ∀ e X : Nat, P ||| (X <<< (pl + e)) = P + 2 ^ (pl + e) * X := by
    intro e X
    have h5 : P < 2 ^ (pl + e) := Nat.lt_of_lt_of_le hP (Nat.pow_le_pow_right (by omega) (by omega))
    rw [Nat.or_comm, ← Nat.shiftLeft_add_eq_or_of_lt h5, Nat.shiftLeft_eq]
    rw [Nat.mul_comm, Nat.add_comm]
  by_cases hn : 0 ≤ n
  · rw [if_pos hn]
    obtain ⟨e, he⟩ : ∃ e : Nat, sz = n.toNat + e := ⟨sz - n.toNat, by omega⟩
    rw [Nat.shiftRight_add, Nat.shiftRight_eq_div_pow _ pl, hd, Nat.shiftRight_eq_div_pow]
    have : 2 ^ sz * H / 2 ^ n.toNat = 2 ^ e * H := by
      rw [he, Nat.pow_add, Nat.mul_assoc, Nat.mul_div_cancel_left _ (Nat.two_pow_pos _)]
    rw [this]
    have := key 0 (2 ^ e * H)
    rw [Nat.add_zero] at this
    rw [this, show ((pl : Int) + (sz - n)).toNat = pl + e by omega, Nat.pow_add, Nat.mul_assoc]
  · rw [if_neg hn]
    obtain ⟨e, he⟩ : ∃ e : Nat, n = -(e : Int) := ⟨n.natAbs, by omega⟩
    rw [Nat.shiftRight_eq_div_pow, hd, show ((pl : Int) - n).toNat = pl + e by omega, key, show ((pl : Int) + (sz - n)).toNat = pl + e + sz by omega, Nat.pow_add _ (pl + e) sz, Nat.mul_assoc]
