/-! longest, close: both -/
/-- runs of a row looked through: where the greatest is, how great -/
def yLk (S : Nat → Nat → Nat) (r : Nat) : Nat → Int × Int → Int × Int
  | 0, p => p
  | k + 1, p => if (yLk S r k p).2 < zsz (zgb S r) k 24 then ((100 * r + k : Int), (zsz (zgb S r) k 24 : Int)) else yLk S r k p
def yLr (S : Nat → Nat → Nat) : Nat → Int × Int
  | 0 => (-1, 0)
  | r + 1 => yLk S r (zrn (zgb S r) 24) (yLr S r)
theorem yLk_in {S : Nat → Nat → Nat} {r : Nat} (hr : r < 4) {p : Int × Int} (hp : (-1 ≤ p.1 ∧ p.1 ≤ 1000) ∧ (0 ≤ p.2 ∧ p.2 ≤ 24)) : ∀ k, k ≤ 24 → (-1 ≤ (yLk S r k p).1 ∧ (yLk S r k p).1 ≤ 1000) ∧ (0 ≤ (yLk S r k p).2 ∧ (yLk S r k p).2 ≤ 24) := by
  intro k
  induction k with
  | zero => intro _; exact hp
  | succ k ih =>
    intro hk
    have a := ih (by omega)
    have b := zsz_le (zgb S r) k 24
    simp only [yLk]
    split
    · dsimp only; omega
    · exact a
theorem yLr_in {S : Nat → Nat → Nat} : ∀ r, r ≤ 4 → (-1 ≤ (yLr S r).1 ∧ (yLr S r).1 ≤ 1000) ∧ (0 ≤ (yLr S r).2 ∧ (yLr S r).2 ≤ 24) := by
  intro r
  induction r with
  | zero => intro _; simp only [yLr]; omega
  | succ r ih =>
    intro hr
    exact yLk_in (by omega) (ih (by omega)) _ (zrn_le _ _)
theorem s96i {x : zXs} {F : zF} (hF : zSh F) {d : Nat} {V : Nat → Nat → Int32} {T : Nat → Nat → Int64} {Q : Option Value → zG → Prop} {S : Nat → Nat → Nat} (hS : zCS 1 V S) (hW : zWf S) {r : Nat} (hr : r < 4) {p : Int × Int} (hp : (-1 ≤ p.1 ∧ p.1 ≤ 1000) ∧ (0 ≤ p.2 ∧ p.2 ≤ 24)) {N : Nat} (hN : N ≤ 24) (K : ∀ o5 o6 : Option Value, E x F (d + 2) 96 66 [some (.ref 0), some (.int (Int32.ofInt ((yLk S r N p).1))), some (.int (Int32.ofInt ((yLk S r N p).2))), some (.int (Int32.ofInt ((r:Int)))), some (.int (Int32.ofInt ((N:Int)))), o5, o6] [] (V, T) Q) : ∀ (m i : Nat) (P A B : Int), P = i → i + m = N → A = (yLk S r i p).1 → B = (yLk S r i p).2 → ∀ o6 : Option Value, E x F (d + 2) 96 24 [some (.ref 0), some (.int (Int32.ofInt (A))), some (.int (Int32.ofInt (B))), some (.int (Int32.ofInt ((r:Int)))), some (.int (Int32.ofInt ((N:Int)))), some (.int (Int32.ofInt (P))), o6] [] (V, T) Q := by
  have hb : zSt 1 := Or.inl rfl
  intro m
  induction m with
  | zero =>
    intro i P A B hP hi hA hB o6
    subst hP
    subst hA
    subst hB
    have hiN : i = N := by omega
    subst hiN
    apply b96_24 hF
    · intro _
      exact K _ _
    · intro c
      simp (disch := omega) only [zI_le] at c
      exfalso; omega
  | succ m ih =>
    intro i P A B hP hi hA hB o6
    subst hP
    have a := yLk_in (S := S) hr hp i (by omega)
    have b := zsz_le (zgb S r) i 24
    have hn : yLk S r (i + 1) p = if (yLk S r i p).2 < zsz (zgb S r) i 24 then ((100 * r + i : Int), (zsz (zgb S r) i 24 : Int)) else yLk S r i p := rfl
    apply b96_24 hF
    · intro c
      simp (disch := omega) only [zI_le] at c
      exfalso; omega
    · intro _
      apply b96_31 hF
      apply s34 hF hb hS hW hr (by omega)
      apply b96_41 hF
      · intro c
        simp (disch := omega) only [zI_le] at c
        apply b96_60 hF
        rw [zI_add]
        rw [if_neg (by omega)] at hn
        exact ih (i + 1) _ _ _ (by omega) (by omega) (by rw [hn]; exact hA) (by rw [hn]; exact hB) _
      · intro c
        simp (disch := omega) only [zI_le] at c
        apply b96_49 hF
        apply b96_60 hF
        rw [zI_mul, zI_add, zI_add]
        rw [if_pos (by omega)] at hn
        exact ih (i + 1) _ _ _ (by omega) (by omega) (by rw [hn]) (by rw [hn]) _
theorem s96l {x : zXs} {F : zF} (hF : zSh F) {d : Nat} {V : Nat → Nat → Int32} {T : Nat → Nat → Int64} {Q : Option Value → zG → Prop} {S : Nat → Nat → Nat} (hS : zCS 1 V S) (hW : zWf S) (K : Q (some (.int (Int32.ofInt (yLr S 4).1))) (V, T)) : ∀ (m r : Nat) (P A B : Int), P = r → r + m = 4 → A = (yLr S r).1 → B = (yLr S r).2 → ∀ o4 o5 o6 : Option Value, E x F (d + 2) 96 6 [some (.ref 0), some (.int (Int32.ofInt (A))), some (.int (Int32.ofInt (B))), some (.int (Int32.ofInt (P))), o4, o5, o6] [] (V, T) Q := by
  have hb : zSt 1 := Or.inl rfl
  intro m
  induction m with
  | zero =>
    intro r P A B hP hr hA hB o4 o5 o6
    subst hP
    subst hA
    subst hB
    have hr4 : r = 4 := by omega
    subst hr4
    apply b96_6 hF
    · intro _
      exact b96_72 hF K
    · intro c
      simp (disch := omega) only [zI_le] at c
      exfalso; omega
  | succ m ih =>
    intro r P A B hP hr hA hB o4 o5 o6
    subst hP
    have a := yLr_in (S := S) r (by omega)
    have b := zrn_le (zgb S r) 24
    apply b96_6 hF
    · intro c
      simp (disch := omega) only [zI_le] at c
      exfalso; omega
    · intro _
      apply b96_11 hF
      apply s32 hF hb hS hW (by omega)
      apply b96_19 hF
      refine s96i hF hS hW (p := yLr S r) (by omega) a b ?_ _ 0 0 A B rfl (Nat.zero_add _) hA hB _
      intro o5 o6
      apply b96_66 hF
      rw [zI_add]
      exact ih (r + 1) _ _ _ (by omega) (by omega) rfl rfl _ _ _
theorem s96 {x : zXs} {F : zF} (hF : zSh F) {d : Nat} {V : Nat → Nat → Int32} {T : Nat → Nat → Int64} {Q : Option Value → zG → Prop} {S : Nat → Nat → Nat} (hS : zCS 1 V S) (hW : zWf S) (K : Q (some (.int (Int32.ofInt (yLr S 4).1))) (V, T)) {o1 o2 o3 o4 o5 o6 : Option Value} : E x F (d + 2) 96 0 [some (.ref 0), o1, o2, o3, o4, o5, o6] [] (V, T) Q := by
  apply b96_0 hF
  exact s96l hF hS hW K 4 0 0 (-1) 0 rfl rfl rfl rfl _ _ _
theorem s190i {x : zXs} {F : zF} (hF : zSh F) {d : Nat} {V : Nat → Nat → Int32} {T : Nat → Nat → Int64} {Q : Option Value → zG → Prop} {S : Nat → Nat → Nat} {r : Nat} (hr : r < 4) {p : Int × Int} (hp : (-1 ≤ p.1 ∧ p.1 ≤ 1000) ∧ (0 ≤ p.2 ∧ p.2 ≤ 24)) {N : Nat} (hN : N ≤ 24) (h68 : ∀ j, j < N → V 68 j = Int32.ofInt (zsz (zgb S r) j 24 : Int)) (K : ∀ o5 : Option Value, E x F (d + 2) 190 61 [some (.ref 59), some (.int (Int32.ofInt ((yLk S r N p).1))), some (.int (Int32.ofInt ((yLk S r N p).2))), some (.int (Int32.ofInt ((r:Int)))), some (.int (Int32.ofInt ((N:Int)))), o5] [] (V, T) Q) : ∀ (m i : Nat) (P A B : Int), P = i → i + m = N → A = (yLk S r i p).1 → B = (yLk S r i p).2 → E x F (d + 2) 190 21 [some (.ref 59), some (.int (Int32.ofInt (A))), some (.int (Int32.ofInt (B))), some (.int (Int32.ofInt ((r:Int)))), some (.int (Int32.ofInt ((N:Int)))), some (.int (Int32.ofInt (P)))] [] (V, T) Q := by
  intro m
  induction m with
  | zero =>
    intro i P A B hP hi hA hB
    subst hP
    subst hA
    subst hB
    have hiN : i = N := by omega
    subst hiN
    apply b190_21 hF
    · intro _
      exact K _
    · intro c
      simp (disch := omega) only [zI_le] at c
      exfalso; omega
  | succ m ih =>
    intro i P A B hP hi hA hB
    subst hP
    have a := yLk_in (S := S) hr hp i (by omega)
    have b := zsz_le (zgb S r) i 24
    have h6 := h68 i (by omega)
    have hn : yLk S r (i + 1) p = if (yLk S r i p).2 < zsz (zgb S r) i 24 then ((100 * r + i : Int), (zsz (zgb S r) i 24 : Int)) else yLk S r i p := rfl
    apply b190_21 hF
    · intro c
      simp (disch := omega) only [zI_le] at c
      exfalso; omega
    · intro _
      apply b190_28 hF (i1 := i) (zI_nat i) (by omega)
      · rw [h6]
        intro c
        simp (disch := omega) only [zI_le] at c
        apply b190_55 hF
        rw [zI_add]
        rw [if_neg (by omega)] at hn
        exact ih (i + 1) _ _ _ (by omega) (by omega) (by rw [hn]; exact hA) (by rw [hn]; exact hB)
      · rw [h6]
        intro c
        simp (disch := omega) only [zI_le] at c
        apply b190_39 hF (i1 := i) (zI_nat i) (by omega)
        apply b190_55 hF
        rw [h6, zI_mul, zI_add, zI_add]
        rw [if_pos (by omega)] at hn
        exact ih (i + 1) _ _ _ (by omega) (by omega) (by rw [hn]) (by rw [hn])
theorem s190l {x : zXs} {F : zF} (hF : zSh F) {d : Nat} {V : Nat → Nat → Int32} {T : Nat → Nat → Int64} {Q : Option Value → zG → Prop} {S : Nat → Nat → Nat} (hS : zMS V S) (hW : zWf S) (K : ∀ V2, zMS V2 S → yFr V V2 → Q (some (.int (Int32.ofInt (yLr S 4).1))) (V2, T)) : ∀ (m r : Nat) (V1 : Nat → Nat → Int32) (P A B : Int), P = r → r + m = 4 → A = (yLr S r).1 → B = (yLr S r).2 → zMS V1 S → yFr V V1 → ∀ o4 o5 : Option Value, E x F (d + 2) 190 6 [some (.ref 59), some (.int (Int32.ofInt (A))), some (.int (Int32.ofInt (B))), some (.int (Int32.ofInt (P))), o4, o5] [] (V1, T) Q := by
  intro m
  induction m with
  | zero =>
    intro r V1 P A B hP hr hA hB hS1 hf o4 o5
    subst hP
    subst hA
    subst hB
    have hr4 : r = 4 := by omega
    subst hr4
    apply b190_6 hF
    · intro _
      exact b190_67 hF (K V1 hS1 hf)
    · intro c
      simp (disch := omega) only [zI_le] at c
      exfalso; omega
  | succ m ih =>
    intro r V1 P A B hP hr hA hB hS1 hf o4 o5
    subst hP
    have a := yLr_in (S := S) r (by omega)
    have b := zrn_le (zgb S r) 24
    apply b190_6 hF
    · intro c
      simp (disch := omega) only [zI_le] at c
      exfalso; omega
    · intro _
      apply b190_11 hF
      apply s158m hF hS1 hW (by omega)
      intro V2 h68 f2
      apply b190_16 hF
      refine s190i hF (S := S) (p := yLr S r) (by omega) a b h68 ?_ _ 0 0 A B rfl (Nat.zero_add _) hA hB
      intro o5
      apply b190_61 hF
      rw [zI_add]
      exact ih (r + 1) V2 _ _ _ (by omega) (by omega) rfl rfl (zMS_67 hS1 f2) (yFr_tr hf (yFr_67 f2)) _ _
theorem s190 {x : zXs} {F : zF} (hF : zSh F) {d : Nat} {V : Nat → Nat → Int32} {T : Nat → Nat → Int64} {Q : Option Value → zG → Prop} {S : Nat → Nat → Nat} (hS : zMS V S) (hW : zWf S) (K : ∀ V2, zMS V2 S → yFr V V2 → Q (some (.int (Int32.ofInt (yLr S 4).1))) (V2, T)) {o1 o2 o3 o4 o5 : Option Value} : E x F (d + 2) 190 0 [some (.ref 59), o1, o2, o3, o4, o5] [] (V, T) Q := by
  apply b190_0 hF
  exact s190l hF hS hW K 4 0 V 0 (-1) 0 rfl rfl rfl rfl hS (yFr_rfl V) _ _
theorem ygcd (u v : Nat) : Nat.gcd v (u % v) = Nat.gcd u v := by
  rw [Nat.gcd_comm v (u % v), ← Nat.gcd_rec, Nat.gcd_comm]
theorem s99l {x : zXs} {F : zF} (hF : zSh F) {d : Nat} {V : Nat → Nat → Int32} {T : Nat → Nat → Int64} {Q : Option Value → zG → Prop} {g : Nat} {o0 o1 : Option Value} (k : Q (some (.int (Int32.ofInt (g : Int)))) (V, T)) : ∀ (m i u v : Nat) (P : Int), P = i → i + m = 96 → v ≤ m → u ≤ 1000 → v ≤ 1000 → Nat.gcd u v = g → ∀ o5 : Option Value, E x F d 99 7 [o0, o1, some (.int (Int32.ofInt ((u:Int)))), some (.int (Int32.ofInt ((v:Int)))), some (.int (Int32.ofInt (P))), o5] [] (V, T) Q := by
  intro m
  induction m with
  | zero =>
    intro i u v P hP hi hv hu hv2 hg o5
    subst hP
    have : v = 0 := by omega
    subst this
    rw [Nat.gcd_zero_right] at hg
    subst hg
    apply b99_7 hF
    · intro _
      exact b99_34 hF k
    · intro c
      simp (disch := omega) only [zI_le] at c
      exfalso; omega
  | succ m ih =>
    intro i u v P hP hi hv hu hv2 hg o5
    subst hP
    apply b99_7 hF
    · intro c
      simp (disch := omega) only [zI_le] at c
      exfalso; omega
    · intro _
      apply b99_14 hF
      · intro c
        simp (disch := omega) only [zI_eq, zI_0] at c
        have : v = 0 := by omega
        subst this
        rw [Nat.gcd_zero_right] at hg
        subst hg
        exact b99_34 hF k
      · intro c
        have c2 := c
        simp (disch := omega) only [zI_eq, zI_0] at c2
        have hlt := Nat.mod_lt u (show v > 0 by omega)
        have e : Int32.ofInt (u : Int) - Int32.ofInt (u : Int) / Int32.ofInt (v : Int) * Int32.ofInt (v : Int) = Int32.ofInt ((u % v : Nat) : Int) := by
          rw [zI_div (by omega) (by omega), zI_mul, zI_sub]
          congr 1
          have h1 := Nat.div_add_mod u v
          have h2 : ((u % v : Nat) : Int) = (u : Int) - (v : Int) * ((u / v : Nat) : Int) := by
            have : (((v * (u / v) + u % v : Nat)) : Int) = (u : Int) := by rw [h1]
            rw [Int.natCast_add, Int.natCast_mul] at this
            omega
          rw [h2, Int.mul_comm, Int.natCast_ediv]
        apply b99_18 hF c
        rw [e, zI_add]
        exact ih (i + 1) v (u % v) _ (by omega) (by omega) (by omega) (by omega) (by omega) (by rw [ygcd]; exact hg) _
/-- the lowest terms of a fraction, one of them -/
def yLow (a b : Nat) (part : Int) : Int := if part = 0 then ((a / Nat.gcd a b : Nat) : Int) else ((b / Nat.gcd a b : Nat) : Int)
theorem s98 {x : zXs} {F : zF} (hF : zSh F) {d : Nat} {V : Nat → Nat → Int32} {T : Nat → Nat → Int64} {Q : Option Value → zG → Prop} {a b : Nat} (ha : a ≤ 96) (hb : 0 < b ∧ b ≤ 96) {part : Int} (h_part : -2147483648 ≤ part ∧ part ≤ 2147483647) (k : Q (some (.long (Int64.ofInt (yLow a b part)))) (V, T)) {o3 : Option Value} : E x F (d + 1) 98 0 [some (.int (Int32.ofInt ((a:Int)))), some (.int (Int32.ofInt ((b:Int)))), some (.int (Int32.ofInt (part))), o3] [] (V, T) Q := by
  have hg : 0 < Nat.gcd a b := Nat.gcd_pos_of_pos_right _ hb.1
  have hg2 : Nat.gcd a b ≤ 96 := Nat.le_trans (Nat.le_of_dvd hb.1 (Nat.gcd_dvd_right a b)) hb.2
  apply b98_0 hF
  apply b99_0 hF
  refine s99l hF (g := Nat.gcd a b) ?_ 96 0 a b 0 rfl rfl (by omega) (by omega) (by omega) rfl _
  unfold yLow at k
  generalize hG : Nat.gcd a b = g at *
  have n1 : ¬ Int32.ofInt (g : Int) = 0 := by
    rw [zI_0, zI_eq (by omega) (by omega)]; omega
  have q1 := Nat.div_le_self a g
  have q2 := Nat.div_le_self b g
  have q3 : (0 : Int) ≤ ((a / g : Nat) : Int) := Int.natCast_nonneg _
  have q4 : (0 : Int) ≤ ((b / g : Nat) : Int) := Int.natCast_nonneg _
  apply b98_5 hF
  · intro _
    apply b98_14 hF
    · intro c
      simp (disch := omega) only [zI_eq, zI_0] at c
      rw [if_neg c] at k
      apply b98_25 hF n1
      rw [zI_div (by omega) (by omega), ← Int.natCast_ediv, zJ_of (a := ((b / g : Nat) : Int)) (by omega)]
      exact b98_29 hF k
    · intro c
      simp (disch := omega) only [zI_eq, zI_0, Decidable.not_not] at c
      rw [if_pos c] at k
      apply b98_18 hF n1
      rw [zI_div (by omega) (by omega), ← Int.natCast_ediv, zJ_of (a := ((a / g : Nat) : Int)) (by omega)]
      exact b98_29 hF k
  · intro c; exact absurd n1 c
def yPlaces (S : Nat → Nat → Nat) : Nat → Nat
  | 0 => 0
  | r + 1 => yPlaces S r + S 0 r
theorem yPlaces_le {S : Nat → Nat → Nat} (hW : zWf S) : ∀ r, r ≤ 4 → yPlaces S r ≤ 24 * r ∧ zll S r ≤ yPlaces S r := by
  intro r
  induction r with
  | zero => intro _; exact ⟨Nat.le_refl _, Nat.le_refl _⟩
  | succ r ih =>
    intro hr
    have a := ih (by omega)
    have b := hW.1 r (by omega)
    have c := zpc_gap b.2 24
    have e : zgb S r = 2 ^ S 0 r - 1 - S 1 r := rfl
    rw [← e] at c
    simp only [yPlaces, zll]
    split at c <;> omega
def yNear (S : Nat → Nat → Nat) (part : Int) : Int := if (0 ≤ part ∧ part ≤ 1) ∧ yPlaces S 4 ≠ 0 then yLow (yPlaces S 4 - zll S 4) (yPlaces S 4) part else -4611686018427387904
theorem s97l {x : zXs} {F : zF} (hF : zSh F) {d : Nat} {V : Nat → Nat → Int32} {T : Nat → Nat → Int64} {Q : Option Value → zG → Prop} {S : Nat → Nat → Nat} (hS : zCS 1 V S) (hW : zWf S) {o1 : Option Value} (K : ∀ o3 : Option Value, E x F d 97 27 [some (.ref 0), o1, some (.int (Int32.ofInt ((yPlaces S 4 : Int)))), o3] [] (V, T) Q) : ∀ (m r : Nat) (P A : Int), P = r → r + m = 4 → A = (yPlaces S r : Int) → E x F d 97 4 [some (.ref 0), o1, some (.int (Int32.ofInt (A))), some (.int (Int32.ofInt (P)))] [] (V, T) Q := by
  intro m
  induction m with
  | zero =>
    intro r P A hP hr hA
    subst hP
    subst hA
    have hr4 : r = 4 := by omega
    subst hr4
    apply b97_4 hF
    · intro _
      exact K _
    · intro c
      simp (disch := omega) only [zI_le] at c
      exfalso; omega
  | succ m ih =>
    intro r P A hP hr hA
    subst hP
    apply b97_4 hF
    · intro c
      simp (disch := omega) only [zI_le] at c
      exfalso; omega
    · intro _
      apply b97_9 hF (i1 := r) (zI_nat r) (by omega)
      rw [hS.1 r (by omega), zI_add, zI_add]
      exact ih (r + 1) _ _ (by omega) (by omega) (by rw [hA]; simp only [yPlaces]; omega)
theorem s97 {x : zXs} {F : zF} (hF : zSh F) {d : Nat} {V : Nat → Nat → Int32} {T : Nat → Nat → Int64} {Q : Option Value → zG → Prop} {S : Nat → Nat → Nat} (hS : zCS 1 V S) (hW : zWf S) {part : Int} (h_part : -2147483648 ≤ part ∧ part ≤ 2147483647) (k : Q (some (.long (Int64.ofInt (yNear S part)))) (V, T)) {o2 o3 : Option Value} : E x F (d + 3) 97 0 [some (.ref 0), some (.int (Int32.ofInt (part))), o2, o3] [] (V, T) Q := by
  have hb : zSt 1 := Or.inl rfl
  have hp := yPlaces_le hW 4 (by omega)
  unfold yNear at k
  have kb : ¬ ((0 ≤ part ∧ part ≤ 1) ∧ yPlaces S 4 ≠ 0) → Q (some (.long (-4611686018427387904 : Int64))) (V, T) := by
    intro c
    rw [if_neg c] at k
    exact k
  apply b97_0 hF
  refine s97l hF hS hW ?_ 4 0 0 0 rfl rfl rfl
  intro o3
  repeat' (first
    | (intro c; (try simp (disch := omega) only [zI_lt, zI_le, zI_eq, zI_0, zI_add, zI_sub, zI_mul, zI_neg, Int.reduceNeg, Int.reduceAdd, Int.reduceSub, Int.reduceMul, Decidable.not_not, Int.not_lt, Int.not_le, not_true_eq_false, not_false_eq_true] at c); (try (exfalso; omega)))
    | simp only [zI_add, zI_sub, zI_mul, zI_neg]
    | apply s7 hF h_part (by omega) (by omega)
    | apply b97_27 hF
    | apply b97_33 hF
    | apply b97_36 hF
    | apply b97_40 hF
    | apply b97_52 hF
    | apply b97_58 hF
    | exact kb (by omega)
    | with_reducible assumption
    | exact zI_nat _
    | exact zNb1
    | exact zNb0
    | omega
    | with_reducible rfl
    | exact zI_nI (by omega))
  rw [if_pos (by omega)] at k
  apply b97_44 hF
  apply s81 hF hb hS hW
  apply b97_52 hF
  rw [zI_sub, show (yPlaces S 4 : Int) - (zll S 4 : Int) = ((yPlaces S 4 - zll S 4 : Nat) : Int) by omega]
  apply s98 hF (by omega) (by omega) h_part
  exact b97_58 hF k
theorem zJ_div {a b : Nat} (h1 : a ≤ 1000) (h2 : 0 < b ∧ b ≤ 1000) : Int64.ofInt (a : Int) / Int64.ofInt (b : Int) = Int64.ofInt ((a / b : Nat) : Int) := by
  apply Int64.toInt_inj.mp
  have h4 := Nat.div_le_self a b
  have h5 : (0 : Int) ≤ ((a / b : Nat) : Int) := Int.natCast_nonneg _
  rw [Int64.toInt_div, zJ_toInt (by omega), zJ_toInt (by omega), zJ_toInt (by omega), Int.tdiv_eq_ediv_of_nonneg (by omega), ← Int.natCast_ediv]
  exact Int.bmod_eq_of_le (by omega) (by omega)
theorem zJ_mod {a b : Nat} (h1 : a ≤ 1000) (h2 : 0 < b ∧ b ≤ 1000) : Int64.ofInt (a : Int) - Int64.ofInt (a : Int) / Int64.ofInt (b : Int) * Int64.ofInt (b : Int) = Int64.ofInt ((a % b : Nat) : Int) := by
  rw [zJ_div h1 h2, ← Int64.ofInt_mul, ← Int64.ofInt_sub]
  congr 1
  have h1 := Nat.div_add_mod a b
  have : (((b * (a / b) + a % b : Nat)) : Int) = (a : Int) := by rw [h1]
  rw [Int.natCast_add, Int.natCast_mul, Int.mul_comm] at this
  omega
theorem zJ_zero {a : Nat} (h1 : a ≤ 1000) : (lg_cmp (Int64.ofInt (a : Int)) 0 = 0) ↔ a = 0 := by
  rw [lg_cmp_eq, ← Int64.toInt_inj, zJ_toInt (by omega)]
  constructor
  · intro c; have : ((0 : Int64).toInt) = 0 := by decide
    omega
  · intro c; subst c; decide
theorem s192l {x : zXs} {F : zF} (hF : zSh F) {d : Nat} {V : Nat → Nat → Int32} {T : Nat → Nat → Int64} {Q : Option Value → zG → Prop} {a b : Nat} (ha : a ≤ 1000) (hb : 0 < b ∧ b ≤ 1000) {part : Int} (h_part : -2147483648 ≤ part ∧ part ≤ 2147483647) (k : Q (some (.long (Int64.ofInt (yLow a b part)))) (V, T)) {o1 o3 : Option Value} : ∀ (m u v : Nat), v ≤ m → u ≤ 1000 → v ≤ 1000 → Nat.gcd u v = Nat.gcd a b → ∀ o6 o8 o9 o10 : Option Value, E x F d 192 6 [some (.long (Int64.ofInt (a : Int))), o1, some (.long (Int64.ofInt (b : Int))), o3, some (.int (Int32.ofInt (part))), some (.long (Int64.ofInt (u : Int))), o6, some (.long (Int64.ofInt (v : Int))), o8, o9, o10] [] (V, T) Q := by
  have hg : 0 < Nat.gcd a b := Nat.gcd_pos_of_pos_right _ hb.1
  have hg2 : Nat.gcd a b ≤ 1000 := Nat.le_trans (Nat.le_of_dvd hb.1 (Nat.gcd_dvd_right a b)) hb.2
  have fin : ∀ u : Nat, Nat.gcd u 0 = Nat.gcd a b → ∀ o6 o7 o8 o9 o10 : Option Value, E x F d 192 31 [some (.long (Int64.ofInt (a : Int))), o1, some (.long (Int64.ofInt (b : Int))), o3, some (.int (Int32.ofInt (part))), some (.long (Int64.ofInt (u : Int))), o6, o7, o8, o9, o10] [] (V, T) Q := by
    intro u hu o6 o7 o8 o9 o10
    rw [Nat.gcd_zero_right] at hu
    unfold yLow at k
    rw [← hu] at k hg hg2
    have n1 : ¬ Int64.ofInt (u : Int) = 0 := by
      intro c
      have := (zJ_zero hg2).mp (by rw [c]; decide)
      omega
    apply b192_31 hF
    · intro c
      simp (disch := omega) only [zI_eq, zI_0] at c
      rw [if_neg c] at k
      apply b192_43 hF n1
      rw [zJ_div (by omega) (by omega)]
      exact b192_47 hF k
    · intro c
      simp (disch := omega) only [zI_eq, zI_0, Decidable.not_not] at c
      rw [if_pos c] at k
      apply b192_36 hF n1
      rw [zJ_div (by omega) (by omega)]
      exact b192_47 hF k
  intro m
  induction m with
  | zero =>
    intro u v hv hu hv2 hgg o6 o8 o9 o10
    have : v = 0 := by omega
    subst this
    apply b192_6 hF
    · intro _
      exact fin u hgg _ _ _ _ _
    · intro c
      exact absurd ((zJ_zero (by omega)).mpr rfl) c
  | succ m ih =>
    intro u v hv hu hv2 hgg o6 o8 o9 o10
    apply b192_6 hF
    · intro c
      have : v = 0 := (zJ_zero hv2).mp c
      subst this
      exact fin u hgg _ _ _ _ _
    · intro c
      have hv0 : v ≠ 0 := fun h => c ((zJ_zero hv2).mpr h)
      have n1 : ¬ Int64.ofInt (v : Int) = 0 := by
        intro c2
        exact hv0 ((zJ_zero hv2).mp (by rw [c2]; decide))
      have hlt := Nat.mod_lt u (show v > 0 by omega)
      apply b192_13 hF n1
      rw [zJ_mod hu (by omega)]
      exact ih v (u % v) (by omega) (by omega) (by omega) (by rw [ygcd]; exact hgg) _ _ _ _
theorem s192 {x : zXs} {F : zF} (hF : zSh F) {d : Nat} {V : Nat → Nat → Int32} {T : Nat → Nat → Int64} {Q : Option Value → zG → Prop} {a b : Nat} (ha : a ≤ 1000) (hb : 0 < b ∧ b ≤ 1000) {part : Int} (h_part : -2147483648 ≤ part ∧ part ≤ 2147483647) (k : Q (some (.long (Int64.ofInt (yLow a b part)))) (V, T)) {o1 o3 o5 o6 o7 o8 o9 o10 : Option Value} : E x F d 192 0 [some (.long (Int64.ofInt (a : Int))), o1, some (.long (Int64.ofInt (b : Int))), o3, some (.int (Int32.ofInt (part))), o5, o6, o7, o8, o9, o10] [] (V, T) Q := by
  apply b192_0 hF
  exact s192l hF ha hb h_part k b a b (Nat.le_refl _) ha hb.2 rfl _ _ _ _
theorem s191 {x : zXs} {F : zF} (hF : zSh F) {d : Nat} {V : Nat → Nat → Int32} {T : Nat → Nat → Int64} {Q : Option Value → zG → Prop} {S : Nat → Nat → Nat} (hS : zMS V S) (hW : zWf S) {part : Int} (h_part : -2147483648 ≤ part ∧ part ≤ 2147483647) (k : Q (some (.long (Int64.ofInt (yNear S part)))) (V, T)) {o2 : Option Value} : E x F (d + 3) 191 0 [some (.ref 59), some (.int (Int32.ofInt (part))), o2] [] (V, T) Q := by
  have hp := yPlaces_le hW 4 (by omega)
  unfold yNear at k
  have kb : ¬ ((0 ≤ part ∧ part ≤ 1) ∧ yPlaces S 4 ≠ 0) → Q (some (.long (-4611686018427387904 : Int64))) (V, T) := by
    intro c
    rw [if_neg c] at k
    exact k
  have eP : (S 0 0 : Int) + (S 0 1 : Int) + (S 0 2 : Int) + (S 0 3 : Int) = (yPlaces S 4 : Int) := by
    simp only [yPlaces]; omega
  apply b191_0 hF
  rw [hS.1 0 (by omega), hS.1 1 (by omega), hS.1 2 (by omega), hS.1 3 (by omega), zI_add, zI_add, zI_add, eP]
  repeat' (first
    | (intro c; (try simp (disch := omega) only [zI_lt, zI_le, zI_eq, zI_0, zI_add, zI_sub, zI_mul, zI_neg, Int.reduceNeg, Int.reduceAdd, Int.reduceSub, Int.reduceMul, Decidable.not_not, Int.not_lt, Int.not_le, not_true_eq_false, not_false_eq_true] at c); (try (exfalso; omega)))
    | simp only [zI_add, zI_sub, zI_mul, zI_neg]
    | apply s132v hF h_part (lo := 0) (hi := 1) (by omega) (by omega)
    | apply b191_35 hF
    | apply b191_38 hF
    | apply b191_47 hF
    | apply b191_55 hF
    | apply b191_58 hF
    | apply b191_61 hF
    | exact kb (by omega)
    | with_reducible assumption
    | exact zI_nat _
    | exact zNb1
    | exact zNb0
    | omega
    | with_reducible rfl
    | exact zI_nI (by omega))
  rw [if_pos (by omega)] at k
  apply b191_42 hF
  apply s177 hF hS hW
  apply b191_47 hF
  rw [zI_sub, show (yPlaces S 4 : Int) - (zll S 4 : Int) = ((yPlaces S 4 - zll S 4 : Nat) : Int) by omega, zJ_of (a := ((yPlaces S 4 - zll S 4 : Nat) : Int)) (by omega), zJ_of (a := (yPlaces S 4 : Int)) (by omega)]
  apply s192 hF (by omega) (by omega) h_part
  exact b191_55 hF (b191_61 hF k)
