/-! The reference: runs of a row -/
/-- where a run begins, as told before a place -/
def ybg (g j : Nat) : Nat → Nat
  | 0 => 0
  | p + 1 => if (g.testBit p && !(decide (0 < p) && g.testBit (p - 1))) = true ∧ zrn g p = j then p else ybg g j p
theorem zrn_mono (g p : Nat) : zrn g p ≤ zrn g (p + 1) := by
  simp only [zrn]; omega
theorem zrn_pos {g : Nat} : ∀ {q : Nat}, g.testBit q = true → 0 < zrn g (q + 1) := by
  intro q
  induction q with
  | zero =>
    intro h
    have := zrn_s2 h (fun h0 => absurd h0 (by omega))
    omega
  | succ q ih =>
    intro h
    by_cases h5 : g.testBit q = true
    · have h8 := ih h5
      have := zrn_mono g (q + 1)
      omega
    · have h6 : g.testBit q = false := by simpa using h5
      have := zrn_s2 h (fun _ => h6)
      omega
theorem zsz_zero {g j : Nat} : ∀ p, zrn g p ≤ j → zsz g j p = 0 := by
  intro p
  induction p with
  | zero => intro _; rfl
  | succ p ih =>
    intro h
    have h1 := zrn_mono g p
    have h2 : ¬ zrn g (p + 1) = j + 1 := by omega
    rw [zsz_s2 h2]
    exact ih (by omega)
/-- the memory of runs told before a place -/
def zRn (V V' : Nat → Nat → Int32) (g p : Nat) : Prop := (∀ j, j < zrn g p → V' 67 j = Int32.ofInt (ybg g j p : Int) ∧ V' 68 j = Int32.ofInt (zsz g j p : Int)) ∧ (∀ a, a ≠ 67 → a ≠ 68 → V' a = V a)
theorem ybg_old {g j p : Nat} (h : j < zrn g p) : ybg g j (p + 1) = ybg g j p := by
  simp only [ybg]
  rw [if_neg (by omega)]
theorem s158l {x : zXs} {F : zF} (hF : zSh F) {d : Nat} {V : Nat → Nat → Int32} {T : Nat → Nat → Int64} {Q : Option Value → zG → Prop} {r L B : Nat} (hr : r < 5) (hL : V 64 r = Int32.ofInt (L : Int)) (hB : V 63 r = Int32.ofInt (B : Int)) (h1 : L ≤ 24) (h2 : B < 2 ^ L) (k : ∀ V', zRn V V' (ygb L B) L → Q (some (.int (Int32.ofInt (zrn (ygb L B) L : Int)))) (V', T)) : ∀ (m p : Nat) (V1 : Nat → Nat → Int32) (N P : Int), N = zrn (ygb L B) p → P = p → p + m = L → zRn V V1 (ygb L B) p → E x F (d + 1) 158 4 [some (.ref 59), some (.int (Int32.ofInt (r : Int))), some (.int (Int32.ofInt N)), some (.int (Int32.ofInt P))] [] (V1, T) Q := by
  intro m
  induction m with
  | zero =>
    intro p V1 N P hN hP hp hR
    subst hN
    subst hP
    have hpL : p = L := by omega
    subst hpL
    apply b158_4 hF (i1 := r) (zI_nat r) hr
    · intro _
      exact b158_82 hF (k V1 hR)
    · rw [hR.2 64 (by omega) (by omega), hL]
      intro c
      simp (disch := omega) only [zI_le] at c
      exfalso; omega
  | succ m ih =>
    intro p V1 N P hN hP hp hR
    subst hN
    subst hP
    have hle := zrn_le (ygb L B) p
    have hL1 : V1 64 r = Int32.ofInt (L : Int) := by rw [hR.2 64 (by omega) (by omega)]; exact hL
    have hB1 : V1 63 r = Int32.ofInt (B : Int) := by rw [hR.2 63 (by omega) (by omega)]; exact hB
    apply b158_4 hF (i1 := r) (zI_nat r) hr
    · rw [hL1]
      intro c
      simp (disch := omega) only [zI_le] at c
      exfalso; omega
    intro _
    apply b158_14 hF
    apply s159 hF hr hL1 hB1 h1 h2 (by omega)
    rotate_left
    · -- no gap
      intro hb
      have hr0 := zrn_s0 hb
      apply b158_20 hF
      rotate_left
      · intro c; exact absurd rfl c
      intro _
      apply b158_55 hF
      apply s159 hF hr hL1 hB1 h1 h2 (by omega)
      · intro hb2; rw [hb] at hb2; exact absurd hb2 (by decide)
      intro _
      apply b158_61 hF
      rotate_left
      · intro c; exact absurd rfl c
      intro _
      apply b158_76 hF
      rw [zI_add]
      apply ih (p + 1) V1 _ _ (by omega) (by omega) (by omega)
      refine ⟨?_, hR.2⟩
      intro j hj
      rw [hr0] at hj
      rw [ybg_old hj, zsz_s0 hb]
      exact hR.1 j hj
    · -- a gap
      intro hb
      apply b158_20 hF
      · intro c; exact absurd c (by decide)
      intro _
      -- the tail: the size of the run at hand grows
      have tail : ∀ V2, (∀ j, j < zrn (ygb L B) (p + 1) → V2 67 j = Int32.ofInt (ybg (ygb L B) j (p + 1) : Int) ∧ V2 68 j = Int32.ofInt (zsz (ygb L B) j p : Int)) → (∀ a, a ≠ 67 → a ≠ 68 → V2 a = V a) → 0 < zrn (ygb L B) (p + 1) → E x F (d + 1) 158 55 [some (.ref 59), some (.int (Int32.ofInt (r : Int))), some (.int (Int32.ofInt (zrn (ygb L B) (p + 1) : Int))), some (.int (Int32.ofInt (p : Int)))] [] (V2, T) Q := by
        intro V2 hj2 hf2 hpos
        have hle2 := zrn_le (ygb L B) (p + 1)
        have hL2 : V2 64 r = Int32.ofInt (L : Int) := by rw [hf2 64 (by omega) (by omega)]; exact hL
        have hB2 : V2 63 r = Int32.ofInt (B : Int) := by rw [hf2 63 (by omega) (by omega)]; exact hB
        apply b158_55 hF
        apply s159 hF hr hL2 hB2 h1 h2 (by omega)
        rotate_left
        · intro hb2; rw [hb] at hb2; exact absurd hb2 (by decide)
        intro _
        apply b158_61 hF
        · intro c; exact absurd c (by decide)
        intro _
        have e1 : (zrn (ygb L B) (p + 1) : Int) - 1 = ((zrn (ygb L B) (p + 1) - 1 : Nat) : Int) := by omega
        apply b158_64 hF (i1 := zrn (ygb L B) (p + 1) - 1) (by rw [zI_sub, e1]; exact zI_nat _) (by omega) (i2 := zrn (ygb L B) (p + 1) - 1) (by rw [zI_sub, e1]; exact zI_nat _) (by omega)
        rw [(hj2 _ (by omega)).2, zI_add]
        apply b158_76 hF
        rw [zI_add]
        apply ih (p + 1) _ _ _ rfl (by omega) (by omega)
        refine ⟨?_, ?_⟩
        · intro j hj
          refine ⟨by rw [zu_ne (by omega)]; exact (hj2 j hj).1, ?_⟩
          rw [zu_at]
          by_cases hjn : j = zrn (ygb L B) (p + 1) - 1
          · rw [if_pos hjn, hjn, zsz_s1 hb (by omega)]
            rfl
          · rw [if_neg hjn, zsz_s2 (by omega)]
            exact (hj2 j hj).2
        · intro a a1 a2
          rw [zu_ne (by omega)]
          exact hf2 a a1 a2
      -- a new run begins
      have fresh : (0 < p → (ygb L B).testBit (p - 1) = false) → E x F (d + 1) 158 38 [some (.ref 59), some (.int (Int32.ofInt (r : Int))), some (.int (Int32.ofInt (zrn (ygb L B) p : Int))), some (.int (Int32.ofInt (p : Int)))] [] (V1, T) Q := by
        intro hq
        have hr2 := zrn_s2 hb hq
        apply b158_38 hF (i1 := zrn (ygb L B) p) (zI_nat _) (by omega) (i2 := zrn (ygb L B) p) (zI_nat _) (by omega)
        rw [zI_add, show (zrn (ygb L B) p : Int) + 1 = (zrn (ygb L B) (p + 1) : Int) by omega]
        apply tail
        · intro j hj
          by_cases hjn : j = zrn (ygb L B) p
          · subst hjn
            rw [zu_ne (by omega), zuN_at, zuN_at, zsz_zero p (Nat.le_refl _)]
            refine ⟨?_, rfl⟩
            have : ((ygb L B).testBit p && !(decide (0 < p) && (ygb L B).testBit (p - 1))) = true := by
              by_cases h0 : 0 < p
              · simp [hb, h0, hq h0]
              · simp [hb, h0]
            rw [ybg, if_pos ⟨this, rfl⟩]
          · rw [zu_ne (by omega), zuN_nk hjn, zuN_nk hjn, zu_ne (by omega), ybg_old (by omega)]
            exact hR.1 j (by omega)
        · intro a a1 a2
          rw [zu_ne (by omega), zu_ne (by omega)]
          exact hR.2 a a1 a2
        · omega
      apply b158_23 hF
      · intro c
        simp (disch := omega) only [zI_eq, zI_0] at c
        exact fresh (fun h0 => by omega)
      · intro c
        simp (disch := omega) only [zI_eq, zI_0] at c
        have h0 : 0 < p := by omega
        apply b158_27 hF
        rw [zI_sub, show (p : Int) - 1 = ((p - 1 : Nat) : Int) by omega]
        apply s159 hF hr hL1 hB1 h1 h2 (by omega)
        · intro hq
          have hr1 := zrn_s1 hb h0 hq
          apply b158_35 hF
          rotate_left
          · intro c2; exact absurd (by decide) c2
          intro _
          have hpos : 0 < zrn (ygb L B) (p + 1) := by
            have h7 := zrn_pos hq
            have := zrn_mono (ygb L B) p
            rw [show p - 1 + 1 = p by omega] at h7
            omega
          rw [← hr1]
          apply tail V1 _ hR.2 hpos
          intro j hj
          rw [hr1] at hj
          rw [ybg_old hj]
          exact hR.1 j hj
        · intro hq
          apply b158_35 hF
          · intro c2; exact absurd rfl c2
          intro _
          exact fresh (fun _ => hq)
theorem s158 {x : zXs} {F : zF} (hF : zSh F) {d : Nat} {V : Nat → Nat → Int32} {T : Nat → Nat → Int64} {Q : Option Value → zG → Prop} {r L B : Nat} (hr : r < 5) (hL : V 64 r = Int32.ofInt (L : Int)) (hB : V 63 r = Int32.ofInt (B : Int)) (h1 : L ≤ 24) (h2 : B < 2 ^ L) {o2 o3 : Option Value} (k : ∀ V', zRn V V' (ygb L B) L → Q (some (.int (Int32.ofInt (zrn (ygb L B) L : Int)))) (V', T)) : E x F (d + 1) 158 0 [some (.ref 59), some (.int (Int32.ofInt (r : Int))), o2, o3] [] (V, T) Q := by
  apply b158_0 hF
  exact s158l hF hr hL hB h1 h2 k L 0 V 0 0 rfl rfl (Nat.zero_add _) ⟨fun j hj => absurd hj (Nat.not_lt_zero _), fun _ _ _ => rfl⟩
