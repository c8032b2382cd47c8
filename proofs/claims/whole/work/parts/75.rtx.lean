/-! text: the reference -/
/-- the texts of the reference: their bytes, and what they tell -/
def zRt (V : Nat → Nat → Int32) (n : Nat) (w : Nat → Nat → (Nat → Int32) → Int32) : Prop := n ≤ 6 ∧ ∀ t, t < n → ∃ (b : Nat → Nat) (m : Nat), V 61 t = Int32.ofInt (m : Int) ∧ m ≤ 160 ∧ (∀ i, i < m → V 60 (160 * t + i) = Int32.ofInt (b i : Int) ∧ b i ≤ 255) ∧ yXf b m = 0 ∧ ∀ p, p < 3 → ∀ e, w t p e = yXv b m p e
theorem zRt_fr {V V2 : Nat → Nat → Int32} {n : Nat} {w : Nat → Nat → (Nat → Int32) → Int32} (h : zRt V n w) (h1 : V2 60 = V 60) (h2 : V2 61 = V 61) : zRt V2 n w := by
  refine ⟨h.1, fun t ht => ?_⟩
  rw [h1, h2]
  exact h.2 t ht
theorem zRd_of {x : zXs} {F : zF} (hF : zSh F) {V V0 : Nat → Nat → Int32} {n : Nat} {w : Nat → Nat → (Nat → Int32) → Int32} (h : zRt V n w) (hR : zRu V0 n w) : zRd x F V n w := by
  refine ⟨fun t p e e' ht hp he => zRu_env hR ht hp he, ?_⟩
  intro d V1 T Q t p ht hp h60 h61 k
  obtain ⟨b, m, a1, a2, a3, a4, a5⟩ := h.2 t ht
  have hn := h.1
  refine s141 hF (d := d + 9) (by omega) a2 (by rw [h61]; exact a1) (fun i hi => by rw [h60]; exact a3 i hi) hp ?_
  intro V2 T2 v hm h1 _
  have a := h1 a4
  rw [a.2, ← a5 p hp]
  exact k V2 T2 hm.1 hm.2
theorem s165 {x : zXs} {F : zF} (hF : zSh F) {d : Nat} {V : Nat → Nat → Int32} {T : Nat → Nat → Int64} {Q : Option Value → zG → Prop} {b : Nat → Nat} {n : Nat} (hT : zTm V b n) {N : Nat} (h3 : V 59 3 = Int32.ofInt (N : Int)) (hN6 : N ≤ 6) {w : Nat → Nat → (Nat → Int32) → Int32} (hR : zRt V N w) (k : ∀ V2 T2, (∀ a, a ≠ 59 → a ≠ 60 → a ≠ 61 → V2 a = V a) → (∀ j, j ≠ 3 → j ≠ 6 → (j < 19 ∨ 27 < j) → V2 59 j = V 59 j) → zTm V2 b (if N = 6 then n else 0) → V2 59 3 = Int32.ofInt (yTextN b n N : Int) → zRt V2 (yTextN b n N) (yTextW b n N w) → Q (some (.int (Int32.ofInt (yText b n N)))) (V2, T2)) {o1 : Option Value} : E x F (d + 42) 165 0 [some (.ref 59), o1] [] (V, T) Q := by
  obtain ⟨t1, hn, t3⟩ := hT
  have hb : ∀ i, i < n → b i ≤ 255 := fun i hi => (t3 i hi).2
  unfold yTextN yTextW yText at k
  apply b165_0 hF
  rotate_left
  · rw [h3]
    intro c
    simp (disch := omega) only [zI_eq] at c
    have hN : N = 6 := by omega
    rw [if_pos hN, if_neg (by omega), if_neg (by omega), if_pos hN] at k
    exact b165_9 hF (k V T (fun _ _ _ _ => rfl) (fun _ _ _ _ => rfl) ⟨t1, hn, t3⟩ h3 hR)
  rw [h3]
  intro c
  simp (disch := omega) only [zI_eq] at c
  have hN : N < 6 := by omega
  rw [if_neg (show ¬ N = 6 by omega), if_neg (show ¬ N = 6 by omega)] at k
  apply b165_12 hF
  have fin : ∀ (V1 : Nat → Nat → Int32) (o : Option Value), (∀ a, a ≠ 60 → V1 a = V a) → (∀ j, j < 160 * N → V1 60 j = V 60 j) → (∀ j, j < n → V1 60 (160 * N + j) = Int32.ofInt (b j : Int)) → E x F (d + 42) 165 49 [some (.ref 59), o] [] (V1, T) Q := by
    intro V1 o f1 f2 f3
    apply b165_49 hF (i1 := N) (by rw [f1 59 (by omega), h3]; exact zI_nat N) hN
    have e3 : (zu (zu V1 61 N (V1 59 6)) 59 6 (Int32.ofInt 0)) 59 3 = Int32.ofInt (N : Int) := by
      rw [zuN_nk (by omega), zu_ne (by omega), f1 59 (by omega)]; exact h3
    have e6 : (zu (zu V1 61 N (V1 59 6)) 59 6 (Int32.ofInt 0)) 59 6 = Int32.ofInt 0 := by rw [zuN_at]
    have e61 : (zu (zu V1 61 N (V1 59 6)) 59 6 (Int32.ofInt 0)) 61 N = Int32.ofInt (n : Int) := by
      rw [zu_ne (by omega), zuN_at, f1 59 (by omega)]; exact t1
    have e61o : ∀ t, t ≠ N → (zu (zu V1 61 N (V1 59 6)) 59 6 (Int32.ofInt 0)) 61 t = V 61 t := fun t ht => by
      rw [zu_ne (by omega), zuN_nk ht, f1 61 (by omega)]
    have e60 : (zu (zu V1 61 N (V1 59 6)) 59 6 (Int32.ofInt 0)) 60 = V1 60 := by rw [zu_ne (by omega), zu_ne (by omega)]
    have eo : ∀ a, a ≠ 59 → a ≠ 60 → a ≠ 61 → (zu (zu V1 61 N (V1 59 6)) 59 6 (Int32.ofInt 0)) a = V a := fun a a1 a2 a3 => by
      rw [zu_ne a1, zu_ne a3, f1 a a2]
    have e59 : ∀ j, j ≠ 6 → (zu (zu V1 61 N (V1 59 6)) 59 6 (Int32.ofInt 0)) 59 j = V 59 j := fun j hj => by
      rw [zuN_nk hj, zu_ne (by omega), f1 59 (by omega)]
    rw [e3]
    generalize zu (zu V1 61 N (V1 59 6)) 59 6 (Int32.ofInt 0) = V2 at *
    have hb60 : ∀ i, i < n → V2 60 (160 * N + i) = Int32.ofInt (b i : Int) ∧ b i ≤ 255 := fun i hi => ⟨by rw [e60]; exact f3 i hi, hb i hi⟩
    refine s141 hF hN hn e61 hb60 (p := 0) (by omega) ?_
    intro V3 T3 v hm h0 h1
    have old : ∀ (V4 : Nat → Nat → Int32), (∀ a, a ≠ 59 → V4 a = V3 a) → ∀ t, t < N → ∃ (b : Nat → Nat) (m : Nat), V4 61 t = Int32.ofInt (m : Int) ∧ m ≤ 160 ∧ (∀ i, i < m → V4 60 (160 * t + i) = Int32.ofInt (b i : Int) ∧ b i ≤ 255) ∧ yXf b m = 0 ∧ ∀ p, p < 3 → ∀ e, w t p e = yXv b m p e := by
      intro V4 h4 t ht
      obtain ⟨b', m, a1, a2, a3, a4, a5⟩ := hR.2 t ht
      refine ⟨b', m, ?_, a2, ?_, a4, a5⟩
      · rw [h4 61 (by omega), hm.1 61 (by omega), e61o t (by omega)]; exact a1
      · intro i hi
        rw [h4 60 (by omega), hm.1 60 (by omega), e60, f2 _ (by omega)]; exact a3 i hi
    apply b165_76 hF
    · intro c1
      have hx : yXf b n = 0 := by
        apply Decidable.byContradiction
        intro c2
        rw [(h1 c2).1] at c1
        exact absurd c1 (by decide)
      rw [if_pos ⟨hN, hx⟩, if_pos ⟨hN, hx⟩, if_pos hx] at k
      apply b165_92 hF
      have e33 : V3 59 3 = Int32.ofInt (N : Int) := by rw [hm.2 3 (by omega)]; exact e3
      rw [zuN_at, e33, zI_add, zI_sub, show (N : Int) + 1 - 1 = (N : Int) by omega]
      refine k _ _ (fun a a1 a2 a3 => ?_) (fun j j1 j2 j3 => ?_) ⟨?_, Nat.zero_le _, fun i hi => absurd hi (by omega)⟩ ?_ ⟨by omega, fun t ht => ?_⟩
      · rw [zu_ne a1, hm.1 a a1, eo a a1 a2 a3]
      · rw [zuN_nk j1, hm.2 j j3, e59 j j2]
      · rw [zuN_nk (by omega), hm.2 6 (by omega)]; exact e6
      · rw [zuN_at]; rfl
      · by_cases htn : t = N
        · subst htn
          refine ⟨b, n, ?_, hn, ?_, hx, fun p hp e => ?_⟩
          · rw [zu_ne (by omega), hm.1 61 (by omega)]; exact e61
          · intro i hi
            rw [zu_ne (by omega), hm.1 60 (by omega)]; exact hb60 i hi
          · show (if t = t then yXv b n p e else w t p e) = _
            rw [if_pos rfl]
        · obtain ⟨b', m, a1, a2, a3, a4, a5⟩ := old _ (fun a ha => zu_ne ha) t (by omega)
          refine ⟨b', m, a1, a2, a3, a4, fun p hp e => ?_⟩
          show (if t = N then yXv b n p e else w t p e) = _
          rw [if_neg htn]
          exact a5 p hp e
    · intro c1
      have hx : yXf b n ≠ 0 := by
        intro c2
        exact c1 ((h0 c2).1.trans rfl)
      rw [if_neg (fun c => hx c.2), if_neg (fun c => hx c.2), if_neg hx] at k
      apply b165_84 hF
      rw [(h1 hx).2, zI_sub]
      refine k _ _ (fun a a1 a2 a3 => ?_) (fun j j1 j2 j3 => ?_) ⟨?_, Nat.zero_le _, fun i hi => absurd hi (by omega)⟩ ?_ ⟨by omega, old _ (fun _ _ => rfl)⟩
      · rw [hm.1 a a1, eo a a1 a2 a3]
      · rw [hm.2 j j3, e59 j j2]
      · rw [hm.2 6 (by omega)]; exact e6
      · rw [hm.2 3 (by omega)]; exact e3
  have loop : ∀ (m i : Nat) (V1 : Nat → Nat → Int32) (P : Int), P = i → i + m = n → (∀ a, a ≠ 60 → V1 a = V a) → (∀ j, j < 160 * N → V1 60 j = V 60 j) → (∀ j, j < i → V1 60 (160 * N + j) = Int32.ofInt (b j : Int)) → E x F (d + 42) 165 14 [some (.ref 59), some (.int (Int32.ofInt (P)))] [] (V1, T) Q := by
    intro m
    induction m with
    | zero =>
      intro i V1 P hP hi f1 f2 f3
      subst hP
      have hin : i = n := by omega
      subst hin
      apply b165_14 hF
      · intro _
        exact fin V1 _ f1 f2 f3
      · rw [f1 59 (by omega), t1]
        intro c
        simp (disch := omega) only [zI_le] at c
        exfalso; omega
    | succ m ih =>
      intro i V1 P hP hi f1 f2 f3
      subst hP
      apply b165_14 hF
      · rw [f1 59 (by omega), t1]
        intro c
        simp (disch := omega) only [zI_le] at c
        exfalso; omega
      intro _
      apply b165_22 hF (i1 := i) (zI_nat i) (by omega) (i2 := 160 * N + i) (by rw [f1 59 (by omega), h3, zI_mul, zI_add]; exact zI_nat (160 * N + i)) (by omega)
      rw [f1 62 (by omega), (t3 i (by omega)).1, zI_add]
      refine ih (i + 1) _ _ (by omega) (by omega) (fun a ha => ?_) (fun j hj => ?_) (fun j hj => ?_)
      · rw [zu_ne ha]; exact f1 a ha
      · rw [zuN_nk (by omega)]; exact f2 j hj
      · rw [zu_at]
        by_cases c2 : j = i
        · rw [if_pos (by omega), c2]
        · rw [if_neg (by omega)]; exact f3 j (by omega)
  exact loop n 0 V 0 rfl (by omega) (fun _ _ => rfl) (fun _ _ => rfl) (fun j hj => absurd hj (Nat.not_lt_zero _))
