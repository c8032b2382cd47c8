/-! The grammar: the reference -/
theorem zGr_b {V : Nat → Nat → Int32} {T : Nat → Nat → Int64} {b : Nat → Nat} {n t q : Nat} {g : yL} (h : zGr V T b n t q g) : V 59 26 = 0 ↔ g.2.2.2.2 = 0 := by
  constructor
  · intro c
    apply Decidable.byContradiction
    intro c2
    rw [(h.2.2 c2).1] at c
    exact absurd c (by decide)
  · intro c
    exact (h.2.1 c).1.trans rfl
theorem zGr_dec {V : Nat → Nat → Int32} {T : Nat → Nat → Int64} {b : Nat → Nat} {n t q : Nat} {g : yL} (h : zGr V T b n t q g) : zGr (zu V 59 25 (V 59 25 - Int32.ofInt 1)) T b n t (q + 1) g := by
  obtain ⟨hgt, hf0, hf1⟩ := h
  refine ⟨zGt_zu hgt (by omega) _, fun c => ?_, fun c => ?_⟩
  · obtain ⟨f1, f2, f3, f4⟩ := hf0 c
    refine ⟨by rw [zuN_nk (by omega)]; exact f1, by rw [zuN_at, f2, zI_sub]; congr 1; omega, by rw [zuN_nk (by omega)]; exact f3, ?_⟩
    unfold zKd at f4 ⊢
    rw [zuN_nk (by omega), zuN_nk (by omega)]
    exact f4
  · obtain ⟨f1, f2⟩ := hf1 c
    exact ⟨by rw [zuN_nk (by omega)]; exact f1, by rw [zuN_nk (by omega)]; exact f2⟩
/-- a method of the reference reads as a reader does -/
def yKr (x : zXs) (F : zF) (b : Nat → Nat) (n t : Nat) (e : Nat → Int32) (M : Nat) (ls : List (Option Value)) (D q : Nat) (P : yP) : Prop := ∀ (V : Nat → Nat → Int32) (T : Nat → Nat → Int64) (Q : Option Value → zG → Prop) (g : yL), zGr V T b n t q g → yGw n g → (∀ i, i < 6 → V 59 (13 + i) = e i) → (∀ V2 T2, zGr V2 T2 b n t q (P g).1 → yFm V V2 → Q (some (.int ((P g).2.2 e))) (V2, T2)) → E x F D M 0 ls [] (V, T) Q
def yKt (x : zXs) (F : zF) (b : Nat → Nat) (n t : Nat) (e : Nat → Int32) (D : Nat) : Nat → Option (yP × yP × yP) → Prop
  | 0, none => True
  | q + 1, some s => (∀ d, D ≤ d → yKr x F b n t e 154 [some (.ref 59), none] d q s.1) ∧ (∀ d, D + 3 ≤ d → yKr x F b n t e 150 [some (.ref 59), none, none, none] d q s.2.1) ∧ (∀ d, D + 5 ≤ d → yKr x F b n t e 148 [some (.ref 59), none, none] d q s.2.2)
  | _, _ => False
theorem yEnv {V V2 : Nat → Nat → Int32} {e : Nat → Int32} (h : ∀ i, i < 6 → V 59 (13 + i) = e i) (m : yFm V V2) : ∀ i, i < 6 → V2 59 (13 + i) = e i := fun i hi => (m.2 (13 + i) (by omega)).trans (h i hi)
theorem zJ_t32 {v : Nat} (h : v < 10000) : (Int64.ofInt (v : Int)).toInt32 = Int32.ofInt (v : Int) := by
  apply Int32.toInt_inj.mp
  rw [Int64.toInt_toInt32, zJ_toInt (by omega), zI_toInt (by omega) (by omega)]
  exact Int.bmod_eq_of_le (by omega) (by omega)
theorem s154 {x : zXs} {F : zF} (hF : zSh F) {b : Nat → Nat} {n t : Nat} {e : Nat → Int32} (hb : ∀ i, i < n → b i ≤ 255) {D q : Nat} (hq : q ≤ 5) {sub : Option (yP × yP × yP)} (hs : yOkS n sub) (hk : yKt x F b n t e D q sub) {dd : Nat} (he1 : 4 ≤ dd) (he : sub ≠ none → D + 6 ≤ dd) : yKr x F b n t e 154 [some (.ref 59), none] dd q (yOneF b n sub) := by
  obtain ⟨d, rfl⟩ : ∃ d, dd = d + 4 := ⟨dd - 4, by omega⟩
  intro V T Q g hg hw hen k
  have w1 := hw.1
  have w2 := hw.2.1
  have w3 := hw.2.2.1
  have w7 := hw.2.2.2.2.2.2.1
  unfold yOneF at k
  have bad : ∀ V1, yFm V V1 → zGr V1 T b n t q g → (∀ V2 T2, zGr V2 T2 b n t q (yFail g) → yFm V V2 → Q (some (.int (Int32.ofInt (0)))) (V2, T2)) → E x F (d + 4) 154 157 [some (.ref 59), some (.int (Int32.ofInt (0)))] [] (V1, T) Q := by
    intro V1 m1 g1 K
    apply b154_157 hF
    apply s147 hF g1
    intro V2 g2 m2
    exact b154_161 hF (K V2 T g2 (yFm_tr m1 m2))
  apply b154_0 hF
  refine s155 hF (c := 45) (by omega) hg hw ?_ ?_
  · intro c1 _
    rw [if_neg (by omega), if_neg (by omega), if_pos c1] at k
    have ha := yAdv_p hb hw (by omega)
    apply b154_8 hF
    · intro c; exact absurd c (by decide)
    intro _
    apply b154_11 hF
    cases sub with
    | none =>
      cases q with
      | succ q => exact absurd hk (by simp [yKt])
      | zero =>
        apply s151 hF (Nat.zero_le _) hg hw (by omega)
        · intro p hp; omega
        · intro _ V2 g2 m2
          apply b154_15 hF
          · intro _
            exact b154_161 hF (k V2 T g2 m2)
          · intro c; exact absurd rfl c
    | some s =>
      cases q with
      | zero => exact absurd hk (by simp [yKt])
      | succ q =>
        have he := he (by simp)
        obtain ⟨k1, k2, k3⟩ := hk
        apply s151 hF hq hg hw (by omega)
        rotate_left
        · intro c; omega
        intro p hp V2 T2 g2 m2
        have hp : p = q := by omega
        subst hp
        apply b154_15 hF
        · intro c; exact absurd c (by decide)
        intro _
        apply b154_18 hF
        refine k1 (d + 3) (by omega) V2 T2 _ _ g2 ha.1 (yEnv hen m2) ?_
        intro V3 T3 g3 m3
        apply b154_22 hF
        apply b154_161 hF
        exact k _ _ (zGr_dec g3) (yFm_zu (yFm_tr m2 m3) (by omega) _)
  intro c45
  apply b154_8 hF
  rotate_left
  · intro c; exact absurd rfl c
  intro _
  apply b154_37 hF
  refine s155 hF (c := 40) (by omega) hg hw ?_ ?_
  · intro c1 _
    rw [if_neg (by omega), if_neg (by omega), if_neg (by omega), if_pos c1] at k
    have ha := yAdv_p hb hw (by omega)
    apply b154_43 hF
    · intro c; exact absurd c (by decide)
    intro _
    apply b154_46 hF
    cases sub with
    | none =>
      cases q with
      | succ q => exact absurd hk (by simp [yKt])
      | zero =>
        apply s151 hF (Nat.zero_le _) hg hw (by omega)
        · intro p hp; omega
        · intro _ V2 g2 m2
          apply b154_50 hF
          · intro _
            exact b154_161 hF (k V2 T g2 m2)
          · intro c; exact absurd rfl c
    | some s =>
      cases q with
      | zero => exact absurd hk (by simp [yKt])
      | succ q =>
        have he := he (by simp)
        obtain ⟨k1, k2, k3⟩ := hk
        obtain ⟨o1, o2, o3⟩ := hs
        obtain ⟨r1, r2, r3, r4, r5⟩ := o3 _ ha.1
        dsimp only at k
        unfold yExp at k
        apply s151 hF hq hg hw (by omega)
        rotate_left
        · intro c; omega
        intro p hp V2 T2 g2 m2
        have hp : p = q := by omega
        subst hp
        apply b154_50 hF
        · intro c; exact absurd c (by decide)
        intro _
        apply b154_53 hF
        refine k3 (d + 3) (by omega) V2 T2 _ _ g2 ha.1 (yEnv hen m2) ?_
        intro V3 T3 g3 m3
        have m23 := yFm_tr m2 m3
        apply b154_57 hF
        refine s155 hF (c := 41) (by omega) g3 r1 ?_ ?_
        · intro c2 _
          rw [if_pos c2] at k
          apply b154_64 hF
          rotate_left
          · intro c; exact absurd (fun c3 => absurd c3 (by decide)) c
          intro _
          have hf : (s.2.2 (yAdv b n g)).1.2.2.2.2 = 0 := by
            apply Decidable.byContradiction
            intro c
            have := r1.2.2.2.2.2.2.1 c
            omega
          have g4 := zGr_dec g3
          apply b154_71 hF
          · intro c
            exact absurd ((zGr_b g4).mpr hf) c
          intro _
          apply b154_88 hF
          apply s142g hF g4 r1 (by omega)
          intro V5 T5 g5 m5
          apply b154_92 hF
          apply b154_161 hF
          exact k _ _ g5 (yFm_tr (yFm_zu m23 (by omega) _) m5)
        · intro c2
          rw [if_neg c2] at k
          apply b154_64 hF
          · intro c; exact absurd rfl c
          intro _
          apply b154_67 hF
          apply s147 hF g3
          intro V4 g4 m4
          have g5 := zGr_dec g4
          have hf := (yFail_p r1).2.2
          apply b154_71 hF
          · intro _
            apply b154_161 hF
            exact k _ _ g5 (yFm_zu (yFm_tr m23 m4) (by omega) _)
          intro c
          exact absurd ((zGr_b g5).mp (Decidable.not_not.mp c)) hf
  intro c40
  apply b154_43 hF
  rotate_left
  · intro c; exact absurd rfl c
  intro _
  by_cases c2 : g.1 = 2
  · rw [if_pos c2] at k
    have hf : g.2.2.2.2 = 0 := by
      apply Decidable.byContradiction
      intro c
      have := w7 c
      omega
    have hK : V 59 22 = Int32.ofInt 2 ∧ T 59 24 = Int64.ofInt (g.2.1 : Int) := by
      rcases (hg.2.1 hf).2.2.2 with q | q | q | q | q
      · omega
      · exact ⟨q.1, q.2.2.2⟩
      · omega
      · have := (yWf_in b g.2.2.1 g.2.2.2.1 12 (by omega)).2.2.1
        omega
      · omega
    apply b154_95 hF
    · intro c; exact absurd ((zGr_b hg).mpr hf) c
    intro _
    apply b154_102 hF
    · intro c; exact absurd hK.1 c
    intro _
    apply b154_110 hF
    apply s142g hF hg hw (by omega)
    intro V2 T2 g2 m2
    apply b154_120 hF
    apply b154_161 hF
    rw [hK.2, zJ_t32 (w2 c2)]
    exact k V2 T2 g2 m2
  rw [if_neg c2] at k
  have key : E x F (d + 4) 154 123 [some (.ref 59), some (.int (Int32.ofInt (0)))] [] (V, T) Q := by
    by_cases c3 : g.1 = 3
    · rw [if_pos c3] at k
      have hf : g.2.2.2.2 = 0 := by
        apply Decidable.byContradiction
        intro c
        have := w7 c
        omega
      have hK : V 59 22 = Int32.ofInt 1 := by
        rcases (hg.2.1 hf).2.2.2 with q | q | q | q | q
        · omega
        · omega
        · omega
        · exact q.1
        · omega
      apply b154_123 hF
      · intro c; exact absurd ((zGr_b hg).mpr hf) c
      intro _
      apply b154_130 hF
      · intro c; exact absurd hK c
      intro _
      apply b154_138 hF
      refine s156 hF hg hw ?_ ?_
      · intro _
        rw [hen _ (w3 c3)]
        apply b154_142 hF
        · intro c; exact absurd ((zGr_b hg).mpr hf) c
        intro _
        apply b154_150 hF
        apply s142g hF hg hw (by omega)
        intro V2 T2 g2 m2
        apply b154_154 hF
        exact b154_161 hF (k V2 T2 g2 m2)
      · intro c; exact absurd c3 c
    · rw [if_neg c3, if_neg c45, if_neg c40] at k
      apply b154_123 hF
      · intro _
        exact bad V (yFm_rfl V) hg k
      intro _
      apply b154_130 hF
      · intro _
        exact bad V (yFm_rfl V) hg k
      intro _
      apply b154_138 hF
      refine s156 hF hg hw ?_ ?_
      · intro c; exact absurd c c3
      · intro _ V2 g2 m2
        apply b154_142 hF
        · intro _
          exact b154_161 hF (k V2 T g2 m2)
        intro c
        exact absurd ((zGr_b g2).mp (Decidable.not_not.mp c)) (yFail_p hw).2.2
  apply b154_95 hF
  · intro _; exact key
  intro c0
  apply b154_102 hF
  · intro _; exact key
  intro c
  exfalso
  have c := Decidable.not_not.mp c
  rcases (hg.2.1 ((zGr_b hg).mp (Decidable.not_not.mp c0))).2.2.2 with q | q | q | q | q
  · rw [q.1] at c; exact absurd c (by decide)
  · exact c2 q.2.1
  · rw [q.1] at c; exact absurd c (by decide)
  · rw [q.1] at c; exact absurd c (by decide)
  · rw [q.1] at c; exact absurd c (by decide)
/-- a token that is taken stands before the end -/
theorem yGw_lt {n : Nat} {g : yL} (h : yGw n g) (h2 : 2 ≤ g.1) : g.2.2.1 < n := by
  have hf : g.2.2.2.2 = 0 := by
    apply Decidable.byContradiction
    intro c
    have := h.2.2.2.2.2.2.1 c
    omega
  have := h.2.2.2.2.2.2.2 hf h2
  have := h.2.2.2.2.1
  omega
theorem s148 {x : zXs} {F : zF} (hF : zSh F) {b : Nat → Nat} {n t : Nat} {e : Nat → Int32} (hn : n ≤ 160) (hb : ∀ i, i < n → b i ≤ 255) {q : Nat} {p : yP} (hp : yOkP n p) {dd : Nat} (he : 4 ≤ dd) (hk : yKr x F b n t e 149 [some (.ref 59), none, none] dd q p) : yKr x F b n t e 148 [some (.ref 59), none, none] (dd + 1) q (fun g => yLp b n (fun t => t == 7) (fun t => 8) p 160 (p g)) := by
  obtain ⟨d, rfl⟩ : ∃ d, dd = d + 4 := ⟨dd - 4, by omega⟩
  intro V T Q g hg hw hen k
  obtain ⟨p1, p2, p3, p4, p5⟩ := hp g hw
  apply b148_0 hF
  refine hk V T _ g hg hw hen ?_
  intro V1 T1 g1 m1
  apply b148_4 hF
  have loop : ∀ (m : Nat) (V1 : Nat → Nat → Int32) (T1 : Nat → Nat → Int64) (r : yL × List Nat × yS) (o : Option Value), n ≤ r.1.2.2.1 + m → zGr V1 T1 b n t q r.1 → yGw n r.1 → yFm V V1 → (∀ V2 T2, zGr V2 T2 b n t q (yLp b n (fun t => t == 7) (fun t => 8) p m r).1 → yFm V V2 → Q (some (.int ((yLp b n (fun t => t == 7) (fun t => 8) p m r).2.2 e))) (V2, T2)) → E x F (d + 5) 148 5 [some (.ref 59), some (.int (r.2.2 e)), o] [] (V1, T1) Q := by
    intro m
    induction m with
    | zero =>
      intro V1 T1 r o hm hg1 hw1 hm1 K
      have no : (r.1.1 = 7) → False := fun c => by
        have := yGw_lt hw1 (by omega)
        omega
      rw [yLp] at K
      apply b148_5 hF
      refine s144 hF (i := 9) (by omega) hg1 hw1 ?_ ?_ rfl
      · intro c _
        exact absurd c no
      intro _
      apply b148_19 hF
      · intro _
        exact b148_48 hF (K V1 T1 hg1 hm1)
      · intro c; exact absurd rfl c
    | succ m ih =>
      intro V1 T1 r o hm hg1 hw1 hm1 K
      rw [yLp] at K
      have more : (r.1.1 = 7) → ∀ (V2 : Nat → Nat → Int32) (T2 : Nat → Nat → Int64), zGr V2 T2 b n t q (yAdv b n r.1) → yFm V1 V2 → E x F (d + 5) 148 26 [some (.ref 59), some (.int (r.2.2 e)), o] [] (V2, T2) Q := by
        intro c V2 T2 g2 m2
        have ha := yAdv_p hb hw1 (by omega)
        obtain ⟨q1, q2, q3, q4, q5⟩ := hp _ ha.1
        rw [if_pos (by simp only [beq_iff_eq]; omega)] at K
        apply b148_26 hF
        refine hk V2 T2 _ _ g2 ha.1 (yEnv hen (yFm_tr hm1 m2)) ?_
        intro V3 T3 g3 m3
        have nxt : ∀ o : Option Value, E x F (d + 5) 148 5 [some (.ref 59), some (.int (yTwo (8) (r.2.2 e) ((p (yAdv b n r.1)).2.2 e))), o] [] (V3, T3) Q := fun o => ih V3 T3 ((p (yAdv b n r.1)).1, r.2.1 ++ (p (yAdv b n r.1)).2.1 ++ [8], fun e => yTwo (8) (r.2.2 e) ((p (yAdv b n r.1)).2.2 e)) o (by dsimp only; omega) g3 q1 (yFm_tr hm1 (yFm_tr m2 m3)) K
        unfold yTwo at nxt
        rw [if_pos rfl] at nxt
        apply b148_30 hF
        · intro c1
          rw [if_neg (fun c2 => c1 c2.1)] at nxt
          exact b148_39 hF (b148_44 hF (nxt _))
        intro c1
        have c1 := Decidable.not_not.mp c1
        apply b148_35 hF
        · intro c2
          rw [if_pos ⟨c1, c2⟩] at nxt
          exact b148_43 hF (b148_44 hF (nxt _))
        · intro c2
          rw [if_neg (fun c3 => c2 c3.2)] at nxt
          exact b148_39 hF (b148_44 hF (nxt _))
      have stop : ¬ (r.1.1 = 7) → E x F (d + 5) 148 48 [some (.ref 59), some (.int (r.2.2 e)), o] [] (V1, T1) Q := by
        intro c
        rw [if_neg (by simp only [beq_iff_eq]; omega)] at K
        exact b148_48 hF (K V1 T1 hg1 hm1)
      apply b148_5 hF
      refine s144 hF (i := 9) (by omega) hg1 hw1 ?_ ?_ rfl
      · intro c c3
        have c : r.1.1 = 7 := c
        apply b148_19 hF
        · intro c2; exact absurd c2 (by decide)
        intro _
        apply b148_22 hF
        apply s142g hF hg1 hw1 (by omega)
        intro V2 T2 g2 m2
        exact more c V2 T2 g2 m2
      · intro c
        have c : ¬ r.1.1 = 7 := c
        apply b148_19 hF
        · intro _
          exact stop c
        · intro c2; exact absurd rfl c2
  exact loop 160 V1 T1 (p g) none (by omega) g1 p1 m1 k
theorem s149 {x : zXs} {F : zF} (hF : zSh F) {b : Nat → Nat} {n t : Nat} {e : Nat → Int32} (hn : n ≤ 160) (hb : ∀ i, i < n → b i ≤ 255) {q : Nat} {p : yP} (hp : yOkP n p) {dd : Nat} (he : 4 ≤ dd) (hk : yKr x F b n t e 150 [some (.ref 59), none, none, none] dd q p) : yKr x F b n t e 149 [some (.ref 59), none, none] (dd + 1) q (fun g => yLp b n (fun t => t == 8) (fun t => 9) p 160 (p g)) := by
  obtain ⟨d, rfl⟩ : ∃ d, dd = d + 4 := ⟨dd - 4, by omega⟩
  intro V T Q g hg hw hen k
  obtain ⟨p1, p2, p3, p4, p5⟩ := hp g hw
  apply b149_0 hF
  refine hk V T _ g hg hw hen ?_
  intro V1 T1 g1 m1
  apply b149_4 hF
  have loop : ∀ (m : Nat) (V1 : Nat → Nat → Int32) (T1 : Nat → Nat → Int64) (r : yL × List Nat × yS) (o : Option Value), n ≤ r.1.2.2.1 + m → zGr V1 T1 b n t q r.1 → yGw n r.1 → yFm V V1 → (∀ V2 T2, zGr V2 T2 b n t q (yLp b n (fun t => t == 8) (fun t => 9) p m r).1 → yFm V V2 → Q (some (.int ((yLp b n (fun t => t == 8) (fun t => 9) p m r).2.2 e))) (V2, T2)) → E x F (d + 5) 149 5 [some (.ref 59), some (.int (r.2.2 e)), o] [] (V1, T1) Q := by
    intro m
    induction m with
    | zero =>
      intro V1 T1 r o hm hg1 hw1 hm1 K
      have no : (r.1.1 = 8) → False := fun c => by
        have := yGw_lt hw1 (by omega)
        omega
      rw [yLp] at K
      apply b149_5 hF
      refine s144 hF (i := 10) (by omega) hg1 hw1 ?_ ?_ rfl
      · intro c _
        exact absurd c no
      intro _
      apply b149_20 hF
      · intro _
        exact b149_49 hF (K V1 T1 hg1 hm1)
      · intro c; exact absurd rfl c
    | succ m ih =>
      intro V1 T1 r o hm hg1 hw1 hm1 K
      rw [yLp] at K
      have more : (r.1.1 = 8) → ∀ (V2 : Nat → Nat → Int32) (T2 : Nat → Nat → Int64), zGr V2 T2 b n t q (yAdv b n r.1) → yFm V1 V2 → E x F (d + 5) 149 27 [some (.ref 59), some (.int (r.2.2 e)), o] [] (V2, T2) Q := by
        intro c V2 T2 g2 m2
        have ha := yAdv_p hb hw1 (by omega)
        obtain ⟨q1, q2, q3, q4, q5⟩ := hp _ ha.1
        rw [if_pos (by simp only [beq_iff_eq]; omega)] at K
        apply b149_27 hF
        refine hk V2 T2 _ _ g2 ha.1 (yEnv hen (yFm_tr hm1 m2)) ?_
        intro V3 T3 g3 m3
        have nxt : ∀ o : Option Value, E x F (d + 5) 149 5 [some (.ref 59), some (.int (yTwo (9) (r.2.2 e) ((p (yAdv b n r.1)).2.2 e))), o] [] (V3, T3) Q := fun o => ih V3 T3 ((p (yAdv b n r.1)).1, r.2.1 ++ (p (yAdv b n r.1)).2.1 ++ [9], fun e => yTwo (9) (r.2.2 e) ((p (yAdv b n r.1)).2.2 e)) o (by dsimp only; omega) g3 q1 (yFm_tr hm1 (yFm_tr m2 m3)) K
        unfold yTwo at nxt
        rw [if_neg (by omega), if_pos rfl] at nxt
        apply b149_31 hF
        · intro c1
          rw [if_pos (Or.inl c1)] at nxt
          exact b149_44 hF (b149_45 hF (nxt _))
        intro c1
        apply b149_36 hF
        · intro c2
          rw [if_pos (Or.inr c2)] at nxt
          exact b149_44 hF (b149_45 hF (nxt _))
        · intro c2
          rw [if_neg (fun c3 => c3.elim c1 c2)] at nxt
          exact b149_40 hF (b149_45 hF (nxt _))
      have stop : ¬ (r.1.1 = 8) → E x F (d + 5) 149 49 [some (.ref 59), some (.int (r.2.2 e)), o] [] (V1, T1) Q := by
        intro c
        rw [if_neg (by simp only [beq_iff_eq]; omega)] at K
        exact b149_49 hF (K V1 T1 hg1 hm1)
      apply b149_5 hF
      refine s144 hF (i := 10) (by omega) hg1 hw1 ?_ ?_ rfl
      · intro c c3
        have c : r.1.1 = 8 := c
        apply b149_20 hF
        · intro c2; exact absurd c2 (by decide)
        intro _
        apply b149_23 hF
        apply s142g hF hg1 hw1 (by omega)
        intro V2 T2 g2 m2
        exact more c V2 T2 g2 m2
      · intro c
        have c : ¬ r.1.1 = 8 := c
        apply b149_20 hF
        · intro _
          exact stop c
        · intro c2; exact absurd rfl c2
  exact loop 160 V1 T1 (p g) none (by omega) g1 p1 m1 k
theorem s153 {x : zXs} {F : zF} (hF : zSh F) {b : Nat → Nat} {n t : Nat} {e : Nat → Int32} (hn : n ≤ 160) (hb : ∀ i, i < n → b i ≤ 255) {q : Nat} {p : yP} (hp : yOkP n p) {dd : Nat} (he : 4 ≤ dd) (hk : yKr x F b n t e 154 [some (.ref 59), none] dd q p) : yKr x F b n t e 153 [some (.ref 59), none] (dd + 1) q (fun g => yLp b n (fun t => t == 42) (fun t => 14) p 160 (p g)) := by
  obtain ⟨d, rfl⟩ : ∃ d, dd = d + 4 := ⟨dd - 4, by omega⟩
  intro V T Q g hg hw hen k
  obtain ⟨p1, p2, p3, p4, p5⟩ := hp g hw
  apply b153_0 hF
  refine hk V T _ g hg hw hen ?_
  intro V1 T1 g1 m1
  apply b153_4 hF
  have loop : ∀ (m : Nat) (V1 : Nat → Nat → Int32) (T1 : Nat → Nat → Int64) (r : yL × List Nat × yS), n ≤ r.1.2.2.1 + m → zGr V1 T1 b n t q r.1 → yGw n r.1 → yFm V V1 → (∀ V2 T2, zGr V2 T2 b n t q (yLp b n (fun t => t == 42) (fun t => 14) p m r).1 → yFm V V2 → Q (some (.int ((yLp b n (fun t => t == 42) (fun t => 14) p m r).2.2 e))) (V2, T2)) → E x F (d + 5) 153 5 [some (.ref 59), some (.int (r.2.2 e))] [] (V1, T1) Q := by
    intro m
    induction m with
    | zero =>
      intro V1 T1 r hm hg1 hw1 hm1 K
      have no : (r.1.1 = 42) → False := fun c => by
        have := yGw_lt hw1 (by omega)
        omega
      rw [yLp] at K
      apply b153_5 hF
      refine s155 hF (c := 42) (by omega) hg1 hw1 ?_ ?_
      · intro c _
        exact absurd c no
      intro _
      apply b153_11 hF
      · intro _
        exact b153_28 hF (K V1 T1 hg1 hm1)
      · intro c; exact absurd rfl c
    | succ m ih =>
      intro V1 T1 r hm hg1 hw1 hm1 K
      rw [yLp] at K
      have more : (r.1.1 = 42) → ∀ (V2 : Nat → Nat → Int32) (T2 : Nat → Nat → Int64), zGr V2 T2 b n t q (yAdv b n r.1) → yFm V1 V2 → E x F (d + 5) 153 18 [some (.ref 59), some (.int (r.2.2 e))] [] (V2, T2) Q := by
        intro c V2 T2 g2 m2
        have ha := yAdv_p hb hw1 (by omega)
        obtain ⟨q1, q2, q3, q4, q5⟩ := hp _ ha.1
        rw [if_pos (by simp only [beq_iff_eq]; omega)] at K
        apply b153_18 hF
        refine hk V2 T2 _ _ g2 ha.1 (yEnv hen (yFm_tr hm1 m2)) ?_
        intro V3 T3 g3 m3
        have nxt : E x F (d + 5) 153 5 [some (.ref 59), some (.int (yTwo (14) (r.2.2 e) ((p (yAdv b n r.1)).2.2 e)))] [] (V3, T3) Q := ih V3 T3 ((p (yAdv b n r.1)).1, r.2.1 ++ (p (yAdv b n r.1)).2.1 ++ [14], fun e => yTwo (14) (r.2.2 e) ((p (yAdv b n r.1)).2.2 e)) (by dsimp only; omega) g3 q1 (yFm_tr hm1 (yFm_tr m2 m3)) K
        unfold yTwo at nxt
        rw [if_neg (by omega), if_neg (by omega), if_neg (by omega), if_neg (by omega), if_neg (by omega), if_neg (by omega)] at nxt
        exact b153_23 hF nxt
      have stop : ¬ (r.1.1 = 42) → E x F (d + 5) 153 28 [some (.ref 59), some (.int (r.2.2 e))] [] (V1, T1) Q := by
        intro c
        rw [if_neg (by simp only [beq_iff_eq]; omega)] at K
        exact b153_28 hF (K V1 T1 hg1 hm1)
      apply b153_5 hF
      refine s155 hF (c := 42) (by omega) hg1 hw1 ?_ ?_
      · intro c _
        apply b153_11 hF
        · intro c2; exact absurd c2 (by decide)
        intro _
        apply b153_14 hF
        apply s142g hF hg1 hw1 (by omega)
        intro V2 T2 g2 m2
        exact more c V2 T2 g2 m2
      · intro c
        apply b153_11 hF
        · intro _
          exact stop c
        · intro c2; exact absurd rfl c2
  exact loop 160 V1 T1 (p g) (by omega) g1 p1 m1 k
theorem s152 {x : zXs} {F : zF} (hF : zSh F) {b : Nat → Nat} {n t : Nat} {e : Nat → Int32} (hn : n ≤ 160) (hb : ∀ i, i < n → b i ≤ 255) {q : Nat} {p : yP} (hp : yOkP n p) {dd : Nat} (he : 4 ≤ dd) (hk : yKr x F b n t e 153 [some (.ref 59), none] dd q p) : yKr x F b n t e 152 [some (.ref 59), none, none, none] (dd + 1) q (fun g => yLp b n (fun t => t == 43 || t == 45) (fun t => if t = 43 then 12 else 13) p 160 (p g)) := by
  obtain ⟨d, rfl⟩ : ∃ d, dd = d + 4 := ⟨dd - 4, by omega⟩
  intro V T Q g hg hw hen k
  obtain ⟨p1, p2, p3, p4, p5⟩ := hp g hw
  apply b152_0 hF
  refine hk V T _ g hg hw hen ?_
  intro V1 T1 g1 m1
  apply b152_4 hF
  have loop : ∀ (m : Nat) (V1 : Nat → Nat → Int32) (T1 : Nat → Nat → Int64) (r : yL × List Nat × yS) (o o3 : Option Value), n ≤ r.1.2.2.1 + m → zGr V1 T1 b n t q r.1 → yGw n r.1 → yFm V V1 → (∀ V2 T2, zGr V2 T2 b n t q (yLp b n (fun t => t == 43 || t == 45) (fun t => if t = 43 then 12 else 13) p m r).1 → yFm V V2 → Q (some (.int ((yLp b n (fun t => t == 43 || t == 45) (fun t => if t = 43 then 12 else 13) p m r).2.2 e))) (V2, T2)) → E x F (d + 5) 152 5 [some (.ref 59), some (.int (r.2.2 e)), o, o3] [] (V1, T1) Q := by
    intro m
    induction m with
    | zero =>
      intro V1 T1 r o o3 hm hg1 hw1 hm1 K
      have no : (r.1.1 = 43 ∨ r.1.1 = 45) → False := fun c => by
        have := yGw_lt hw1 (by omega)
        omega
      rw [yLp] at K
      apply b152_5 hF
      refine s155 hF (c := 43) (by omega) hg1 hw1 ?_ ?_
      · intro c _
        exact absurd (Or.inl c) no
      intro _
      apply b152_11 hF
      · intro c; exact absurd rfl c
      intro _
      apply b152_14 hF
      refine s155 hF (c := 45) (by omega) hg1 hw1 ?_ ?_
      · intro c _
        exact absurd (Or.inr c) no
      intro _
      apply b152_20 hF
      · intro _
        exact b152_66 hF (K V1 T1 hg1 hm1)
      · intro c; exact absurd rfl c
    | succ m ih =>
      intro V1 T1 r o o3 hm hg1 hw1 hm1 K
      rw [yLp] at K
      have more : (r.1.1 = 43 ∨ r.1.1 = 45) → ∀ (V2 : Nat → Nat → Int32) (T2 : Nat → Nat → Int64) (z : Nat) (hz : z = (if r.1.1 = 43 then 1 else 0)) (o3 : Option Value), zGr V2 T2 b n t q (yAdv b n r.1) → yFm V1 V2 → E x F (d + 5) 152 44 [some (.ref 59), some (.int (r.2.2 e)), some (.int (Int32.ofInt ((z:Int)))), o3] [] (V2, T2) Q := by
        intro c V2 T2 z hz o3 g2 m2
        have ha := yAdv_p hb hw1 (by omega)
        obtain ⟨q1, q2, q3, q4, q5⟩ := hp _ ha.1
        rw [if_pos (by simp only [Bool.or_eq_true, beq_iff_eq]; omega)] at K
        apply b152_44 hF
        refine hk V2 T2 _ _ g2 ha.1 (yEnv hen (yFm_tr hm1 m2)) ?_
        intro V3 T3 g3 m3
        have nxt : ∀ o o3 : Option Value, E x F (d + 5) 152 5 [some (.ref 59), some (.int (yTwo (if r.1.1 = 43 then 12 else 13) (r.2.2 e) ((p (yAdv b n r.1)).2.2 e))), o, o3] [] (V3, T3) Q := fun o o3 => ih V3 T3 ((p (yAdv b n r.1)).1, r.2.1 ++ (p (yAdv b n r.1)).2.1 ++ [if r.1.1 = 43 then 12 else 13], fun e => yTwo (if r.1.1 = 43 then 12 else 13) (r.2.2 e) ((p (yAdv b n r.1)).2.2 e)) o o3 (by dsimp only; omega) g3 q1 (yFm_tr hm1 (yFm_tr m2 m3)) K
        unfold yTwo at nxt
        by_cases c43 : r.1.1 = 43
        · rw [if_pos c43] at hz nxt
          rw [if_neg (by omega), if_neg (by omega), if_neg (by omega), if_neg (by omega), if_pos rfl] at nxt
          subst hz
          apply b152_48 hF
          · intro c2; exact absurd c2 (by decide)
          intro _
          exact b152_53 hF (b152_62 hF (nxt _ _))
        · rw [if_neg c43] at hz nxt
          rw [if_neg (by omega), if_neg (by omega), if_neg (by omega), if_neg (by omega), if_neg (by omega), if_pos rfl] at nxt
          subst hz
          apply b152_48 hF
          · intro _
            exact b152_59 hF (b152_62 hF (nxt _ _))
          · intro c2; exact absurd rfl c2
      have stop : ¬ (r.1.1 = 43 ∨ r.1.1 = 45) → E x F (d + 5) 152 66 [some (.ref 59), some (.int (r.2.2 e)), o, o3] [] (V1, T1) Q := by
        intro c
        rw [if_neg (by simp only [Bool.or_eq_true, beq_iff_eq]; omega)] at K
        exact b152_66 hF (K V1 T1 hg1 hm1)
      have go : ∀ z : Nat, (r.1.1 = 43 ∨ r.1.1 = 45) → z = (if r.1.1 = 43 then 1 else 0) → E x F (d + 5) 152 39 [some (.ref 59), some (.int (r.2.2 e)), o, o3] [.int (Int32.ofInt ((z:Int)))] (V1, T1) Q := by
        intro z c hz
        apply b152_39 hF
        apply s142g hF hg1 hw1 (by omega)
        intro V2 T2 g2 m2
        exact more c V2 T2 z hz o3 g2 m2
      apply b152_5 hF
      refine s155 hF (c := 43) (by omega) hg1 hw1 ?_ ?_
      · intro c hT
        apply b152_11 hF
        rotate_left
        · intro c2; exact absurd (fun c3 => absurd c3 (by decide)) c2
        intro _
        apply b152_23 hF
        · rw [hT]
          intro c2
          exact absurd (by decide +kernel) c2
        intro _
        apply b152_34 hF
        exact go 1 (Or.inl c) (by rw [if_pos c])
      intro d1
      apply b152_11 hF
      · intro c; exact absurd rfl c
      intro _
      apply b152_14 hF
      refine s155 hF (c := 45) (by omega) hg1 hw1 ?_ ?_
      · intro c hT
        apply b152_20 hF
        · intro c2; exact absurd c2 (by decide)
        intro _
        apply b152_23 hF
        · intro _
          apply b152_38 hF
          exact go 0 (Or.inr c) (by rw [if_neg (by omega)])
        · rw [hT]
          intro c2
          exfalso
          exact c2 (by decide +kernel)
      intro d2
      apply b152_20 hF
      · intro _
        exact stop (by omega)
      · intro c; exact absurd rfl c
  exact loop 160 V1 T1 (p g) none none (by omega) g1 p1 m1 k
theorem s150 {x : zXs} {F : zF} (hF : zSh F) {b : Nat → Nat} {n t : Nat} {e : Nat → Int32} (hb : ∀ i, i < n → b i ≤ 255) {D q : Nat} (hq : q ≤ 5) {sub : Option (yP × yP × yP)} (hs : yOkS n sub) (hk : yKt x F b n t e D q sub) {p : yP} (hp : yOkP n p) {dd : Nat} (he1 : 4 ≤ dd) (hk2 : yKr x F b n t e 152 [some (.ref 59), none, none, none] dd q p) (he : sub ≠ none → D + 3 ≤ dd) : yKr x F b n t e 150 [some (.ref 59), none, none, none] (dd + 1) q (yDenF b n sub p) := by
  obtain ⟨d, rfl⟩ : ∃ d, dd = d + 4 := ⟨dd - 4, by omega⟩
  intro V T Q g hg hw hen k
  unfold yDenF at k
  apply b150_0 hF
  refine s144 hF (i := 11) (by omega) hg hw ?_ ?_ rfl
  · intro c1 _
    have c1 : g.1 = 9 := c1
    rw [if_pos c1] at k
    have ha := yAdv_p hb hw (by omega)
    apply b150_15 hF
    · intro c; exact absurd c (by decide)
    intro _
    apply b150_18 hF
    cases sub with
    | none =>
      cases q with
      | succ q => exact absurd hk (by simp [yKt])
      | zero =>
        apply s151 hF (Nat.zero_le _) hg hw (by omega)
        · intro p hp; omega
        · intro _ V2 g2 m2
          apply b150_22 hF
          · intro c; exact absurd rfl c
          · intro _
            exact b150_25 hF (k V2 T g2 m2)
    | some s =>
      cases q with
      | zero => exact absurd hk (by simp [yKt])
      | succ q =>
        have he := he (by simp)
        obtain ⟨k1, k2, k3⟩ := hk
        dsimp only at k
        apply s151 hF hq hg hw (by omega)
        rotate_left
        · intro c; omega
        intro p hp V2 T2 g2 m2
        have hp : p = q := by omega
        subst hp
        apply b150_22 hF
        rotate_left
        · intro c; exact absurd (fun c2 => absurd c2 (by decide)) c
        intro _
        apply b150_27 hF
        refine k2 (d + 4) (by omega) V2 T2 _ _ g2 ha.1 (yEnv hen m2) ?_
        intro V3 T3 g3 m3
        have k := k _ _ (zGr_dec g3) (yFm_zu (yFm_tr m2 m3) (by omega) _)
        unfold yOne at k
        rw [if_neg (by omega)] at k
        apply b150_31 hF
        · intro c
          rw [if_neg c] at k
          exact b150_50 hF (b150_51 hF k)
        · intro c
          rw [if_pos (Decidable.not_not.mp c)] at k
          exact b150_46 hF (b150_51 hF k)
  intro c1
  have c1 : ¬ g.1 = 9 := c1
  rw [if_neg c1] at k
  apply b150_15 hF
  rotate_left
  · intro c; exact absurd rfl c
  intro _
  apply b150_52 hF
  obtain ⟨p1, p2, p3, p4, p5⟩ := hp g hw
  refine hk2 V T _ g hg hw hen ?_
  intro V1 T1 g1 m1
  have go : ∀ z : Nat, ((p g).1.1 = 60 ∨ (p g).1.1 = 61) → z = (if (p g).1.1 = 60 then 1 else 0) → E x F (d + 5) 150 93 [some (.ref 59), some (.int ((p g).2.2 e)), none, none] [.int (Int32.ofInt ((z:Int)))] (V1, T1) Q := by
    intro z c hz
    rw [if_pos c] at k
    have ha := yAdv_p hb p1 (by omega)
    apply b150_93 hF
    apply s142g hF g1 p1 (by omega)
    intro V2 T2 g2 m2
    apply b150_98 hF
    refine hk2 V2 T2 _ _ g2 ha.1 (yEnv hen (yFm_tr m1 m2)) ?_
    intro V3 T3 g3 m3
    have k := k V3 T3 g3 (yFm_tr m1 (yFm_tr m2 m3))
    dsimp only at k
    unfold yTwo at k
    by_cases c60 : (p g).1.1 = 60
    · rw [if_pos c60] at hz
      rw [if_pos c60, if_neg (by omega), if_neg (by omega), if_pos rfl] at k
      subst hz
      apply b150_102 hF
      · intro c2; exact absurd c2 (by decide)
      intro _
      apply b150_107 hF
      · intro c2
        rw [if_neg (fun c3 => absurd (Int32.lt_of_lt_of_le c3 c2) Int32.lt_irrefl)] at k
        exact b150_124 hF (b150_125 hF k)
      · intro c2
        rw [if_pos (Int32.not_le.mp c2)] at k
        exact b150_112 hF (b150_120 hF (b150_125 hF k))
    · rw [if_neg c60] at hz
      rw [if_neg c60, if_neg (by omega), if_neg (by omega), if_neg (by omega), if_pos rfl] at k
      subst hz
      apply b150_102 hF
      · intro _
        apply b150_115 hF
        · intro c2
          rw [if_neg c2] at k
          exact b150_124 hF (b150_125 hF k)
        · intro c2
          rw [if_pos (Decidable.not_not.mp c2)] at k
          exact b150_120 hF (b150_125 hF k)
      · intro c2; exact absurd rfl c2
  apply b150_56 hF
  refine s155 hF (c := 60) (by omega) g1 p1 ?_ ?_
  · intro c hT
    apply b150_63 hF
    rotate_left
    · intro c2; exact absurd (fun c3 => absurd c3 (by decide)) c2
    intro _
    apply b150_77 hF
    · rw [hT]
      intro c2
      exact absurd (by decide +kernel) c2
    intro _
    apply b150_88 hF
    exact go 1 (Or.inl c) (by rw [if_pos c])
  intro d1
  apply b150_63 hF
  · intro c; exact absurd rfl c
  intro _
  apply b150_66 hF
  refine s155 hF (c := 61) (by omega) g1 p1 ?_ ?_
  · intro c hT
    apply b150_72 hF
    rotate_left
    · intro c2; exact absurd (fun c3 => absurd c3 (by decide)) c2
    intro _
    apply b150_77 hF
    · intro _
      apply b150_92 hF
      exact go 0 (Or.inr c) (by rw [if_neg (by omega)])
    · rw [hT]
      intro c2
      exfalso
      exact c2 (by decide +kernel)
  intro d2
  apply b150_72 hF
  · intro c; exact absurd rfl c
  intro _
  rw [if_neg (by omega)] at k
  exact b150_75 hF (k V1 T1 g1 m1)
/-- the reference reads as the levels do -/
theorem sRv {x : zXs} {F : zF} (hF : zSh F) {b : Nat → Nat} {n t : Nat} {e : Nat → Int32} (hn : n ≤ 160) (hb : ∀ i, i < n → b i ≤ 255) : ∀ q, q ≤ 5 → (∀ d, 4 + 6 * q ≤ d → yKr x F b n t e 154 [some (.ref 59), none] d q (yLv b n q).1) ∧ (∀ d, 7 + 6 * q ≤ d → yKr x F b n t e 150 [some (.ref 59), none, none, none] d q (yLv b n q).2.1) ∧ (∀ d, 9 + 6 * q ≤ d → yKr x F b n t e 148 [some (.ref 59), none, none] d q (yLv b n q).2.2) := by
  have mk : ∀ q sub D, q ≤ 5 → yOkS n sub → yKt x F b n t e D q sub → (sub ≠ none → D + 6 ≤ 4 + 6 * q) → (∀ d, 4 + 6 * q ≤ d → yKr x F b n t e 154 [some (.ref 59), none] d q (yMk b n sub).1) ∧ (∀ d, 7 + 6 * q ≤ d → yKr x F b n t e 150 [some (.ref 59), none, none, none] d q (yMk b n sub).2.1) ∧ (∀ d, 9 + 6 * q ≤ d → yKr x F b n t e 148 [some (.ref 59), none, none] d q (yMk b n sub).2.2) := by
    intro q sub D hq hs hk hD
    have o1 := yOneF_ok hb hs
    have o2 := yTermF_ok hb o1
    have o3 := ySumF_ok hb o2
    have o4 := yDenF_ok hb hs o3
    have o5 := yBothF_ok hb o4
    have k1 : ∀ d, 4 + 6 * q ≤ d → yKr x F b n t e 154 [some (.ref 59), none] d q (yOneF b n sub) := fun d he => s154 hF hb hq hs hk (by omega) (fun c => by have := hD c; omega)
    have k2 : ∀ d, 5 + 6 * q ≤ d → yKr x F b n t e 153 [some (.ref 59), none] d q (yTermF b n (yOneF b n sub)) := fun d he => by
      obtain ⟨d, rfl⟩ : ∃ d1, d = d1 + 1 := ⟨d - 1, by omega⟩
      exact s153 hF hn hb o1 (by omega) (k1 d (by omega))
    have k3 : ∀ d, 6 + 6 * q ≤ d → yKr x F b n t e 152 [some (.ref 59), none, none, none] d q (ySumF b n (yTermF b n (yOneF b n sub))) := fun d he => by
      obtain ⟨d, rfl⟩ : ∃ d1, d = d1 + 1 := ⟨d - 1, by omega⟩
      exact s152 hF hn hb o2 (by omega) (k2 d (by omega))
    have k4 : ∀ d, 7 + 6 * q ≤ d → yKr x F b n t e 150 [some (.ref 59), none, none, none] d q (yDenF b n sub (ySumF b n (yTermF b n (yOneF b n sub)))) := fun d he => by
      obtain ⟨d, rfl⟩ : ∃ d1, d = d1 + 1 := ⟨d - 1, by omega⟩
      exact s150 hF hb hq hs hk o3 (by omega) (k3 d (by omega)) (fun c => by have := hD c; omega)
    have k5 : ∀ d, 8 + 6 * q ≤ d → yKr x F b n t e 149 [some (.ref 59), none, none] d q (yBothF b n (yDenF b n sub (ySumF b n (yTermF b n (yOneF b n sub))))) := fun d he => by
      obtain ⟨d, rfl⟩ : ∃ d1, d = d1 + 1 := ⟨d - 1, by omega⟩
      exact s149 hF hn hb o4 (by omega) (k4 d (by omega))
    have k6 : ∀ d, 9 + 6 * q ≤ d → yKr x F b n t e 148 [some (.ref 59), none, none] d q (yEithF b n (yBothF b n (yDenF b n sub (ySumF b n (yTermF b n (yOneF b n sub)))))) := fun d he => by
      obtain ⟨d, rfl⟩ : ∃ d1, d = d1 + 1 := ⟨d - 1, by omega⟩
      exact s148 hF hn hb o5 (by omega) (k5 d (by omega))
    exact ⟨k1, k4, k6⟩
  intro q
  induction q with
  | zero => intro hq; exact mk 0 none 0 hq trivial trivial (fun c => absurd rfl c)
  | succ q ih =>
    intro hq
    obtain ⟨i1, i2, i3⟩ := ih (by omega)
    exact mk (q + 1) (some (yLv b n q)) (4 + 6 * q) hq (yLv_ok hb q) ⟨fun d he => i1 d (by omega), fun d he => i2 d (by omega), fun d he => i3 d (by omega)⟩ (fun _ => by omega)
