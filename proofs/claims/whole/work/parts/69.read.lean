/-! The grammar: the class's methods -/
/-- what the readers of the class leave alone -/
def zFc (V V2 : Nat → Nat → Int32) : Prop := (∀ a, a ≠ 45 → a ≠ 47 → a ≠ 48 → V2 a = V a) ∧ (∀ j, j ≠ 2 → V2 47 j = V 47 j)
theorem zFc_rfl (V : Nat → Nat → Int32) : zFc V V := ⟨fun _ _ _ _ => rfl, fun _ _ => rfl⟩
theorem zFc_tr {V V1 V2 : Nat → Nat → Int32} (h1 : zFc V V1) (h2 : zFc V1 V2) : zFc V V2 := ⟨fun a a1 a2 a3 => (h2.1 a a1 a2 a3).trans (h1.1 a a1 a2 a3), fun j hj => (h2.2 j hj).trans (h1.2 j hj)⟩
theorem zFl_c {V V2 : Nat → Nat → Int32} (h : zFl V V2) : zFc V V2 := ⟨fun a a1 _ _ => h a a1, fun j _ => by rw [h 47 (by omega)]⟩
theorem zDr_l {V V2 : Nat → Nat → Int32} {cs : List Nat} (h : zDr V cs) (hf : zFl V V2) : zDr V2 cs := by
  unfold zDr
  rw [hf 47 (by omega), hf 48 (by omega)]
  exact h
theorem zGc_d {V V2 : Nat → Nat → Int32} {b : Nat → Nat} {n q : Nat} {g : yL} (h : zGc V b n q g) (hf : ∀ a, a ≠ 47 → a ≠ 48 → V2 a = V a) : zGc V2 b n q g := by
  unfold zGc
  rw [hf 45 (by omega) (by omega), hf 46 (by omega) (by omega)]
  exact h
/-- a method of the class reads as a reader does -/
def yKc (x : zXs) (F : zF) (b : Nat → Nat) (n M : Nat) (ls : List (Option Value)) (D q : Nat) (P : yP) : Prop := ∀ (V : Nat → Nat → Int32) (T : Nat → Nat → Int64) (Q : Option Value → zG → Prop) (g : yL) (cs : List Nat), zGc V b n q g → yGw n g → zDr V cs → cs.length ≤ g.2.2.1 → (∀ V2, zGc V2 b n q (P g).1 → zDr V2 (cs ++ (P g).2.1) → zFc V V2 → Q none (V2, T)) → E x F D M 0 ls [] (V, T) Q

def yKs (x : zXs) (F : zF) (b : Nat → Nat) (n D : Nat) : Nat → Option (yP × yP × yP) → Prop
  | 0, none => True
  | q + 1, some s => (∀ e, D ≤ e → yKc x F b n 69 [some (.ref 45)] e q s.1) ∧ (∀ e, D + 3 ≤ e → yKc x F b n 65 [some (.ref 45), none] e q s.2.1) ∧ (∀ e, D + 5 ≤ e → yKc x F b n 63 [some (.ref 45), none] e q s.2.2)
  | _, _ => False
theorem zGc_up {V : Nat → Nat → Int32} {b : Nat → Nat} {n q : Nat} {g : yL} (h : zGc V b n q g) : zGc (zu V 45 7 (V 45 7 - Int32.ofInt 1)) b n (q + 1) g := by
  refine zGc_k h (fun a ha => zu_ne ha) (fun j hj => zuN_nk hj) ?_
  rw [zuN_at, h.2.2.2.2.2.2.2.1, zI_sub]
  congr 1
  omega
theorem zFc_up {V V1 : Nat → Nat → Int32} (h : zFc V V1) (v : Int32) : zFc V (zu V1 45 7 v) := zFc_tr h ⟨fun a a1 _ _ => zu_ne a1, fun j _ => by rw [zu_ne (by omega)]⟩
theorem zDr_up {V : Nat → Nat → Int32} {cs : List Nat} (h : zDr V cs) (v : Int32) : zDr (zu V 45 7 v) cs := zDr_l h (fun a ha => zu_ne ha)
theorem s69 {x : zXs} {F : zF} (hF : zSh F) {b : Nat → Nat} {n : Nat} (hb : ∀ i, i < n → b i ≤ 255) {D q : Nat} (hq : q ≤ 5) {sub : Option (yP × yP × yP)} (hs : yOkS n sub) (hk : yKs x F b n D q sub) {e : Nat} (he1 : 8 ≤ e) (he : sub ≠ none → D + 6 ≤ e) : yKc x F b n 69 [some (.ref 45)] e q (yOneF b n sub) := by
  obtain ⟨d, rfl⟩ : ∃ d, e = d + 8 := ⟨e - 8, by omega⟩
  intro V T Q g cs hg hw hd hl k
  have w1 := hw.1
  have w2 := hw.2.1
  have w3 := hw.2.2.1
  have w5 := hw.2.2.2.2.1
  have w7 := hw.2.2.2.2.2.2.1
  have w8 := hw.2.2.2.2.2.2.2
  have hn := hg.2.1
  have h3 := hg.2.2.2.1
  have h4 := hg.2.2.2.2.1
  unfold yOneF at k
  have room : 2 ≤ g.1 → cs.length < 160 := fun c => by
    have := yAdv_p hb hw c
    have := this.1.2.2.2.1
    omega
  have bad : (∀ V2, zGc V2 b n q (yFail g) → zDr V2 (cs ++ []) → zFc V V2 → Q none (V2, T)) → E x F (d + 8) 69 150 [some (.ref 45)] [] (V, T) Q := by
    intro K
    apply b69_150 hF
    apply s62 hF hg hw
    intro V2 f2 g2
    apply b69_154 hF
    exact K V2 g2 (by rw [List.append_nil]; exact zDr_l hd f2) (zFl_c f2)
  have nosub : sub = none → ∀ pc, (∀ V2, E x F (d + 8) 69 154 [some (.ref 45)] [] (V2, T) Q → E x F (d + 8) 69 (pc + 4) [some (.ref 45)] [.int (Int32.ofInt 0)] (V2, T) Q) → ((∀ V2, zGc V2 b n q (yFail g) → zDr V2 (cs ++ []) → zFc V V2 → Q none (V2, T))) → E x F (d + 7) 66 0 [some (.ref 45)] [] (V, T) (fun r G' => E x F (d + 8) 69 (pc + 4) [some (.ref 45)] (r.toList ++ []) G' Q) := by
    intro hnone pc hpc K
    subst hnone
    have hq0 : q = 0 := by
      cases q with
      | zero => rfl
      | succ q => exact absurd hk (by simp [yKs])
    subst hq0
    apply s66 hF (Nat.zero_le _) hg hw
    · intro p hp; omega
    · intro _ V2 f2 g2
      apply hpc
      apply b69_154 hF
      exact K V2 g2 (by rw [List.append_nil]; exact zDr_l hd f2) (zFl_c f2)
  apply b69_0 hF
  · rw [h3]
    intro c
    simp (disch := omega) only [zI_eq] at c
    have c1 : g.1 = 2 := by omega
    rw [if_pos c1] at k
    have hv := w2 c1
    apply b69_48 hF
    rw [h4 (Or.inl c1), zI_add, show (100 : Int) + (g.2.1 : Int) = ((100 + g.2.1 : Nat) : Int) by omega]
    apply s5 hF hd (room (by omega))
    intro V2 d2 f2 j2
    apply b69_62 hF
    apply s46 hF (zGc_d hg f2) hw
    intro V3 f3 g3
    apply b69_66 hF
    apply b69_154 hF
    exact k V3 g3 (zDr_l d2 f3) (zFc_tr ⟨fun a a1 a2 a3 => f2 a a2 a3, j2⟩ (zFl_c f3))
  · rw [h3]
    intro c
    simp (disch := omega) only [zI_eq] at c
    have c1 : g.1 = 3 := by omega
    rw [if_neg (by omega), if_pos c1] at k
    have hv := w3 c1
    apply b69_69 hF
    rw [h4 (Or.inr c1)]
    apply s5 hF hd (room (by omega))
    intro V2 d2 f2 j2
    apply b69_80 hF
    apply s46 hF (zGc_d hg f2) hw
    intro V3 f3 g3
    apply b69_84 hF
    apply b69_154 hF
    exact k V3 g3 (zDr_l d2 f3) (zFc_tr ⟨fun a a1 a2 a3 => f2 a a2 a3, j2⟩ (zFl_c f3))
  · rw [h3]
    intro c
    simp (disch := omega) only [zI_eq] at c
    have c1 : g.1 = 40 := by omega
    rw [if_neg (by omega), if_neg (by omega), if_neg (by omega), if_pos c1] at k
    have ha := yAdv_p hb hw (by omega)
    apply b69_120 hF
    cases sub with
    | none =>
      refine nosub rfl 120 (fun V2 hE => ?_) k
      apply b69_124 hF
      · intro _; exact hE
      · intro c2; exact absurd rfl c2
    | some s =>
      cases q with
      | zero => exact absurd hk (by simp [yKs])
      | succ q =>
        have he := he (by simp)
        obtain ⟨k1, k2, k3⟩ := hk
        obtain ⟨o1, o2, o3⟩ := hs
        obtain ⟨r1, r2, r3, r4, r5⟩ := o3 _ ha.1
        apply s66 hF hq hg hw
        rotate_left
        · intro c2; omega
        intro p hp V2 f2 g2
        have hp : p = q := by omega
        subst hp
        apply b69_124 hF
        · intro c2; exact absurd c2 (by decide)
        intro _
        apply b69_127 hF
        refine k3 (d + 7) (by omega) V2 T _ _ cs g2 ha.1 (zDr_l hd f2) (by omega) ?_
        intro V3 g3 d3 f3
        apply b69_131 hF
        apply s61 hF (due := 41) (by omega) g3 r1
        intro V4 f4 g4
        apply b69_137 hF
        apply b69_154 hF
        exact k _ (zGc_up g4) (zDr_up (zDr_l d3 f4) _) (zFc_up (zFc_tr (zFl_c f2) (zFc_tr f3 (zFl_c f4))) _)
  · rw [h3]
    intro c
    simp (disch := omega) only [zI_eq] at c
    have c1 : g.1 = 45 := by omega
    rw [if_neg (by omega), if_neg (by omega), if_pos c1] at k
    have ha := yAdv_p hb hw (by omega)
    apply b69_87 hF
    cases sub with
    | none =>
      refine nosub rfl 87 (fun V2 hE => ?_) k
      apply b69_91 hF
      · intro _; exact hE
      · intro c2; exact absurd rfl c2
    | some s =>
      cases q with
      | zero => exact absurd hk (by simp [yKs])
      | succ q =>
        have he := he (by simp)
        obtain ⟨k1, k2, k3⟩ := hk
        obtain ⟨o1, o2, o3⟩ := hs
        obtain ⟨r1, r2, r3, r4, r5⟩ := o1 _ ha.1
        apply s66 hF hq hg hw
        rotate_left
        · intro c2; omega
        intro p hp V2 f2 g2
        have hp : p = q := by omega
        subst hp
        apply b69_91 hF
        · intro c2; exact absurd c2 (by decide)
        intro _
        apply b69_94 hF
        refine k1 (d + 7) (by omega) V2 T _ _ cs g2 ha.1 (zDr_l hd f2) (by omega) ?_
        intro V3 g3 d3 f3
        apply b69_98 hF
        apply s5 hF (c := 6) d3 (by have := r1.2.2.2.1; rw [List.length_append]; omega)
        intro V4 d4 f4 j4
        apply b69_107 hF
        apply b69_154 hF
        rw [List.append_assoc] at d4
        exact k _ (zGc_up (zGc_d g3 f4)) (zDr_up d4 _) (zFc_up (zFc_tr (zFl_c f2) (zFc_tr f3 ⟨fun a a1 a2 a3 => f4 a a2 a3, j4⟩)) _)
  · rw [h3]
    intro c
    simp (disch := omega) only [zI_eq] at c
    rw [if_neg (by omega), if_neg (by omega), if_neg (by omega), if_neg (by omega)] at k
    exact bad k

theorem s68 {x : zXs} {F : zF} (hF : zSh F) {b : Nat → Nat} {n : Nat} (hb : ∀ i, i < n → b i ≤ 255) {q : Nat} {p : yP} (hp : yOkP n p) {e : Nat} (he : 7 ≤ e) (hk : yKc x F b n 69 [some (.ref 45)] e q p) : yKc x F b n 68 [some (.ref 45), none] (e + 1) q (fun g => yLp b n (fun t => t == 42) (fun t => 14) p 160 (p g)) := by
  obtain ⟨d, rfl⟩ : ∃ d, e = d + 7 := ⟨e - 7, by omega⟩
  intro V T Q g cs hg hw hd hl k
  have hn := hg.2.1
  apply b68_0 hF
  obtain ⟨p1, p2, p3, p4, p5⟩ := hp g hw
  refine hk V T _ g cs hg hw hd hl ?_
  intro V1 g1 d1 f1
  apply b68_4 hF
  have loop : ∀ (m i : Nat) (V1 : Nat → Nat → Int32) (P : Int) (r : yL × List Nat × yS) (o : Option Value), P = i → i + m = 160 → zGc V1 b n q r.1 → yGw n r.1 → zDr V1 (cs ++ r.2.1) → r.2.1.length + g.2.2.1 ≤ r.1.2.2.1 → zFc V V1 → (∀ V2, zGc V2 b n q (yLp b n (fun t => t == 42) (fun t => 14) p m r).1 → zDr V2 (cs ++ (yLp b n (fun t => t == 42) (fun t => 14) p m r).2.1) → zFc V V2 → Q none (V2, T)) → E x F (d + 8) 68 6 [some (.ref 45), some (.int (Int32.ofInt (P)))] [] (V1, T) Q := by
    intro m
    induction m with
    | zero =>
      intro i V1 P r o hP hi hg1 hw1 hd1 hl1 hf1 K
      subst hP
      apply b68_6 hF
      · intro _
        exact b68_45 hF (K V1 hg1 hd1 hf1)
      · intro c
        simp (disch := omega) only [zI_le] at c
        exfalso; omega
    | succ m ih =>
      intro i V1 P r o hP hi hg1 hw1 hd1 hl1 hf1 K
      subst hP
      have w1 := hw1.1
      have h3 := hg1.2.2.2.1
      apply b68_6 hF
      · intro c
        simp (disch := omega) only [zI_le] at c
        exfalso; omega
      intro _
      rw [yLp] at K
      have more : (r.1.1 = 42) → ∀ (z : Nat), z = (14) → ∀ V2, zFl V1 V2 → zGc V2 b n q (yAdv b n r.1) → E x F (d + 8) 68 26 [some (.ref 45), some (.int (Int32.ofInt ((i:Int))))] [] (V2, T) Q := by
        intro c z hz V2 f2 g2
        have ha := yAdv_p hb hw1 (by omega)
        obtain ⟨q1, q2, q3, q4, q5⟩ := hp _ ha.1
        rw [if_pos (by simp only [beq_iff_eq]; omega)] at K
        apply b68_26 hF
        refine hk V2 T _ _ (cs ++ r.2.1) g2 ha.1 (zDr_l hd1 f2) (by rw [List.length_append]; omega) ?_
        intro V3 g3 d3 f3
        apply b68_30 hF
        apply s5 hF (c := 14) d3 (by have := q1.2.2.2.1; rw [List.length_append, List.length_append]; omega)
        intro V4 d4 f4 j4
        apply b68_39 hF
        rw [zI_add]
        refine ih (i + 1) V4 _ ((p (yAdv b n r.1)).1, r.2.1 ++ (p (yAdv b n r.1)).2.1 ++ [14], fun e => yTwo (14) (r.2.2 e) ((p (yAdv b n r.1)).2.2 e)) none (by omega) (by omega) (zGc_d g3 f4) q1 (by simp only [List.append_assoc] at d4 ⊢; exact d4) ?_ (zFc_tr hf1 (zFc_tr (zFl_c f2) (zFc_tr f3 ⟨fun a a1 a2 a3 => f4 a a2 a3, j4⟩))) K
        dsimp only
        rw [List.length_append, List.length_append, List.length_singleton]
        omega
      have stop : ¬ (r.1.1 = 42) → E x F (d + 8) 68 45 [some (.ref 45), some (.int (Int32.ofInt ((i:Int))))] [] (V1, T) Q := by
        intro c
        rw [if_neg (by simp only [beq_iff_eq]; omega)] at K
        exact b68_45 hF (K V1 hg1 hd1 hf1)
      apply b68_13 hF
      · rw [h3]
        intro c
        simp (disch := omega) only [zI_eq] at c
        exact stop (by omega)
      rw [h3]
      intro c
      simp (disch := omega) only [zI_eq] at c
      apply b68_22 hF
      apply s46 hF hg1 hw1
      intro V2 f2 g2
      exact more (by omega) _ rfl V2 f2 g2
  exact loop 160 0 V1 0 (p g) none rfl rfl g1 p1 d1 (by omega) f1 k

theorem s64 {x : zXs} {F : zF} (hF : zSh F) {b : Nat → Nat} {n : Nat} (hb : ∀ i, i < n → b i ≤ 255) {q : Nat} {p : yP} (hp : yOkP n p) {e : Nat} (he : 7 ≤ e) (hk : yKc x F b n 65 [some (.ref 45), none] e q p) : yKc x F b n 64 [some (.ref 45), none] (e + 1) q (fun g => yLp b n (fun t => t == 8) (fun t => 9) p 160 (p g)) := by
  obtain ⟨d, rfl⟩ : ∃ d, e = d + 7 := ⟨e - 7, by omega⟩
  intro V T Q g cs hg hw hd hl k
  have hn := hg.2.1
  apply b64_0 hF
  obtain ⟨p1, p2, p3, p4, p5⟩ := hp g hw
  refine hk V T _ g cs hg hw hd hl ?_
  intro V1 g1 d1 f1
  apply b64_4 hF
  have loop : ∀ (m i : Nat) (V1 : Nat → Nat → Int32) (P : Int) (r : yL × List Nat × yS) (o : Option Value), P = i → i + m = 160 → zGc V1 b n q r.1 → yGw n r.1 → zDr V1 (cs ++ r.2.1) → r.2.1.length + g.2.2.1 ≤ r.1.2.2.1 → zFc V V1 → (∀ V2, zGc V2 b n q (yLp b n (fun t => t == 8) (fun t => 9) p m r).1 → zDr V2 (cs ++ (yLp b n (fun t => t == 8) (fun t => 9) p m r).2.1) → zFc V V2 → Q none (V2, T)) → E x F (d + 8) 64 6 [some (.ref 45), some (.int (Int32.ofInt (P)))] [] (V1, T) Q := by
    intro m
    induction m with
    | zero =>
      intro i V1 P r o hP hi hg1 hw1 hd1 hl1 hf1 K
      subst hP
      apply b64_6 hF
      · intro _
        exact b64_45 hF (K V1 hg1 hd1 hf1)
      · intro c
        simp (disch := omega) only [zI_le] at c
        exfalso; omega
    | succ m ih =>
      intro i V1 P r o hP hi hg1 hw1 hd1 hl1 hf1 K
      subst hP
      have w1 := hw1.1
      have h3 := hg1.2.2.2.1
      apply b64_6 hF
      · intro c
        simp (disch := omega) only [zI_le] at c
        exfalso; omega
      intro _
      rw [yLp] at K
      have more : (r.1.1 = 8) → ∀ (z : Nat), z = (9) → ∀ V2, zFl V1 V2 → zGc V2 b n q (yAdv b n r.1) → E x F (d + 8) 64 26 [some (.ref 45), some (.int (Int32.ofInt ((i:Int))))] [] (V2, T) Q := by
        intro c z hz V2 f2 g2
        have ha := yAdv_p hb hw1 (by omega)
        obtain ⟨q1, q2, q3, q4, q5⟩ := hp _ ha.1
        rw [if_pos (by simp only [beq_iff_eq]; omega)] at K
        apply b64_26 hF
        refine hk V2 T _ _ (cs ++ r.2.1) g2 ha.1 (zDr_l hd1 f2) (by rw [List.length_append]; omega) ?_
        intro V3 g3 d3 f3
        apply b64_30 hF
        apply s5 hF (c := 9) d3 (by have := q1.2.2.2.1; rw [List.length_append, List.length_append]; omega)
        intro V4 d4 f4 j4
        apply b64_39 hF
        rw [zI_add]
        refine ih (i + 1) V4 _ ((p (yAdv b n r.1)).1, r.2.1 ++ (p (yAdv b n r.1)).2.1 ++ [9], fun e => yTwo (9) (r.2.2 e) ((p (yAdv b n r.1)).2.2 e)) none (by omega) (by omega) (zGc_d g3 f4) q1 (by simp only [List.append_assoc] at d4 ⊢; exact d4) ?_ (zFc_tr hf1 (zFc_tr (zFl_c f2) (zFc_tr f3 ⟨fun a a1 a2 a3 => f4 a a2 a3, j4⟩))) K
        dsimp only
        rw [List.length_append, List.length_append, List.length_singleton]
        omega
      have stop : ¬ (r.1.1 = 8) → E x F (d + 8) 64 45 [some (.ref 45), some (.int (Int32.ofInt ((i:Int))))] [] (V1, T) Q := by
        intro c
        rw [if_neg (by simp only [beq_iff_eq]; omega)] at K
        exact b64_45 hF (K V1 hg1 hd1 hf1)
      apply b64_13 hF
      · rw [h3]
        intro c
        simp (disch := omega) only [zI_eq] at c
        exact stop (by omega)
      rw [h3]
      intro c
      simp (disch := omega) only [zI_eq] at c
      apply b64_22 hF
      apply s46 hF hg1 hw1
      intro V2 f2 g2
      exact more (by omega) _ rfl V2 f2 g2
  exact loop 160 0 V1 0 (p g) none rfl rfl g1 p1 d1 (by omega) f1 k

theorem s63 {x : zXs} {F : zF} (hF : zSh F) {b : Nat → Nat} {n : Nat} (hb : ∀ i, i < n → b i ≤ 255) {q : Nat} {p : yP} (hp : yOkP n p) {e : Nat} (he : 7 ≤ e) (hk : yKc x F b n 64 [some (.ref 45), none] e q p) : yKc x F b n 63 [some (.ref 45), none] (e + 1) q (fun g => yLp b n (fun t => t == 7) (fun t => 8) p 160 (p g)) := by
  obtain ⟨d, rfl⟩ : ∃ d, e = d + 7 := ⟨e - 7, by omega⟩
  intro V T Q g cs hg hw hd hl k
  have hn := hg.2.1
  apply b63_0 hF
  obtain ⟨p1, p2, p3, p4, p5⟩ := hp g hw
  refine hk V T _ g cs hg hw hd hl ?_
  intro V1 g1 d1 f1
  apply b63_4 hF
  have loop : ∀ (m i : Nat) (V1 : Nat → Nat → Int32) (P : Int) (r : yL × List Nat × yS) (o : Option Value), P = i → i + m = 160 → zGc V1 b n q r.1 → yGw n r.1 → zDr V1 (cs ++ r.2.1) → r.2.1.length + g.2.2.1 ≤ r.1.2.2.1 → zFc V V1 → (∀ V2, zGc V2 b n q (yLp b n (fun t => t == 7) (fun t => 8) p m r).1 → zDr V2 (cs ++ (yLp b n (fun t => t == 7) (fun t => 8) p m r).2.1) → zFc V V2 → Q none (V2, T)) → E x F (d + 8) 63 6 [some (.ref 45), some (.int (Int32.ofInt (P)))] [] (V1, T) Q := by
    intro m
    induction m with
    | zero =>
      intro i V1 P r o hP hi hg1 hw1 hd1 hl1 hf1 K
      subst hP
      apply b63_6 hF
      · intro _
        exact b63_45 hF (K V1 hg1 hd1 hf1)
      · intro c
        simp (disch := omega) only [zI_le] at c
        exfalso; omega
    | succ m ih =>
      intro i V1 P r o hP hi hg1 hw1 hd1 hl1 hf1 K
      subst hP
      have w1 := hw1.1
      have h3 := hg1.2.2.2.1
      apply b63_6 hF
      · intro c
        simp (disch := omega) only [zI_le] at c
        exfalso; omega
      intro _
      rw [yLp] at K
      have more : (r.1.1 = 7) → ∀ (z : Nat), z = (8) → ∀ V2, zFl V1 V2 → zGc V2 b n q (yAdv b n r.1) → E x F (d + 8) 63 26 [some (.ref 45), some (.int (Int32.ofInt ((i:Int))))] [] (V2, T) Q := by
        intro c z hz V2 f2 g2
        have ha := yAdv_p hb hw1 (by omega)
        obtain ⟨q1, q2, q3, q4, q5⟩ := hp _ ha.1
        rw [if_pos (by simp only [beq_iff_eq]; omega)] at K
        apply b63_26 hF
        refine hk V2 T _ _ (cs ++ r.2.1) g2 ha.1 (zDr_l hd1 f2) (by rw [List.length_append]; omega) ?_
        intro V3 g3 d3 f3
        apply b63_30 hF
        apply s5 hF (c := 8) d3 (by have := q1.2.2.2.1; rw [List.length_append, List.length_append]; omega)
        intro V4 d4 f4 j4
        apply b63_39 hF
        rw [zI_add]
        refine ih (i + 1) V4 _ ((p (yAdv b n r.1)).1, r.2.1 ++ (p (yAdv b n r.1)).2.1 ++ [8], fun e => yTwo (8) (r.2.2 e) ((p (yAdv b n r.1)).2.2 e)) none (by omega) (by omega) (zGc_d g3 f4) q1 (by simp only [List.append_assoc] at d4 ⊢; exact d4) ?_ (zFc_tr hf1 (zFc_tr (zFl_c f2) (zFc_tr f3 ⟨fun a a1 a2 a3 => f4 a a2 a3, j4⟩))) K
        dsimp only
        rw [List.length_append, List.length_append, List.length_singleton]
        omega
      have stop : ¬ (r.1.1 = 7) → E x F (d + 8) 63 45 [some (.ref 45), some (.int (Int32.ofInt ((i:Int))))] [] (V1, T) Q := by
        intro c
        rw [if_neg (by simp only [beq_iff_eq]; omega)] at K
        exact b63_45 hF (K V1 hg1 hd1 hf1)
      apply b63_13 hF
      · rw [h3]
        intro c
        simp (disch := omega) only [zI_eq] at c
        exact stop (by omega)
      rw [h3]
      intro c
      simp (disch := omega) only [zI_eq] at c
      apply b63_22 hF
      apply s46 hF hg1 hw1
      intro V2 f2 g2
      exact more (by omega) _ rfl V2 f2 g2
  exact loop 160 0 V1 0 (p g) none rfl rfl g1 p1 d1 (by omega) f1 k

theorem s67 {x : zXs} {F : zF} (hF : zSh F) {b : Nat → Nat} {n : Nat} (hb : ∀ i, i < n → b i ≤ 255) {q : Nat} {p : yP} (hp : yOkP n p) {e : Nat} (he : 7 ≤ e) (hk : yKc x F b n 68 [some (.ref 45), none] e q p) : yKc x F b n 67 [some (.ref 45), none, none] (e + 1) q (fun g => yLp b n (fun t => t == 43 || t == 45) (fun t => if t = 43 then 12 else 13) p 160 (p g)) := by
  obtain ⟨d, rfl⟩ : ∃ d, e = d + 7 := ⟨e - 7, by omega⟩
  intro V T Q g cs hg hw hd hl k
  have hn := hg.2.1
  apply b67_0 hF
  obtain ⟨p1, p2, p3, p4, p5⟩ := hp g hw
  refine hk V T _ g cs hg hw hd hl ?_
  intro V1 g1 d1 f1
  apply b67_4 hF
  have loop : ∀ (m i : Nat) (V1 : Nat → Nat → Int32) (P : Int) (r : yL × List Nat × yS) (o : Option Value), P = i → i + m = 160 → zGc V1 b n q r.1 → yGw n r.1 → zDr V1 (cs ++ r.2.1) → r.2.1.length + g.2.2.1 ≤ r.1.2.2.1 → zFc V V1 → (∀ V2, zGc V2 b n q (yLp b n (fun t => t == 43 || t == 45) (fun t => if t = 43 then 12 else 13) p m r).1 → zDr V2 (cs ++ (yLp b n (fun t => t == 43 || t == 45) (fun t => if t = 43 then 12 else 13) p m r).2.1) → zFc V V2 → Q none (V2, T)) → E x F (d + 8) 67 6 [some (.ref 45), some (.int (Int32.ofInt (P))), o] [] (V1, T) Q := by
    intro m
    induction m with
    | zero =>
      intro i V1 P r o hP hi hg1 hw1 hd1 hl1 hf1 K
      subst hP
      apply b67_6 hF
      · intro _
        exact b67_70 hF (K V1 hg1 hd1 hf1)
      · intro c
        simp (disch := omega) only [zI_le] at c
        exfalso; omega
    | succ m ih =>
      intro i V1 P r o hP hi hg1 hw1 hd1 hl1 hf1 K
      subst hP
      have w1 := hw1.1
      have h3 := hg1.2.2.2.1
      apply b67_6 hF
      · intro c
        simp (disch := omega) only [zI_le] at c
        exfalso; omega
      intro _
      rw [yLp] at K
      have more : (r.1.1 = 43 ∨ r.1.1 = 45) → ∀ (z : Nat), z = (if r.1.1 = 43 then 12 else 13) → ∀ V2, zFl V1 V2 → zGc V2 b n q (yAdv b n r.1) → E x F (d + 8) 67 52 [some (.ref 45), some (.int (Int32.ofInt ((i:Int)))), some (.int (Int32.ofInt ((z:Int))))] [] (V2, T) Q := by
        intro c z hz V2 f2 g2
        have ha := yAdv_p hb hw1 (by omega)
        obtain ⟨q1, q2, q3, q4, q5⟩ := hp _ ha.1
        rw [if_pos (by simp only [Bool.or_eq_true, beq_iff_eq]; omega)] at K
        apply b67_52 hF
        refine hk V2 T _ _ (cs ++ r.2.1) g2 ha.1 (zDr_l hd1 f2) (by rw [List.length_append]; omega) ?_
        intro V3 g3 d3 f3
        apply b67_56 hF
        apply s5 hF (c := z) d3 (by have := q1.2.2.2.1; rw [List.length_append, List.length_append]; omega)
        intro V4 d4 f4 j4
        apply b67_64 hF
        rw [zI_add]
        refine ih (i + 1) V4 _ ((p (yAdv b n r.1)).1, r.2.1 ++ (p (yAdv b n r.1)).2.1 ++ [if r.1.1 = 43 then 12 else 13], fun e => yTwo (if r.1.1 = 43 then 12 else 13) (r.2.2 e) ((p (yAdv b n r.1)).2.2 e)) _ (by omega) (by omega) (zGc_d g3 f4) q1 (by simp only [List.append_assoc] at d4 ⊢; rw [← hz]; exact d4) ?_ (zFc_tr hf1 (zFc_tr (zFl_c f2) (zFc_tr f3 ⟨fun a a1 a2 a3 => f4 a a2 a3, j4⟩))) K
        dsimp only
        rw [List.length_append, List.length_append, List.length_singleton]
        omega
      have stop : ¬ (r.1.1 = 43 ∨ r.1.1 = 45) → E x F (d + 8) 67 70 [some (.ref 45), some (.int (Int32.ofInt ((i:Int)))), o] [] (V1, T) Q := by
        intro c
        rw [if_neg (by simp only [Bool.or_eq_true, beq_iff_eq]; omega)] at K
        exact b67_70 hF (K V1 hg1 hd1 hf1)
      have go : (r.1.1 = 43 ∨ r.1.1 = 45) → ∀ z : Nat, z = (if r.1.1 = 43 then 12 else 13) → E x F (d + 8) 67 47 [some (.ref 45), some (.int (Int32.ofInt ((i:Int)))), o] [.int (Int32.ofInt ((z:Int)))] (V1, T) Q := by
        intro c z hz
        apply b67_47 hF
        apply s46 hF hg1 hw1
        intro V2 f2 g2
        exact more c z hz V2 f2 g2
      have two : (r.1.1 = 43 ∨ r.1.1 = 45) → E x F (d + 8) 67 31 [some (.ref 45), some (.int (Int32.ofInt ((i:Int)))), o] [] (V1, T) Q := by
        intro c
        apply b67_31 hF
        · rw [h3]
          intro c2
          simp (disch := omega) only [zI_eq] at c2
          apply b67_45 hF
          exact go c 13 (by rw [if_neg (by omega)])
        · rw [h3]
          intro c2
          simp (disch := omega) only [zI_eq] at c2
          apply b67_40 hF
          exact go c 12 (by rw [if_pos (by omega)])
      apply b67_13 hF
      · rw [h3]
        intro c
        simp (disch := omega) only [zI_eq] at c
        exact two (by omega)
      rw [h3]
      intro c
      simp (disch := omega) only [zI_eq] at c
      apply b67_22 hF
      · rw [h3]
        intro c2
        simp (disch := omega) only [zI_eq] at c2
        exact stop (by omega)
      · rw [h3]
        intro c2
        simp (disch := omega) only [zI_eq] at c2
        exact two (by omega)
  exact loop 160 0 V1 0 (p g) none rfl rfl g1 p1 d1 (by omega) f1 k

theorem s65 {x : zXs} {F : zF} (hF : zSh F) {b : Nat → Nat} {n : Nat} (hb : ∀ i, i < n → b i ≤ 255) {D q : Nat} (hq : q ≤ 5) {sub : Option (yP × yP × yP)} (hs : yOkS n sub) (hk : yKs x F b n D q sub) {p : yP} (hp : yOkP n p) {e : Nat} (he1 : 7 ≤ e) (hk2 : yKc x F b n 67 [some (.ref 45), none, none] e q p) (he : sub ≠ none → D + 3 ≤ e) : yKc x F b n 65 [some (.ref 45), none] (e + 1) q (yDenF b n sub p) := by
  obtain ⟨d, rfl⟩ : ∃ d, e = d + 7 := ⟨e - 7, by omega⟩
  intro V T Q g cs hg hw hd hl k
  have w1 := hw.1
  have hn := hg.2.1
  have h3 := hg.2.2.2.1
  unfold yDenF at k
  apply b65_0 hF
  rotate_left
  · rw [h3]
    intro c
    simp (disch := omega) only [zI_eq] at c
    have c1 : g.1 = 9 := by omega
    rw [if_pos c1] at k
    have ha := yAdv_p hb hw (by omega)
    apply b65_9 hF
    cases sub with
    | none =>
      cases q with
      | succ q => exact absurd hk (by simp [yKs])
      | zero =>
        apply s66 hF (Nat.zero_le _) hg hw
        · intro p hp; omega
        · intro _ V2 f2 g2
          apply b65_13 hF
          · intro _
            apply b65_39 hF
            exact k V2 g2 (by rw [List.append_nil]; exact zDr_l hd f2) (zFl_c f2)
          · intro c2; exact absurd rfl c2
    | some s =>
      cases q with
      | zero => exact absurd hk (by simp [yKs])
      | succ q =>
        have he := he (by simp)
        obtain ⟨k1, k2, k3⟩ := hk
        obtain ⟨o1, o2, o3⟩ := hs
        obtain ⟨r1, r2, r3, r4, r5⟩ := o2 _ ha.1
        apply s66 hF hq hg hw
        rotate_left
        · intro c2; omega
        intro p hp V2 f2 g2
        have hp : p = q := by omega
        subst hp
        apply b65_13 hF
        · intro c2; exact absurd c2 (by decide)
        intro _
        apply b65_16 hF
        refine k2 (d + 7) (by omega) V2 T _ _ cs g2 ha.1 (zDr_l hd f2) (by omega) ?_
        intro V3 g3 d3 f3
        apply b65_20 hF
        apply s5 hF (c := 7) d3 (by have := r1.2.2.2.1; rw [List.length_append]; omega)
        intro V4 d4 f4 j4
        apply b65_29 hF
        apply b65_39 hF
        rw [List.append_assoc] at d4
        exact k _ (zGc_up (zGc_d g3 f4)) (zDr_up d4 _) (zFc_up (zFc_tr (zFl_c f2) (zFc_tr f3 ⟨fun a a1 a2 a3 => f4 a a2 a3, j4⟩)) _)
  rw [h3]
  intro c
  simp (disch := omega) only [zI_eq] at c
  rw [if_neg (by omega)] at k
  apply b65_40 hF
  obtain ⟨p1, p2, p3, p4, p5⟩ := hp g hw
  refine hk2 V T _ g cs hg hw hd hl ?_
  intro V1 g1 d1 f1
  have w11 := p1.1
  have h31 := g1.2.2.2.1
  have go : ((p g).1.1 = 60 ∨ (p g).1.1 = 61) → ∀ z : Nat, z = (if (p g).1.1 = 60 then 10 else 11) → E x F (d + 8) 65 78 [some (.ref 45), none] [.int (Int32.ofInt ((z:Int)))] (V1, T) Q := by
    intro c1 z hz
    rw [if_pos c1] at k
    have ha := yAdv_p hb p1 (by omega)
    obtain ⟨r1, r2, r3, r4, r5⟩ := hp _ ha.1
    apply b65_78 hF
    apply s46 hF g1 p1
    intro V2 f2 g2
    apply b65_83 hF
    refine hk2 V2 T _ _ (cs ++ (p g).2.1) g2 ha.1 (zDr_l d1 f2) (by rw [List.length_append]; omega) ?_
    intro V3 g3 d3 f3
    apply b65_87 hF
    apply s5 hF (c := z) d3 (by have := r1.2.2.2.1; rw [List.length_append, List.length_append]; omega)
    intro V4 d4 f4 j4
    apply b65_95 hF
    refine k V4 (zGc_d g3 f4) ?_ (zFc_tr f1 (zFc_tr (zFl_c f2) (zFc_tr f3 ⟨fun a a1 a2 a3 => f4 a a2 a3, j4⟩)))
    simp only [List.append_assoc] at d4 ⊢
    rw [← hz]
    exact d4
  have two : ((p g).1.1 = 60 ∨ (p g).1.1 = 61) → E x F (d + 8) 65 62 [some (.ref 45), none] [] (V1, T) Q := by
    intro c1
    apply b65_62 hF
    · rw [h31]
      intro c2
      simp (disch := omega) only [zI_eq] at c2
      apply b65_76 hF
      exact go c1 11 (by rw [if_neg (by omega)])
    · rw [h31]
      intro c2
      simp (disch := omega) only [zI_eq] at c2
      apply b65_71 hF
      exact go c1 10 (by rw [if_pos (by omega)])
  apply b65_44 hF
  · rw [h31]
    intro c1
    simp (disch := omega) only [zI_eq] at c1
    exact two (by omega)
  rw [h31]
  intro c1
  simp (disch := omega) only [zI_eq] at c1
  apply b65_53 hF
  · rw [h31]
    intro c2
    simp (disch := omega) only [zI_eq] at c2
    rw [if_neg (by omega)] at k
    apply b65_95 hF
    exact k V1 g1 d1 f1
  · rw [h31]
    intro c2
    simp (disch := omega) only [zI_eq] at c2
    exact two (by omega)
/-- the class reads as the levels do -/
theorem sLv {x : zXs} {F : zF} (hF : zSh F) {b : Nat → Nat} {n : Nat} (hb : ∀ i, i < n → b i ≤ 255) : ∀ q, q ≤ 5 → (∀ e, 8 + 6 * q ≤ e → yKc x F b n 69 [some (.ref 45)] e q (yLv b n q).1) ∧ (∀ e, 11 + 6 * q ≤ e → yKc x F b n 65 [some (.ref 45), none] e q (yLv b n q).2.1) ∧ (∀ e, 13 + 6 * q ≤ e → yKc x F b n 63 [some (.ref 45), none] e q (yLv b n q).2.2) := by
  have mk : ∀ q sub D, q ≤ 5 → yOkS n sub → yKs x F b n D q sub → (sub ≠ none → D + 6 ≤ 8 + 6 * q) → (∀ e, 8 + 6 * q ≤ e → yKc x F b n 69 [some (.ref 45)] e q (yMk b n sub).1) ∧ (∀ e, 11 + 6 * q ≤ e → yKc x F b n 65 [some (.ref 45), none] e q (yMk b n sub).2.1) ∧ (∀ e, 13 + 6 * q ≤ e → yKc x F b n 63 [some (.ref 45), none] e q (yMk b n sub).2.2) := by
    intro q sub D hq hs hk hD
    have o1 := yOneF_ok hb hs
    have o2 := yTermF_ok hb o1
    have o3 := ySumF_ok hb o2
    have o4 := yDenF_ok hb hs o3
    have o5 := yBothF_ok hb o4
    have k1 : ∀ e, 8 + 6 * q ≤ e → yKc x F b n 69 [some (.ref 45)] e q (yOneF b n sub) := fun e he => s69 hF hb hq hs hk (by omega) (fun c => by have := hD c; omega)
    have k2 : ∀ e, 9 + 6 * q ≤ e → yKc x F b n 68 [some (.ref 45), none] e q (yTermF b n (yOneF b n sub)) := fun e he => by
      obtain ⟨e, rfl⟩ : ∃ e1, e = e1 + 1 := ⟨e - 1, by omega⟩
      exact s68 hF hb o1 (by omega) (k1 e (by omega))
    have k3 : ∀ e, 10 + 6 * q ≤ e → yKc x F b n 67 [some (.ref 45), none, none] e q (ySumF b n (yTermF b n (yOneF b n sub))) := fun e he => by
      obtain ⟨e, rfl⟩ : ∃ e1, e = e1 + 1 := ⟨e - 1, by omega⟩
      exact s67 hF hb o2 (by omega) (k2 e (by omega))
    have k4 : ∀ e, 11 + 6 * q ≤ e → yKc x F b n 65 [some (.ref 45), none] e q (yDenF b n sub (ySumF b n (yTermF b n (yOneF b n sub)))) := fun e he => by
      obtain ⟨e, rfl⟩ : ∃ e1, e = e1 + 1 := ⟨e - 1, by omega⟩
      exact s65 hF hb hq hs hk o3 (by omega) (k3 e (by omega)) (fun c => by have := hD c; omega)
    have k5 : ∀ e, 12 + 6 * q ≤ e → yKc x F b n 64 [some (.ref 45), none] e q (yBothF b n (yDenF b n sub (ySumF b n (yTermF b n (yOneF b n sub))))) := fun e he => by
      obtain ⟨e, rfl⟩ : ∃ e1, e = e1 + 1 := ⟨e - 1, by omega⟩
      exact s64 hF hb o4 (by omega) (k4 e (by omega))
    have k6 : ∀ e, 13 + 6 * q ≤ e → yKc x F b n 63 [some (.ref 45), none] e q (yEithF b n (yBothF b n (yDenF b n sub (ySumF b n (yTermF b n (yOneF b n sub)))))) := fun e he => by
      obtain ⟨e, rfl⟩ : ∃ e1, e = e1 + 1 := ⟨e - 1, by omega⟩
      exact s63 hF hb o5 (by omega) (k5 e (by omega))
    exact ⟨k1, k4, k6⟩
  intro q
  induction q with
  | zero => intro hq; exact mk 0 none 0 hq trivial trivial (fun c => absurd rfl c)
  | succ q ih =>
    intro hq
    obtain ⟨i1, i2, i3⟩ := ih (by omega)
    exact mk (q + 1) (some (yLv b n q)) (8 + 6 * q) hq (yLv_ok hb q) ⟨fun e he => i1 e (by omega), fun e he => i2 e (by omega), fun e he => i3 e (by omega)⟩ (fun _ => by omega)
