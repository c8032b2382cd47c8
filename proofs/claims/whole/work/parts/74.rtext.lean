/-! A text read by the reference -/
theorem yLp_no {b : Nat → Nat} {n : Nat} {op : Nat → Bool} {code : Nat → Nat} {p : yP} {r : yL × List Nat × yS} (h : op r.1.1 = false) : ∀ m, yLp b n op code p m r = r := by
  intro m
  cases m with
  | zero => rfl
  | succ m => rw [yLp, if_neg (by rw [h]; decide)]
theorem yMk_wr {b : Nat → Nat} {n : Nat} {sub : Option (yP × yP × yP)} {g : yL} (h : g.1 = 1) : (yMk b n sub).2.2 g = (yFail g, [], fun _ => Int32.ofInt 0) := by
  have hf : (yFail g).1 = 1 := rfl
  have h1 : yOneF b n sub g = (yFail g, [], fun _ => Int32.ofInt 0) := by
    unfold yOneF
    rw [if_neg (by omega), if_neg (by omega), if_neg (by omega), if_neg (by omega)]
  have h2 : yTermF b n (yOneF b n sub) g = (yFail g, [], fun _ => Int32.ofInt 0) := by
    unfold yTermF
    rw [h1]
    exact yLp_no (by dsimp only; rw [hf]; rfl) 160
  have h3 : ySumF b n (yTermF b n (yOneF b n sub)) g = (yFail g, [], fun _ => Int32.ofInt 0) := by
    unfold ySumF
    rw [h2]
    exact yLp_no (by dsimp only; rw [hf]; rfl) 160
  have h4 : yDenF b n sub (ySumF b n (yTermF b n (yOneF b n sub))) g = (yFail g, [], fun _ => Int32.ofInt 0) := by
    unfold yDenF
    rw [if_neg (by omega), h3, if_neg (by dsimp only; omega)]
  have h5 : yBothF b n (yDenF b n sub (ySumF b n (yTermF b n (yOneF b n sub)))) g = (yFail g, [], fun _ => Int32.ofInt 0) := by
    unfold yBothF
    rw [h4]
    exact yLp_no (by dsimp only; rw [hf]; rfl) 160
  show yEithF b n (yBothF b n (yDenF b n sub (ySumF b n (yTermF b n (yOneF b n sub))))) g = _
  unfold yEithF
  rw [h5]
  exact yLp_no (by dsimp only; rw [hf]; rfl) 160
theorem yLv_wr {b : Nat → Nat} {n : Nat} {g : yL} (h : g.1 = 1) (q : Nat) : (yLv b n q).2.2 g = (yFail g, [], fun _ => Int32.ofInt 0) := by
  cases q with
  | zero => rw [yLv]; exact yMk_wr h
  | succ q => rw [yLv]; exact yMk_wr h
theorem zGr_ff {V : Nat → Nat → Int32} {T : Nat → Nat → Int64} {b : Nat → Nat} {n t q : Nat} {g : yL} (h : zGr V T b n t q g) (hf : g.2.2.2.2 ≠ 0) : zGr V T b n t q (yFail g) := by
  obtain ⟨h1, h2, h3⟩ := h
  have e : (yFail g).2.2.2.2 = g.2.2.2.2 := by
    unfold yFail
    exact if_neg hf
  exact ⟨h1, fun c => absurd (e.symm.trans c) hf, fun c => by rw [e]; exact h3 hf⟩
/-- the part's end -/
theorem s146e {x : zXs} {F : zF} (hF : zSh F) {d : Nat} {V : Nat → Nat → Int32} {T : Nat → Nat → Int64} {Q : Option Value → zG → Prop} {b : Nat → Nat} {n t : Nat} {g : yL} (hg : zGr V T b n t 5 g) (hw : yGw n g) {v : Int32} {o1 o2 : Option Value} (k : ∀ V2 T2, zGr V2 T2 b n t 5 (yExp b n 59 g) → yFm V V2 → Q (some (.int v)) (V2, T2)) : E x F (d + 2) 146 34 [some (.ref 59), o1, o2] [.int v] (V, T) Q := by
  unfold yExp at k
  apply b146_34 hF
  refine s155 hF (c := 59) (by omega) hg hw ?_ ?_
  · intro c _
    rw [if_pos c] at k
    have hf : g.2.2.2.2 = 0 := by
      apply Decidable.byContradiction
      intro c2
      have := hw.2.2.2.2.2.2.1 c2
      omega
    apply b146_41 hF
    rotate_left
    · intro c2; exact absurd (fun c3 => absurd c3 (by decide)) c2
    intro _
    apply b146_48 hF
    · intro c2; exact absurd ((zGr_b hg).mpr hf) c2
    intro _
    apply b146_55 hF
    apply s142g hF hg hw (by omega)
    intro V2 T2 g2 m2
    exact b146_59 hF (k V2 T2 g2 m2)
  · intro c
    rw [if_neg c] at k
    apply b146_41 hF
    · intro c2; exact absurd rfl c2
    intro _
    apply b146_44 hF
    apply s147 hF hg
    intro V2 g2 m2
    apply b146_48 hF
    · intro _
      exact b146_59 hF (k V2 T g2 m2)
    · intro c2
      exact absurd ((zGr_b g2).mp (Decidable.not_not.mp c2)) (yFail_p hw).2.2
theorem s146 {x : zXs} {F : zF} (hF : zSh F) {d : Nat} {V : Nat → Nat → Int32} {T : Nat → Nat → Int64} {Q : Option Value → zG → Prop} {b : Nat → Nat} {n t p : Nat} {e : Nat → Int32} {g : yL} (hg : zGr V T b n t 5 g) (hw : yGw n g) (hen : ∀ i, i < 6 → V 59 (13 + i) = e i) {z : Nat} (hz : z = (if g.1 = 4 + p then 1 else 0)) {o2 : Option Value} (k : ∀ V2 T2, zGr V2 T2 b n t 5 (yPt b n p g).1 → yFm V V2 → Q (some (.int ((yPt b n p g).2.2 e))) (V2, T2)) : E x F (d + 40) 146 0 [some (.ref 59), some (.int (Int32.ofInt ((z:Int)))), o2] [] (V, T) Q := by
  have hn := hg.1.2.2.2.1
  have hb : ∀ i, i < n → b i ≤ 255 := fun i hi => (hg.1.2.2.2.2 i hi).2
  have k : ∀ V2 T2, zGr V2 T2 b n t 5 (yExp b n 59 ((yLv b n 5).2.2 (yExp b n (4 + p) g)).1) → yFm V V2 → Q (some (.int (((yLv b n 5).2.2 (yExp b n (4 + p) g)).2.2 e))) (V2, T2) := k
  have a := yExp_p hb hw (due := 4 + p) (by omega)
  have okl := (yLv_ok hb 5).2.2 _ a.1
  have run := (sRv (x := x) hF (t := t) (e := e) hn hb 5 (by omega)).2.2 (d + 39) (by omega)
  have wr := @yLv_wr b n
  generalize hP : (yLv b n 5).2.2 = P at *
  have wr : ∀ g : yL, g.1 = 1 → P g = (yFail g, [], fun _ => Int32.ofInt 0) := fun g hg => by rw [← hP]; exact wr hg 5
  clear hP
  unfold yExp at k a okl
  by_cases c : g.1 = 4 + p
  · rw [if_pos c] at hz k a okl
    have hf : g.2.2.2.2 = 0 := by
      apply Decidable.byContradiction
      intro c2
      have := hw.2.2.2.2.2.2.1 c2
      omega
    subst hz
    apply b146_0 hF
    rotate_left
    · intro c2; exact absurd (fun c3 => absurd c3 (by decide)) c2
    intro _
    apply b146_8 hF
    · intro c2; exact absurd ((zGr_b hg).mpr hf) c2
    intro _
    apply b146_15 hF
    apply s142g hF hg hw (by omega)
    intro V1 T1 g1 m1
    have hf1 := (yAdv_p hb hw (by omega)).2.2.1
    apply b146_19 hF
    rotate_left
    · intro c2; exact absurd ((zGr_b g1).mpr hf1) c2
    intro _
    apply b146_30 hF
    refine run V1 T1 _ _ g1 a.1 (yEnv hen m1) ?_
    intro V2 T2 g2 m2
    apply s146e hF g2 okl.1
    intro V3 T3 g3 m3
    exact k V3 T3 g3 (yFm_tr m1 (yFm_tr m2 m3))
  · rw [if_neg c] at hz k a okl
    subst hz
    apply b146_0 hF
    · intro c2; exact absurd rfl c2
    intro _
    apply b146_4 hF
    apply s147 hF hg
    intro V1 g1 m1
    have hf1 := (yFail_p hw).2.2
    rw [wr (yFail g) rfl] at k okl
    apply b146_8 hF
    rotate_left
    · intro c2; exact absurd ((zGr_b g1).mp (Decidable.not_not.mp c2)) hf1
    intro _
    apply b146_19 hF
    · intro c2; exact absurd ((zGr_b g1).mp c2) hf1
    intro _
    apply b146_26 hF
    apply s146e hF (zGr_ff g1 hf1) okl.1
    intro V3 T3 g3 m3
    exact k V3 T3 g3 (yFm_tr m1 m3)
theorem yPt_wr {b : Nat → Nat} {n p : Nat} {g : yL} (h : g.2.2.2.2 ≠ 0) (hw : g.1 = 1) : (yPt b n p g).1.2.2.2.2 = g.2.2.2.2 ∧ (yPt b n p g).1.1 = 1 := by
  have e : ∀ g : yL, g.2.2.2.2 ≠ 0 → (yFail g).2.2.2.2 = g.2.2.2.2 := fun g hf => by
    unfold yFail
    exact if_neg hf
  unfold yPt
  have h1 : yExp b n (4 + p) g = yFail g := by
    unfold yExp
    rw [if_neg (by omega)]
  rw [h1, yLv_wr (g := yFail g) rfl 5]
  have h2 : yExp b n 59 (yFail (yFail g)) = yFail (yFail (yFail g)) := by
    unfold yExp
    rw [if_neg (by unfold yFail; dsimp only; omega)]
  show (yExp b n 59 (yFail (yFail g))).2.2.2.2 = _ ∧ (yExp b n 59 (yFail (yFail g))).1 = 1
  rw [h2]
  have e1 := e g h
  have e2 := e (yFail g) (by rw [e1]; exact h)
  have e3 := e (yFail (yFail g)) (by rw [e2, e1]; exact h)
  exact ⟨by rw [e3, e2, e1], rfl⟩
theorem zGr_0 {V : Nat → Nat → Int32} {T : Nat → Nat → Int64} {b : Nat → Nat} {n t q : Nat} {g : yL} (h : zGr V T b n t q g) (hf : g.2.2.2.2 = 0) : V 59 22 = 0 ↔ g.1 = 0 := by
  have hw := (yWf_in b g.2.2.1 g.2.2.2.1 12 (by omega)).2.1
  rcases (h.2.1 hf).2.2.2 with q | q | q | q | q
  · exact ⟨fun _ => q.2.1, fun _ => q.1.trans rfl⟩
  · exact ⟨fun c => by rw [q.1] at c; exact absurd c (by decide), fun c => by omega⟩
  · exact ⟨fun c => by rw [q.1] at c; exact absurd c (by decide), fun c => by omega⟩
  · exact ⟨fun c => by rw [q.1] at c; exact absurd c (by decide), fun c => by omega⟩
  · exact ⟨fun c => by rw [q.1] at c; exact absurd c (by decide), fun c => by omega⟩
theorem yXf_3 {b : Nat → Nat} {n : Nat} (hb : ∀ i, i < n → b i ≤ 255) (h : (yX3 b n).1.2.2.2.2 ≠ 0) : yXf b n = (yX3 b n).1.2.2.2.2 := by
  have w := (yX3_ok hb).1
  unfold yXf yXE
  generalize yX3 b n = X at *
  have := w.2.2.2.2.2.2.1 h
  unfold yExp
  rw [if_neg (by omega)]
  unfold yFail
  exact if_neg h
theorem yXf_2 {b : Nat → Nat} {n : Nat} (hb : ∀ i, i < n → b i ≤ 255) (h : (yX2 b n).1.2.2.2.2 ≠ 0) : yXf b n = (yX2 b n).1.2.2.2.2 := by
  have w := (yX2_ok hb).1
  have a := yPt_wr (b := b) (n := n) (p := 2) h (w.2.2.2.2.2.2.1 h)
  have hX3 : yPt b n 2 (yX2 b n).1 = yX3 b n := by unfold yX3; rfl
  rw [hX3] at a
  rw [yXf_3 hb (by rw [a.1]; exact h), a.1]
theorem yXf_1 {b : Nat → Nat} {n : Nat} (hb : ∀ i, i < n → b i ≤ 255) (h : (yX1 b n).1.2.2.2.2 ≠ 0) : yXf b n = (yX1 b n).1.2.2.2.2 := by
  have w := (yX1_ok hb).1
  have a := yPt_wr (b := b) (n := n) (p := 1) h (w.2.2.2.2.2.2.1 h)
  have hX2 : yPt b n 1 (yX1 b n).1 = yX2 b n := by unfold yX2; rfl
  rw [hX2] at a
  rw [yXf_2 hb (by rw [a.1]; exact h), a.1]
theorem s144z {x : zXs} {F : zF} (hF : zSh F) {d : Nat} {V : Nat → Nat → Int32} {T : Nat → Nat → Int64} {Q : Option Value → zG → Prop} {b : Nat → Nat} {n t q p : Nat} (hp : p < 3) {g : yL} (hg : zGr V T b n t q g) (hw : yGw n g) (k : ∀ z : Nat, z = (if g.1 = 4 + p then 1 else 0) → Q (some (.int (Int32.ofInt ((z:Int))))) (V, T)) {c0 c1 c2 c3 c4 c5 c6 c7 : Int32} (hc : [c0, c1, c2, c3, c4, c5, c6, c7] = (List.range 8).map (fun k => Int32.ofInt ((yWl (6 + p)).getD k 0 : Int))) : E x F (d + 2) 144 0 [some (.ref 59), some (.int c0), some (.int c1), some (.int c2), some (.int c3), some (.int c4), some (.int c5), some (.int c6), some (.int c7)] [] (V, T) Q := by
  have e : yIsW (6 + p) g ↔ g.1 = 4 + p := by
    unfold yIsW
    rw [if_neg (by omega)]
    omega
  refine s144 hF (i := 6 + p) (by omega) hg hw (fun c _ => ?_) (fun c => ?_) hc
  · exact k 1 (if_pos (e.mp c)).symm
  · exact k 0 (if_neg (fun c2 => c (e.mpr c2))).symm
theorem s141 {x : zXs} {F : zF} (hF : zSh F) {d : Nat} {V : Nat → Nat → Int32} {T : Nat → Nat → Int64} {Q : Option Value → zG → Prop} {b : Nat → Nat} {n t p : Nat} (ht : t < 6) (hn : n ≤ 160) (h61 : V 61 t = Int32.ofInt (n : Int)) (h60 : ∀ i, i < n → V 60 (160 * t + i) = Int32.ofInt (b i : Int) ∧ b i ≤ 255) (hp : p < 3) (k : ∀ V2 T2 v, yFm V V2 → (yXf b n = 0 → V2 59 26 = Int32.ofInt 0 ∧ v = yXv b n p (fun i => V 59 (13 + i))) → (yXf b n ≠ 0 → V2 59 26 = Int32.ofInt 1 ∧ V2 59 27 = Int32.ofInt ((yXf b n : Int) - 1)) → Q (some (.int v)) (V2, T2)) : E x F (d + 41) 141 0 [some (.ref 59), some (.int (Int32.ofInt ((t:Int)))), some (.int (Int32.ofInt ((p:Int)))), none, none, none] [] (V, T) Q := by
  have hb : ∀ i, i < n → b i ≤ 255 := fun i hi => (h60 i hi).2
  apply b141_0 hF (i1 := t) (zI_nat t) ht
  rw [zI_mul, show (160 : Int) * (t : Int) = ((160 * t : Nat) : Int) by omega, zu_ne (show 61 ≠ 59 by omega), h61]
  have m0 : yFm V (zu (zu (zu (zu (zu V 59 19 (Int32.ofInt ((160 * t : Nat) : Int))) 59 20 (Int32.ofInt (n : Int))) 59 21 (Int32.ofInt 0)) 59 25 (Int32.ofInt 0)) 59 26 (Int32.ofInt 0)) := yFm_zu (yFm_zu (yFm_zu (yFm_zu (yFm_zu (yFm_rfl V) (by omega) _) (by omega) _) (by omega) _) (by omega) _) (by omega) _
  have h0 : zGt (zu (zu (zu (zu (zu V 59 19 (Int32.ofInt ((160 * t : Nat) : Int))) 59 20 (Int32.ofInt (n : Int))) 59 21 (Int32.ofInt 0)) 59 25 (Int32.ofInt 0)) 59 26 (Int32.ofInt 0)) b n t := by
    refine zGt_zu (zGt_zu (zGt_zu ⟨?_, ?_, ht, hn, ?_⟩ (by omega) _) (by omega) _) (by omega) _
    · rw [zuN_nk (by omega), zuN_at]
    · rw [zuN_at]
    · intro i hi
      rw [zu_ne (by omega), zu_ne (by omega)]; exact h60 i hi
  have h26 : (zu (zu (zu (zu (zu V 59 19 (Int32.ofInt ((160 * t : Nat) : Int))) 59 20 (Int32.ofInt (n : Int))) 59 21 (Int32.ofInt 0)) 59 25 (Int32.ofInt 0)) 59 26 (Int32.ofInt 0)) 59 26 = Int32.ofInt 0 := by rw [zuN_at]
  have h25 : (zu (zu (zu (zu (zu V 59 19 (Int32.ofInt ((160 * t : Nat) : Int))) 59 20 (Int32.ofInt (n : Int))) 59 21 (Int32.ofInt 0)) 59 25 (Int32.ofInt 0)) 59 26 (Int32.ofInt 0)) 59 25 = Int32.ofInt (5 - ((5 : Nat) : Int)) := by rw [zuN_nk (by omega), zuN_at]; rfl
  have h21 : (zu (zu (zu (zu (zu V 59 19 (Int32.ofInt ((160 * t : Nat) : Int))) 59 20 (Int32.ofInt (n : Int))) 59 21 (Int32.ofInt 0)) 59 25 (Int32.ofInt 0)) 59 26 (Int32.ofInt 0)) 59 21 = Int32.ofInt ((0 : Nat) : Int) := by rw [zuN_nk (by omega), zuN_nk (by omega), zuN_at]; rfl
  generalize zu (zu (zu (zu (zu V 59 19 (Int32.ofInt ((160 * t : Nat) : Int))) 59 20 (Int32.ofInt (n : Int))) 59 21 (Int32.ofInt 0)) 59 25 (Int32.ofInt 0)) 59 26 (Int32.ofInt 0) = V0 at *
  have hen0 : ∀ i, i < 6 → V0 59 (13 + i) = (fun i => V 59 (13 + i)) i := fun i hi => m0.2 (13 + i) (by omega)
  generalize (fun i => V 59 (13 + i)) = e at *
  have hX1 : yPt b n 0 (yTok b n 0) = yX1 b n := by unfold yX1; rfl
  have hX2 : yPt b n 1 (yX1 b n).1 = yX2 b n := by unfold yX2; rfl
  have hX3 : yPt b n 2 (yX2 b n).1 = yX3 b n := by unfold yX3; rfl
  have hXf : yXf b n = (yExp b n 0 (yX3 b n).1).2.2.2.2 := by unfold yXf yXE; rfl
  have hXv : ∀ v1 v2 v3 : Int32, v1 = (yX1 b n).2.2 e → v2 = (yX2 b n).2.2 e → v3 = (yX3 b n).2.2 e → (if p = 0 then v1 else if p = 1 then v2 else v3) = yXv b n p e := by
    intro v1 v2 v3 q1 q2 q3
    rw [q1, q2, q3]; rfl
  have w1 := (yTok_w (b := b) (Nat.zero_le n) hb).1
  have f1 := yXf_1 hb
  have f2 := yXf_2 hb
  have f3 := yXf_3 hb
  have q1 := (yX1_ok hb).1
  have q2 := (yX2_ok hb).1
  have q3 := (yX3_ok hb).1
  refine s142 hF (h := 0) ⟨h0, h26, h25, yFm_rfl V0⟩ (Nat.zero_le _) h21 ?_
  generalize hG0 : yTok b n 0 = G0 at *
  generalize hG1 : yX1 b n = X1 at *
  generalize hG2 : yX2 b n = X2 at *
  generalize hG3 : yX3 b n = X3 at *
  have fin : ∀ (V2 : Nat → Nat → Int32) (T2 : Nat → Nat → Int64) (v1 v2 v3 : Int32), yFm V V2 → (yXf b n = 0 → V2 59 26 = Int32.ofInt 0 ∧ v1 = X1.2.2 e ∧ v2 = X2.2.2 e ∧ v3 = X3.2.2 e) → (yXf b n ≠ 0 → V2 59 26 = Int32.ofInt 1 ∧ V2 59 27 = Int32.ofInt ((yXf b n : Int) - 1)) → E x F (d + 41) 141 147 [some (.ref 59), some (.int (Int32.ofInt ((t:Int)))), some (.int (Int32.ofInt ((p:Int)))), some (.int v1), some (.int v2), some (.int v3)] [] (V2, T2) Q := by
    intro V2 T2 v1 v2 v3 hm h1 h2
    have K := k V2 T2 (if p = 0 then v1 else if p = 1 then v2 else v3) hm (fun c => ⟨(h1 c).1, hXv v1 v2 v3 (h1 c).2.1 (h1 c).2.2.1 (h1 c).2.2.2⟩) h2
    apply b141_147 hF
    · intro c
      have c : ¬ Int32.ofInt (p : Int) = Int32.ofInt 0 := c
      simp (disch := omega) only [zI_eq] at c
      rw [if_neg (by omega)] at K
      apply b141_155 hF
      · intro c2
        simp (disch := omega) only [zI_eq] at c2
        rw [if_neg (by omega)] at K
        exact b141_165 hF (b141_167 hF K)
      · intro c2
        simp (disch := omega) only [zI_eq] at c2
        rw [if_pos (by omega)] at K
        exact b141_160 hF (b141_167 hF K)
    · intro c
      have c : ¬ ¬ Int32.ofInt (p : Int) = Int32.ofInt 0 := c
      simp (disch := omega) only [zI_eq] at c
      rw [if_pos (by omega)] at K
      exact b141_151 hF (b141_167 hF K)
  have bad : ∀ (V2 : Nat → Nat → Int32) (T2 : Nat → Nat → Int64) (g : yL) (v1 v2 v3 : Int32), yFm V V2 → zGr V2 T2 b n t 5 g → g.2.2.2.2 ≠ 0 → yXf b n = g.2.2.2.2 → E x F (d + 41) 141 147 [some (.ref 59), some (.int (Int32.ofInt ((t:Int)))), some (.int (Int32.ofInt ((p:Int)))), some (.int v1), some (.int v2), some (.int v3)] [] (V2, T2) Q := by
    intro V2 T2 g v1 v2 v3 hm hg hf he
    refine fin V2 T2 v1 v2 v3 hm (fun c => absurd (he.symm.trans c) hf) (fun _ => ?_)
    rw [he]
    exact hg.2.2 hf
  intro V1 T1 g1 m1
  have m1 := yFm_tr m0 m1
  have hen : ∀ V2, yFm V V2 → ∀ i, i < 6 → V2 59 (13 + i) = e i := fun V2 m i hi => by
    rw [← hen0 i hi, m.2 _ (by omega), m0.2 _ (by omega)]
  apply b141_38 hF
  refine s144z hF (p := 0) (by omega) g1 w1 ?_ rfl
  intro z hz
  apply b141_56 hF
  refine s146 hF (p := 0) g1 w1 (hen V1 m1) hz ?_
  rw [hX1]
  intro V2 T2 g2 m2
  have m2 := yFm_tr m1 m2
  by_cases c1 : X1.1.2.2.2.2 = 0
  rotate_left
  · apply b141_59 hF
    · intro c; exact absurd ((zGr_b g2).mp c) c1
    intro _
    apply b141_67 hF
    apply b141_92 hF
    · intro c; exact absurd ((zGr_b g2).mp c) c1
    intro _
    apply b141_101 hF
    apply b141_127 hF
    · intro _
      exact bad V2 T2 X1.1 _ _ _ m2 g2 c1 (f1 c1)
    · intro c; exact absurd ((zGr_b g2).mp (Decidable.not_not.mp c)) c1
  apply b141_59 hF
  rotate_left
  · intro c; exact absurd ((zGr_b g2).mpr c1) c
  intro _
  apply b141_71 hF
  refine s144z hF (p := 1) (by omega) g2 q1 ?_ rfl
  intro z2 hz2
  apply b141_89 hF
  refine s146 hF (p := 1) g2 q1 (hen V2 m2) hz2 ?_
  rw [hX2]
  intro V3 T3 g3 m3
  have m3 := yFm_tr m2 m3
  by_cases c2 : X2.1.2.2.2.2 = 0
  rotate_left
  · apply b141_92 hF
    · intro c; exact absurd ((zGr_b g3).mp c) c2
    intro _
    apply b141_101 hF
    apply b141_127 hF
    · intro _
      exact bad V3 T3 X2.1 _ _ _ m3 g3 c2 (f2 c2)
    · intro c; exact absurd ((zGr_b g3).mp (Decidable.not_not.mp c)) c2
  apply b141_92 hF
  rotate_left
  · intro c; exact absurd ((zGr_b g3).mpr c2) c
  intro _
  apply b141_105 hF
  refine s144z hF (p := 2) (by omega) g3 q2 ?_ rfl
  intro z3 hz3
  apply b141_124 hF
  refine s146 hF (p := 2) g3 q2 (hen V3 m3) hz3 ?_
  rw [hX3]
  intro V4 T4 g4 m4
  have m4 := yFm_tr m3 m4
  apply b141_127 hF
  · intro c
    have c3 : X3.1.2.2.2.2 ≠ 0 := fun c3 => c ((zGr_b g4).mpr c3)
    exact bad V4 T4 X3.1 _ _ _ m4 g4 c3 (f3 c3)
  intro c
  have c3 := (zGr_b g4).mp (Decidable.not_not.mp c)
  unfold yExp at hXf
  apply b141_136 hF
  · intro c4
    have c5 := (zGr_0 g4 c3).mp c4
    rw [if_pos c5] at hXf
    have hx0 : yXf b n = 0 := by
      rw [hXf]
      unfold yAdv
      rw [if_pos c3]
      exact (yTok_w q3.2.2.2.2.1 hb).2.2
    exact fin V4 T4 _ _ _ m4 (fun _ => ⟨(g4.2.1 c3).1, rfl, rfl, rfl⟩) (fun c6 => absurd hx0 c6)
  · intro c4
    have c5 : ¬ X3.1.1 = 0 := fun c6 => c4 ((zGr_0 g4 c3).mpr c6)
    rw [if_neg c5] at hXf
    apply b141_143 hF
    apply s147 hF g4
    intro V5 g5 m5
    exact bad V5 T4 (yFail X3.1) _ _ _ (yFm_tr m4 m5) g5 (yFail_p q3).2.2 hXf
