/-! A text: the pure side, and the class -/
/-- one part: its word, what it tells, its end -/
def yPt (b : Nat → Nat) (n p : Nat) : yP := fun g => (yExp b n 59 ((yLv b n 5).2.2 (yExp b n (4 + p) g)).1, ((yLv b n 5).2.2 (yExp b n (4 + p) g)).2.1, ((yLv b n 5).2.2 (yExp b n (4 + p) g)).2.2)
def yX1 (b : Nat → Nat) (n : Nat) : yL × List Nat × yS := yPt b n 0 (yTok b n 0)
def yX2 (b : Nat → Nat) (n : Nat) : yL × List Nat × yS := yPt b n 1 (yX1 b n).1
def yX3 (b : Nat → Nat) (n : Nat) : yL × List Nat × yS := yPt b n 2 (yX2 b n).1
def yXE (b : Nat → Nat) (n : Nat) : yL := yExp b n 0 (yX3 b n).1
/-- the fault of a text: none, or its place and one -/
def yXf (b : Nat → Nat) (n : Nat) : Nat := (yXE b n).2.2.2.2
def yXv (b : Nat → Nat) (n p : Nat) (e : Nat → Int32) : Int32 := if p = 0 then (yX1 b n).2.2 e else if p = 1 then (yX2 b n).2.2 e else (yX3 b n).2.2 e
/-- what text answers, how many texts there are then, what they tell -/
def yText (B : Nat → Nat) (n N : Nat) : Int := if N = 6 then -4 else if yXf B n = 0 then (N : Int) else -100 - ((yXf B n : Int) - 1)
def yTextN (B : Nat → Nat) (n N : Nat) : Nat := if N < 6 ∧ yXf B n = 0 then N + 1 else N
def yTextW (B : Nat → Nat) (n N : Nat) (w : Nat → Nat → (Nat → Int32) → Int32) : Nat → Nat → (Nat → Int32) → Int32 := if N < 6 ∧ yXf B n = 0 then (fun t p e => if t = N then yXv B n p e else w t p e) else w
theorem yPt_ok {b : Nat → Nat} {n : Nat} (hb : ∀ i, i < n → b i ≤ 255) {p : Nat} {g : yL} (h : yGw n g) : yGw n (yPt b n p g).1 ∧ (yPt b n p g).2.1.length + g.2.2.1 ≤ (yPt b n p g).1.2.2.1 ∧ (∀ c, c ∈ (yPt b n p g).2.1 → c < 20000) ∧ ((yPt b n p g).1.2.2.2.2 = 0 → yPu (yPt b n p g).2.1 (yPt b n p g).2.2 ∧ g.2.2.2.2 = 0) := by
  have a := yExp_p hb h (due := 4 + p) (by omega)
  obtain ⟨p1, p2, p3, p4, p5⟩ := (yLv_ok hb 5).2.2 _ a.1
  have e := yExp_p hb p1 (due := 59) (by omega)
  refine ⟨e.1, ?_, p3, fun q => ⟨p4 (e.2.2 q).1, ?_⟩⟩
  · have := e.2.1
    unfold yPt
    dsimp only
    omega
  · apply Decidable.byContradiction
    intro c
    have h1 : (yExp b n (4 + p) g).2.2.2.2 ≠ 0 := fun c2 => c (a.2.2 c2).1
    exact p5 h1 (e.2.2 q).1
theorem yE0_p {b : Nat → Nat} {n : Nat} {g : yL} (h : yGw n g) (hf : (yExp b n 0 g).2.2.2.2 = 0) : g.2.2.2.2 = 0 := by
  unfold yExp at hf
  by_cases c : g.1 = 0
  · apply Decidable.byContradiction
    intro c2
    have := h.2.2.2.2.2.2.1 c2
    omega
  · rw [if_neg c] at hf
    exact absurd hf (yFail_p h).2.2
theorem yX1_ok {b : Nat → Nat} {n : Nat} (hb : ∀ i, i < n → b i ≤ 255) : yGw n (yX1 b n).1 ∧ (yX1 b n).2.1.length ≤ (yX1 b n).1.2.2.1 ∧ (∀ c, c ∈ (yX1 b n).2.1 → c < 20000) ∧ ((yX1 b n).1.2.2.2.2 = 0 → yPu (yX1 b n).2.1 (yX1 b n).2.2) := by
  have q := yPt_ok hb (p := 0) (yTok_w (b := b) (Nat.zero_le n) hb).1
  unfold yX1
  obtain ⟨q1, q2, q3, q4⟩ := q
  exact ⟨q1, Nat.le_trans (Nat.le_add_right _ _) q2, q3, fun c => (q4 c).1⟩
theorem yX2_ok {b : Nat → Nat} {n : Nat} (hb : ∀ i, i < n → b i ≤ 255) : yGw n (yX2 b n).1 ∧ (yX2 b n).2.1.length + (yX1 b n).1.2.2.1 ≤ (yX2 b n).1.2.2.1 ∧ (∀ c, c ∈ (yX2 b n).2.1 → c < 20000) ∧ ((yX2 b n).1.2.2.2.2 = 0 → yPu (yX2 b n).2.1 (yX2 b n).2.2 ∧ (yX1 b n).1.2.2.2.2 = 0) := by
  have q := yPt_ok hb (p := 1) (yX1_ok hb).1
  unfold yX2
  exact q
theorem yX3_ok {b : Nat → Nat} {n : Nat} (hb : ∀ i, i < n → b i ≤ 255) : yGw n (yX3 b n).1 ∧ (yX3 b n).2.1.length + (yX2 b n).1.2.2.1 ≤ (yX3 b n).1.2.2.1 ∧ (∀ c, c ∈ (yX3 b n).2.1 → c < 20000) ∧ ((yX3 b n).1.2.2.2.2 = 0 → yPu (yX3 b n).2.1 (yX3 b n).2.2 ∧ (yX2 b n).1.2.2.2.2 = 0) := by
  have q := yPt_ok hb (p := 2) (yX2_ok hb).1
  unfold yX3
  exact q
theorem yXl {b : Nat → Nat} {n : Nat} (hb : ∀ i, i < n → b i ≤ 255) : (yX1 b n).2.1.length + (yX2 b n).2.1.length + (yX3 b n).2.1.length ≤ n := by
  have q1 := (yX1_ok hb).2.1
  have q2 := (yX2_ok hb).2.1
  have q3 := (yX3_ok hb).2.1
  have q4 := (yX3_ok hb).1.2.2.2.1
  omega
theorem yRn_l (e : Nat → Int32) (c : Nat → Nat) : ∀ (l : List Nat) (i : Nat) (q : Nat × (Nat → Int32)), (∀ k, k < l.length → c (i + k) = l.getD k 0) → yRn e c i l.length q = yStl e l q := by
  intro l
  induction l with
  | nil => intro i q _; rfl
  | cons a l ih =>
    intro i q h
    rw [List.length_cons, yRn]
    have h0 := h 0 (by simp)
    rw [Nat.add_zero, List.getD_cons_zero] at h0
    rw [h0]
    have := ih (i + 1) (yStep e a q) (fun k hk => by
      have := h (k + 1) (by simp only [List.length_cons]; omega)
      rw [List.getD_cons_succ] at this
      rw [← this]; congr 1; omega)
    rw [this]
    rfl
/-- one part of a text read by the class -/
theorem s44p {x : zXs} {F : zF} (hF : zSh F) {d : Nat} {V : Nat → Nat → Int32} {T : Nat → Nat → Int64} {Q : Option Value → zG → Prop} {b : Nat → Nat} {n p : Nat} (hp : p < 3) {g : yL} (hg : zGc V b n 5 g) (hw : yGw n g) {cs : List Nat} (hd : zDr V cs) (hl : cs.length ≤ g.2.2.1) (k : ∀ V2, zGc V2 b n 5 (yPt b n p g).1 → zDr V2 (cs ++ (yPt b n p g).2.1) → V2 49 p = Int32.ofInt ((cs ++ (yPt b n p g).2.1).length : Int) → (∀ a, a ≠ 45 → a ≠ 47 → a ≠ 48 → a ≠ 49 → V2 a = V a) → (∀ j, j ≠ 2 → V2 47 j = V 47 j) → (∀ j, j ≠ p → V2 49 j = V 49 j) → E x F (d + 44) 44 28 [some (.ref 45), some (.int (Int32.ofInt (((p + 1 : Nat) : Int))))] [] (V2, T) Q) : E x F (d + 44) 44 28 [some (.ref 45), some (.int (Int32.ofInt ((p:Int))))] [] (V, T) Q := by
  have hb : ∀ i, i < n → b i ≤ 255 := fun i hi => (hg.2.2.1 i hi).2
  apply b44_28 hF
  · intro c
    simp (disch := omega) only [zI_le] at c
    exfalso; omega
  intro _
  apply b44_33 hF
  rw [zI_add, show (4 : Int) + (p : Int) = ((4 + p : Nat) : Int) by omega]
  apply s61 hF (due := 4 + p) (by omega) hg hw
  intro V2 f2 g2
  have a := yExp_p hb hw (due := 4 + p) (by omega)
  obtain ⟨p1, p2, p3, p4, p5⟩ := (yLv_ok hb 5).2.2 _ a.1
  apply b44_40 hF
  refine (sLv hF hb 5 (by omega)).2.2 (d + 43) (by omega) V2 T _ _ cs g2 a.1 (zDr_l hd f2) (by omega) ?_
  intro V3 g3 d3 f3
  apply b44_44 hF
  apply s61 hF (due := 59) (by omega) g3 p1
  intro V4 f4 g4
  apply b44_50 hF
  apply b6_0 hF
  apply s7 hF (by omega) (by omega) (by omega)
  rotate_left
  · intro c; exfalso; omega
  intro _
  apply b6_6 hF
  · intro c; exact absurd c (by decide)
  intro _
  apply b6_9 hF (by unfold zTx; omega) (i1 := p) (zI_nat p) hp
  apply b6_19 hF
  apply b44_58 hF
  rw [zI_add]
  have d4 := zDr_l d3 f4
  have h1 := zFc_tr (zFl_c f2) (zFc_tr f3 (zFl_c f4))
  refine k _ ?_ ?_ ?_ ?_ ?_ ?_
  · unfold zGc
    rw [zu_ne (by omega), zu_ne (by omega)]
    exact g4
  · unfold zDr
    rw [zu_ne (by omega), zu_ne (by omega)]
    exact d4
  · rw [zu_at, if_pos rfl]
    exact d4.1
  · intro a a1 a2 a3 a4
    rw [zu_ne a4]; exact h1.1 a a1 a2 a3
  · intro j hj
    rw [zu_ne (by omega)]; exact h1.2 j hj
  · intro j hj
    rw [zuN_nk hj, h1.1 49 (by omega) (by omega) (by omega)]
/-- what the read leaves alone -/
def zFx (V V2 : Nat → Nat → Int32) : Prop := (∀ a, a ≠ 45 → a ≠ 47 → a ≠ 48 → a ≠ 49 → V2 a = V a) ∧ (∀ j, j ≠ 2 → V2 47 j = V 47 j)
theorem s44 {x : zXs} {F : zF} (hF : zSh F) {d : Nat} {V : Nat → Nat → Int32} {T : Nat → Nat → Int64} {Q : Option Value → zG → Prop} {b : Nat → Nat} {n : Nat} (hT : zTc V b n) (k : ∀ V2, zFx V V2 → V2 45 8 = Int32.ofInt ((yXf b n : Int) - 1) → zDr V2 ((yX1 b n).2.1 ++ (yX2 b n).2.1 ++ (yX3 b n).2.1) → V2 49 0 = Int32.ofInt ((yX1 b n).2.1.length : Int) → V2 49 1 = Int32.ofInt (((yX1 b n).2.1 ++ (yX2 b n).2.1).length : Int) → V2 49 2 = Int32.ofInt (((yX1 b n).2.1 ++ (yX2 b n).2.1 ++ (yX3 b n).2.1).length : Int) → Q (some (.int (V2 45 8))) (V2, T)) {o1 : Option Value} : E x F (d + 44) 44 0 [some (.ref 45), o1] [] (V, T) Q := by
  obtain ⟨h1, hn, hbt⟩ := hT
  have hb : ∀ i, i < n → b i ≤ 255 := fun i hi => (hbt i hi).2
  apply b44_0 hF
  apply b45_0 hF (by unfold zTx; omega)
  apply b44_7 hF
  have hf0 : zFx V (zu (zu (zu (zu V 47 2 (Int32.ofInt 0)) 45 7 (Int32.ofInt 0)) 45 8 (Int32.ofInt (-1))) 45 6 (Int32.ofInt 0)) := by
    refine ⟨fun a a1 a2 a3 a4 => ?_, fun j hj => ?_⟩
    · rw [zu_ne a1, zu_ne a1, zu_ne a1, zu_ne a2]
    · rw [zu_ne (by omega), zu_ne (by omega), zu_ne (by omega), zuN_nk hj]
  have hgb : zGb (zu (zu (zu (zu V 47 2 (Int32.ofInt 0)) 45 7 (Int32.ofInt 0)) 45 8 (Int32.ofInt (-1))) 45 6 (Int32.ofInt 0)) b n 5 := by
    refine ⟨?_, hn, ?_, ?_⟩
    · rw [zuN_nk (by omega), zuN_nk (by omega), zuN_nk (by omega), zu_ne (by omega)]; exact h1
    · intro i hi
      rw [zu_ne (by omega), zu_ne (by omega), zu_ne (by omega), zu_ne (by omega)]; exact hbt i hi
    · rw [zuN_nk (by omega), zuN_nk (by omega), zuN_at]; rfl
  have hdr : zDr (zu (zu (zu (zu V 47 2 (Int32.ofInt 0)) 45 7 (Int32.ofInt 0)) 45 8 (Int32.ofInt (-1))) 45 6 (Int32.ofInt 0)) [] := by
    refine ⟨?_, fun i hi => absurd hi (by simp)⟩
    rw [zu_ne (by omega), zu_ne (by omega), zu_ne (by omega), zu_at, if_pos rfl]; rfl
  have h6 : (zu (zu (zu (zu V 47 2 (Int32.ofInt 0)) 45 7 (Int32.ofInt 0)) 45 8 (Int32.ofInt (-1))) 45 6 (Int32.ofInt 0)) 45 6 = Int32.ofInt ((0 : Nat) : Int) := by rw [zuN_at]; rfl
  have h8 : (zu (zu (zu (zu V 47 2 (Int32.ofInt 0)) 45 7 (Int32.ofInt 0)) 45 8 (Int32.ofInt (-1))) 45 6 (Int32.ofInt 0)) 45 8 = Int32.ofInt (((0 : Nat) : Int) - 1) := by rw [zuN_nk (by omega), zuN_at]; rfl
  generalize zu (zu (zu (zu V 47 2 (Int32.ofInt 0)) 45 7 (Int32.ofInt 0)) 45 8 (Int32.ofInt (-1))) 45 6 (Int32.ofInt 0) = V0 at *
  apply s46w hF (g := (0, 0, 0, 0, 0)) hgb h6 h8 (Nat.zero_le _) (Nat.zero_le _) (fun c => absurd rfl c)
  intro V1 f1 g1
  have hA : yAdv b n (0, 0, 0, 0, 0) = yTok b n 0 := by
    unfold yAdv
    rw [if_pos (show ((0, 0, 0, 0, 0) : yL).2.2.2.2 = 0 from rfl)]
  rw [hA] at g1
  have hX1 : yPt b n 0 (yTok b n 0) = yX1 b n := by unfold yX1; rfl
  have hX2 : yPt b n 1 (yX1 b n).1 = yX2 b n := by unfold yX2; rfl
  have hX3 : yPt b n 2 (yX2 b n).1 = yX3 b n := by unfold yX3; rfl
  have hXE : yExp b n 0 (yX3 b n).1 = yXE b n := by unfold yXE; rfl
  have hXf : (yXE b n).2.2.2.2 = yXf b n := by unfold yXf; rfl
  have w1 := (yTok_w (b := b) (Nat.zero_le n) hb).1
  obtain ⟨q11, q12, _, _⟩ := yX1_ok hb
  obtain ⟨q21, q22, _, _⟩ := yX2_ok hb
  obtain ⟨q31, q32, _, _⟩ := yX3_ok hb
  apply b44_26 hF
  refine s44p hF (p := 0) (by omega) g1 w1 (zDr_l hdr f1) (Nat.zero_le _) ?_
  rw [hX1, List.nil_append]
  generalize yX1 b n = X1 at *
  intro V2 g2 d2 e2 f2 j2 t2
  refine s44p hF (p := 1) (by omega) g2 q11 d2 q12 ?_
  rw [hX2]
  generalize yX2 b n = X2 at *
  intro V3 g3 d3 e3 f3 j3 t3
  refine s44p hF (p := 2) (by omega) g3 q21 d3 (by rw [List.length_append]; omega) ?_
  rw [hX3]
  generalize yX3 b n = X3 at *
  intro V4 g4 d4 e4 f4 j4 t4
  apply b44_28 hF
  rotate_left
  · intro c
    exact absurd c (by decide)
  intro _
  apply b44_64 hF
  apply s61 hF (due := 0) (by omega) g4 q31
  rw [hXE]
  generalize yXE b n = XE at *
  intro V5 f5 g5
  apply b44_69 hF
  have g58 := g5.2.2.2.2.2.2.2.2
  rw [hXf] at g58
  refine k V5 ?_ g58 ?_ ?_ ?_ ?_
  · refine ⟨fun a a1 a2 a3 a4 => ?_, fun j hj => ?_⟩
    · rw [f5 a a1, f4 a a1 a2 a3 a4, f3 a a1 a2 a3 a4, f2 a a1 a2 a3 a4, f1 a a1, hf0.1 a a1 a2 a3 a4]
    · rw [f5 47 (by omega), j4 j hj, j3 j hj, j2 j hj, f1 47 (by omega), hf0.2 j hj]
  · exact zDr_l d4 f5
  · rw [f5 49 (by omega), t4 0 (by omega), t3 0 (by omega)]; exact e2
  · rw [f5 49 (by omega), t4 1 (by omega)]; exact e3
  · rw [f5 49 (by omega)]; exact e4
/-- a text that is new stands behind the others -/
theorem zRu_new {V V2 : Nat → Nat → Int32} {N : Nat} {w : Nat → Nat → (Nat → Int32) → Int32} (hR : zRu V N w) (hN : N < 6) {b : Nat → Nat} {n : Nat} (hn : n ≤ 160) (hb : ∀ i, i < n → b i ≤ 255) (hx : yXf b n = 0) (h3 : V2 20 3 = Int32.ofInt ((N + 1 : Nat) : Int)) (hold : ∀ a, 24 ≤ a → a < 24 + 3 * N → V2 a = V a) (h0 : V2 (24 + 3 * N + 2) 0 = Int32.ofInt ((yX1 b n).2.1.length : Int)) (h1 : V2 (24 + 3 * N + 2) 1 = Int32.ofInt (((yX1 b n).2.1 ++ (yX2 b n).2.1).length : Int)) (h2 : V2 (24 + 3 * N + 2) 2 = Int32.ofInt (((yX1 b n).2.1 ++ (yX2 b n).2.1 ++ (yX3 b n).2.1).length : Int)) (hc : ∀ i, i < ((yX1 b n).2.1 ++ (yX2 b n).2.1 ++ (yX3 b n).2.1).length → V2 (24 + 3 * N + 1) i = Int32.ofInt (((yX1 b n).2.1 ++ (yX2 b n).2.1 ++ (yX3 b n).2.1).getD i 0 : Int)) : zRu V2 (N + 1) (fun t p e => if t = N then yXv b n p e else w t p e) := by
  obtain ⟨r1, r2, r3, r4⟩ := hR
  refine ⟨h3, by omega, by omega, ?_⟩
  intro t ht
  by_cases htn : t = N
  · subst htn
    obtain ⟨p1, p2, p3, p4⟩ := yX1_ok hb
    obtain ⟨q1, q2, q3, q4⟩ := yX2_ok hb
    obtain ⟨s1, s2, s3, s4⟩ := yX3_ok hb
    have lens := yXl hb
    unfold yXf yXE at hx
    have u3 := s4 (yE0_p s1 hx)
    have u2 := q4 u3.2
    have u1 := p4 u2.2
    have u3 := u3.1
    have u2 := u2.1
    have hv0 : ∀ e, yXv b n 0 e = (yX1 b n).2.2 e := fun e => if_pos rfl
    have hv1 : ∀ e, yXv b n 1 e = (yX2 b n).2.2 e := fun e => by unfold yXv; rw [if_neg (by omega), if_pos rfl]
    have hv2 : ∀ e, yXv b n 2 e = (yX3 b n).2.2 e := fun e => by unfold yXv; rw [if_neg (by omega), if_neg (by omega)]
    clear p4 q4 s4 p2 q2 s2 p1 q1 s1 hx
    generalize (yX1 b n).2.1 = l1 at *
    generalize (yX2 b n).2.1 = l2 at *
    generalize (yX3 b n).2.1 = l3 at *
    have len : (l1 ++ l2).length = l1.length + l2.length := List.length_append
    have len3 : (l1 ++ l2 ++ l3).length = l1.length + l2.length + l3.length := by rw [List.length_append, List.length_append]
    refine ⟨fun i => (l1 ++ l2 ++ l3).getD i 0, fun p => if p = 0 then l1.length else if p = 1 then (l1 ++ l2).length else (l1 ++ l2 ++ l3).length, ?_, ?_, ?_, ?_, ?_, ?_⟩
    · intro p hp
      rcases (show p = 0 ∨ p = 1 ∨ p = 2 by omega) with rfl | rfl | rfl
      · exact h0
      · exact h1
      · exact h2
    · show l1.length ≤ (l1 ++ l2).length
      omega
    · show (l1 ++ l2).length ≤ (l1 ++ l2 ++ l3).length
      omega
    · show (l1 ++ l2 ++ l3).length ≤ 160
      omega
    · intro i hi
      have hi : i < (l1 ++ l2 ++ l3).length := hi
      refine ⟨hc i hi, ?_⟩
      have hm : (l1 ++ l2 ++ l3).getD i 0 ∈ (l1 ++ l2 ++ l3) := by
        rw [List.getD_eq_getElem?_getD, List.getElem?_eq_getElem hi, Option.getD_some]
        exact List.getElem_mem hi
      rcases List.mem_append.mp hm with q | q
      · rcases List.mem_append.mp q with q | q
        · exact p3 _ q
        · exact q3 _ q
      · exact s3 _ q
    · intro p hp e f
      show _ = if t = t then yXv b n p e else w t p e
      rw [if_pos (show t = t from rfl)]
      have run : ∀ (l : List Nat) (v : yS) (i m : Nat), m = l.length → l.length ≤ 160 → yPu l v → (∀ k, k < l.length → (l1 ++ l2 ++ l3).getD (i + k) 0 = l.getD k 0) → (yRn e (fun i => (l1 ++ l2 ++ l3).getD i 0) i m (0, f)).2 0 = v e := by
        intro l v i m hm hl hp hg
        rw [hm, yRn_l e _ l i (0, f) hg]
        obtain ⟨s, a1, a2, a3⟩ := hp e 0 f (by omega)
        rw [a1]; exact a2
      rcases (show p = 0 ∨ p = 1 ∨ p = 2 by omega) with rfl | rfl | rfl
      · rw [hv0]
        refine run l1 _ 0 _ ?_ (by omega) u1 ?_
        · show l1.length - 0 = _
          omega
        · intro k hk
          rw [Nat.zero_add, List.getD_eq_getElem?_getD, List.getD_eq_getElem?_getD, List.getElem?_append_left (by omega), List.getElem?_append_left hk]
      · rw [hv1]
        refine run l2 _ _ _ ?_ (by omega) u2 ?_
        · show (l1 ++ l2).length - l1.length = _
          omega
        · intro k hk
          show (l1 ++ l2 ++ l3).getD (l1.length + k) 0 = _
          rw [List.getD_eq_getElem?_getD, List.getD_eq_getElem?_getD, List.getElem?_append_left (by omega), List.getElem?_append_right (by omega), Nat.add_sub_cancel_left]
      · rw [hv2]
        refine run l3 _ _ _ ?_ (by omega) u3 ?_
        · show (l1 ++ l2 ++ l3).length - (l1 ++ l2).length = _
          omega
        · intro k hk
          show (l1 ++ l2 ++ l3).getD ((l1 ++ l2).length + k) 0 = _
          rw [List.getD_eq_getElem?_getD, List.getD_eq_getElem?_getD, List.getElem?_append_right (by omega), Nat.add_sub_cancel_left]
  · obtain ⟨c, en, g1, g2, g3, g4, g5, g6⟩ := r4 t (by omega)
    refine ⟨c, en, ?_, g2, g3, g4, ?_, ?_⟩
    · intro p hp
      rw [hold _ (by omega) (by omega)]; exact g1 p hp
    · intro i hi
      rw [hold _ (by omega) (by omega)]; exact g5 i hi
    · intro p hp e f
      show _ = if t = N then yXv b n p e else w t p e
      rw [if_neg htn]; exact g6 p hp e f
/-- what the class's text leaves alone -/
def zFtx (V V2 : Nat → Nat → Int32) : Prop := (∀ a, a ≠ 20 → a ≠ 45 → a ≠ 47 → a ≠ 48 → a ≠ 49 → (a < 24 ∨ 42 ≤ a) → V2 a = V a) ∧ (∀ j, j ≠ 3 → V2 20 j = V 20 j)
theorem yXf_le {b : Nat → Nat} {n : Nat} (hb : ∀ i, i < n → b i ≤ 255) : yXf b n ≤ n + 1 := by
  have q3 := (yX3_ok hb).1
  unfold yXf yXE
  generalize yX3 b n = X3 at *
  unfold yExp
  by_cases c : X3.1.1 = 0
  · rw [if_pos c]
    unfold yAdv
    by_cases c2 : X3.1.2.2.2.2 = 0
    · rw [if_pos c2, (yTok_w q3.2.2.2.2.1 hb).2.2]; omega
    · rw [if_neg c2]; exact q3.2.2.2.2.2.1
  · rw [if_neg c]
    exact (yFail_p q3).1.2.2.2.2.2.1
theorem s43 {x : zXs} {F : zF} (hF : zSh F) {d : Nat} {V : Nat → Nat → Int32} {T : Nat → Nat → Int64} {Q : Option Value → zG → Prop} {b : Nat → Nat} {n : Nat} (hT : zTc V b n) {N : Nat} {w : Nat → Nat → (Nat → Int32) → Int32} (hR : zRu V N w) (k : ∀ V2, zFtx V V2 → zTc V2 b (if N = 6 then n else 0) → zRu V2 (yTextN b n N) (yTextW b n N w) → Q (some (.int (Int32.ofInt (yText b n N)))) (V2, T)) {o1 : Option Value} : E x F (d + 45) 43 0 [some (.ref 0), o1] [] (V, T) Q := by
  have hb : ∀ i, i < n → b i ≤ 255 := fun i hi => (hT.2.2 i hi).2
  have hn := hT.2.1
  have hR3 := hR.1
  have hR6 := hR.2.2.1
  unfold yTextN yTextW yText at k
  apply b43_0 hF
  rotate_left
  · rw [hR3]
    intro c
    simp (disch := omega) only [zI_lt] at c
    rw [if_pos (by omega), if_neg (by omega), if_neg (by omega), if_pos (by omega)] at k
    exact b43_12 hF (k V ⟨fun _ _ _ _ _ _ _ => rfl, fun _ _ => rfl⟩ hT hR)
  rw [hR3]
  intro c
  simp (disch := omega) only [zI_lt] at c
  have hN : N < 6 := by omega
  rw [if_neg (show ¬ N = 6 by omega), if_neg (show ¬ N = 6 by omega)] at k
  apply b43_15 hF
  apply s44 hF hT
  intro V2 f2 e8 d2 t0 t1 t2
  have xf := yXf_le hb
  rw [e8]
  apply b43_22 hF
  · intro c2
    simp (disch := omega) only [zI_eq] at c2
    have hx : yXf b n ≠ 0 := by omega
    rw [if_neg (by omega), if_neg (by omega), if_neg hx] at k
    apply b43_53 hF
    rw [zI_sub]
    apply b43_57 hF
    refine k _ ⟨fun a a1 a2 a3 a4 a5 a6 => by rw [zu_ne a2]; exact f2.1 a a2 a3 a4 a5, fun j hj => by rw [zu_ne (by omega), f2.1 20 (by omega) (by omega) (by omega) (by omega)]⟩ ⟨?_, Nat.zero_le _, fun i hi => absurd hi (by omega)⟩ (zRu_fr hR ?_)
    · rw [zuN_at]; rfl
    · intro a ha
      rw [zu_ne (by omega), f2.1 a (by omega) (by omega) (by omega) (by omega)]
  · intro c2
    simp (disch := omega) only [zI_eq, Decidable.not_not] at c2
    have hx : yXf b n = 0 := by omega
    rw [if_pos ⟨hN, hx⟩, if_pos ⟨hN, hx⟩, if_pos hx] at k
    have h20 : V2 20 = V 20 := f2.1 20 (by omega) (by omega) (by omega) (by omega)
    apply b43_36 hF
    apply b70_0 hF
    rotate_left
    · rw [zu_ne (by omega), h20, hR3]
      intro c3
      simp (disch := omega) only [zI_lt] at c3
      exfalso; omega
    intro _
    apply b70_12 hF (by unfold zTx; omega) (i1 := N) (by rw [zu_ne (by omega), h20, hR3]; exact zI_nat N) hN
    apply b71_0 hF (by unfold zTx; omega) (by unfold zTx; omega)
    apply b70_25 hF
    apply b43_50 hF
    apply b43_57 hF
    have e20 : (zu (zcpy (zcpy (zu V2 45 1 (Int32.ofInt 0)) (47 + 1) (24 + 3 * N + 1) 0 0 160) (47 + 2) (24 + 3 * N + 2) 0 0 3) (24 + 3 * N) 2 ((zcpy (zcpy (zu V2 45 1 (Int32.ofInt 0)) (47 + 1) (24 + 3 * N + 1) 0 0 160) (47 + 2) (24 + 3 * N + 2) 0 0 3) 47 2)) 20 = V 20 := by
      rw [zu_ne (by omega), zcpy_ne (by omega), zcpy_ne (by omega), zu_ne (by omega), h20]
    have eo : ∀ a, a ≠ 45 → a ≠ 24 + 3 * N → a ≠ 24 + 3 * N + 1 → a ≠ 24 + 3 * N + 2 → (zu (zcpy (zcpy (zu V2 45 1 (Int32.ofInt 0)) (47 + 1) (24 + 3 * N + 1) 0 0 160) (47 + 2) (24 + 3 * N + 2) 0 0 3) (24 + 3 * N) 2 ((zcpy (zcpy (zu V2 45 1 (Int32.ofInt 0)) (47 + 1) (24 + 3 * N + 1) 0 0 160) (47 + 2) (24 + 3 * N + 2) 0 0 3) 47 2)) a = V2 a := by
      intro a a1 a2 a3 a4
      rw [zu_ne a2, zcpy_ne a4, zcpy_ne a3, zu_ne a1]
    have e45 : (zu (zcpy (zcpy (zu V2 45 1 (Int32.ofInt 0)) (47 + 1) (24 + 3 * N + 1) 0 0 160) (47 + 2) (24 + 3 * N + 2) 0 0 3) (24 + 3 * N) 2 ((zcpy (zcpy (zu V2 45 1 (Int32.ofInt 0)) (47 + 1) (24 + 3 * N + 1) 0 0 160) (47 + 2) (24 + 3 * N + 2) 0 0 3) 47 2)) 45 1 = Int32.ofInt 0 := by
      rw [zu_ne (by omega), zcpy_ne (by omega), zcpy_ne (by omega), zuN_at]
    have ec : ∀ i, i < 160 → (zu (zcpy (zcpy (zu V2 45 1 (Int32.ofInt 0)) (47 + 1) (24 + 3 * N + 1) 0 0 160) (47 + 2) (24 + 3 * N + 2) 0 0 3) (24 + 3 * N) 2 ((zcpy (zcpy (zu V2 45 1 (Int32.ofInt 0)) (47 + 1) (24 + 3 * N + 1) 0 0 160) (47 + 2) (24 + 3 * N + 2) 0 0 3) 47 2)) (24 + 3 * N + 1) i = V2 48 i := by
      intro i hi
      rw [zu_ne (by omega), zcpy_ne (by omega), zcpy_at hi, zu_ne (by omega)]
    have ee : ∀ i, i < 3 → (zu (zcpy (zcpy (zu V2 45 1 (Int32.ofInt 0)) (47 + 1) (24 + 3 * N + 1) 0 0 160) (47 + 2) (24 + 3 * N + 2) 0 0 3) (24 + 3 * N) 2 ((zcpy (zcpy (zu V2 45 1 (Int32.ofInt 0)) (47 + 1) (24 + 3 * N + 1) 0 0 160) (47 + 2) (24 + 3 * N + 2) 0 0 3) 47 2)) (24 + 3 * N + 2) i = V2 49 i := by
      intro i hi
      rw [zu_ne (by omega), zcpy_at hi, zcpy_ne (by omega), zu_ne (by omega)]
    generalize zu (zcpy (zcpy (zu V2 45 1 (Int32.ofInt 0)) (47 + 1) (24 + 3 * N + 1) 0 0 160) (47 + 2) (24 + 3 * N + 2) 0 0 3) (24 + 3 * N) 2 ((zcpy (zcpy (zu V2 45 1 (Int32.ofInt 0)) (47 + 1) (24 + 3 * N + 1) 0 0 160) (47 + 2) (24 + 3 * N + 2) 0 0 3) 47 2) = V4 at *
    have hlen : ((yX1 b n).2.1 ++ (yX2 b n).2.1 ++ (yX3 b n).2.1).length ≤ 160 := by
      have := yXl hb
      rw [List.length_append, List.length_append]
      omega
    rw [zuN_at, e20, hR3, zI_add, zI_sub, show (N : Int) + 1 - 1 = (N : Int) by omega]
    refine k _ ⟨fun a a1 a2 a3 a4 a5 a6 => ?_, fun j hj => ?_⟩ ⟨?_, Nat.zero_le _, fun i hi => absurd hi (by omega)⟩ (zRu_new hR hN hn hb hx ?_ ?_ ?_ ?_ ?_ ?_)
    · rw [zu_ne a1, eo a a2 (by omega) (by omega) (by omega)]; exact f2.1 a a2 a3 a4 a5
    · rw [zuN_nk hj, e20]
    · rw [zu_ne (by omega)]; exact e45
    · rw [zuN_at]; rfl
    · intro a a1 a2
      rw [zu_ne (by omega), eo a (by omega) (by omega) (by omega) (by omega), f2.1 a (by omega) (by omega) (by omega) (by omega)]
    · rw [zu_ne (by omega), ee 0 (by omega)]; exact t0
    · rw [zu_ne (by omega), ee 1 (by omega)]; exact t1
    · rw [zu_ne (by omega), ee 2 (by omega)]; exact t2
    · intro i hi
      rw [zu_ne (by omega), ec i (by omega)]; exact d2.2 i hi
