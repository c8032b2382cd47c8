/-! Tokens: number, advance, fail, expect, opens, adds: the class -/
theorem s59 {x : zXs} {F : zF} (hF : zSh F) {d : Nat} {V : Nat → Nat → Int32} {T : Nat → Nat → Int64} {Q : Option Value → zG → Prop} {b : Nat → Nat} {n s : Nat} (hn : n ≤ 160) (h1 : V 45 1 = Int32.ofInt (n : Int)) (hbt : ∀ i, i < n → V 46 i = Int32.ofInt (b i : Int) ∧ b i ≤ 255) (h5 : V 45 5 = Int32.ofInt (s : Int)) (hs : s ≤ n) (k : ∀ V2, zFl V V2 → V2 45 6 = Int32.ofInt (yDg b n 200 s : Int) → V2 45 3 = Int32.ofInt ((if yDg b n 200 s - s ≤ 4 then 2 else 1 : Nat) : Int) → (yDg b n 200 s - s ≤ 4 → V2 45 4 = Int32.ofInt (yNu b s (yDg b n 200 s - s) : Int)) → (∀ j, j ≠ 3 → j ≠ 4 → j ≠ 6 → V2 45 j = V 45 j) → Q none (V2, T)) : E x F (d + 1) 59 0 [some (.ref 45)] [] (V, T) Q := by
  have hD := yDg_in b n 200 s
  apply b59_0 hF
  rw [h5]
  have fin : ∀ (V1 : Nat → Nat → Int32), zFl V V1 → V1 45 6 = Int32.ofInt (yDg b n 200 s : Int) → (yDg b n 200 s - s ≤ 4 → V1 45 4 = Int32.ofInt (yNu b s (yDg b n 200 s - s) : Int)) → (∀ j, j ≠ 4 → j ≠ 6 → V1 45 j = V 45 j) → E x F (d + 1) 59 76 [some (.ref 45)] [] (V1, T) Q := by
    intro V1 hf h6 h4 hj
    have K := fun z : Nat => k (zu V1 45 3 (Int32.ofInt (z : Int))) (fun a ha => by rw [zu_ne ha]; exact hf a ha) (by rw [zuN_nk (by omega)]; exact h6)
    have hle := hD.2 hs
    apply b59_76 hF
    · rw [h6, hj 5 (by omega) (by omega), h5, zI_sub]
      intro c
      simp (disch := omega) only [zI_le] at c
      apply b59_94 hF
      apply b59_95 hF
      refine K 2 ?_ ?_ ?_
      · rw [zuN_at, if_pos (by omega)]
      · intro c2
        rw [zuN_nk (by omega)]
        exact h4 c2
      · intro j q3 q4 q6
        rw [zuN_nk q3]; exact hj j q4 q6
    · rw [h6, hj 5 (by omega) (by omega), h5, zI_sub]
      intro c
      simp (disch := omega) only [zI_le] at c
      apply b59_90 hF
      apply b59_95 hF
      refine K 1 ?_ ?_ ?_
      · rw [zuN_at, if_neg (by omega)]
      · intro c2
        exfalso; omega
      · intro j q3 q4 q6
        rw [zuN_nk q3]; exact hj j q4 q6
  have scan : ∀ (m i : Nat) (V1 : Nat → Nat → Int32), n ≤ i + m → s ≤ i → i ≤ n → yDg b n m i = yDg b n 200 s → (∀ j, j < i - s → 48 ≤ b (s + j) ∧ b (s + j) ≤ 57) → zFl V V1 → V1 45 6 = Int32.ofInt (i : Int) → (i - s ≤ 4 → V1 45 4 = Int32.ofInt (yNu b s (i - s) : Int)) → (∀ j, j ≠ 4 → j ≠ 6 → V1 45 j = V 45 j) → E x F (d + 1) 59 13 [some (.ref 45)] [] (V1, T) Q := by
    intro m
    induction m with
    | zero =>
      intro i V1 hm hsi hin he hdg hf h6 h4 hj
      rw [yDg_0 b n i] at he
      rw [he] at h6 h4
      apply b59_13 hF
      · intro _
        exact fin V1 hf h6 h4 hj
      · rw [hj 1 (by omega) (by omega), h1, h6]
        intro c
        simp (disch := omega) only [zI_le] at c
        exfalso; omega
    | succ m ih =>
      intro i V1 hm hsi hin he hdg hf h6 h4 hj
      rw [yDg_s b n m i] at he
      apply b59_13 hF
      · rw [hj 1 (by omega) (by omega), h1, h6]
        intro c
        simp (disch := omega) only [zI_le] at c
        rw [if_neg (fun g => by omega)] at he
        rw [he] at h6 h4
        exact fin V1 hf h6 h4 hj
      · rw [hj 1 (by omega) (by omega), h1, h6]
        intro c
        simp (disch := omega) only [zI_le] at c
        have hb := hbt i (by omega)
        apply b59_24 hF (i1 := i) (by rw [h6]; exact zI_nat i) (by omega)
        rw [hf 46 (by omega), hb.1]
        refine s58 hF hb.2 ?_ ?_
        · intro c1
          rw [if_pos ⟨by omega, c1⟩] at he
          apply b59_36 hF
          · intro c2; first | exact absurd c2 (by decide) | (exfalso; dsimp only at c2; omega)
          intro _
          apply b59_39 hF (i1 := i) (by rw [h6]; exact zI_nat i) (by omega)
          rw [zuN_nk (by omega), h6, hf 46 (by omega), hb.1, zI_add]
          have hdg2 : ∀ j, j < i + 1 - s → 48 ≤ b (s + j) ∧ b (s + j) ≤ 57 := by
            intro j hj2
            by_cases hji : j = i - s
            · rw [hji, show s + (i - s) = i by omega]; exact c1
            · exact hdg j (by omega)
          apply ih (i + 1) _ (by omega) (by omega) (by omega) he hdg2
          · intro a ha
            rw [zu_ne ha, zu_ne ha]; exact hf a ha
          · rw [zuN_at]; congr 1
          · intro c4
            rw [zuN_nk (by omega), zuN_at, h4 (by omega)]
            have e : i + 1 - s = (i - s) + 1 := by omega
            have hlt := yNu_lt b s (i - s) hdg
            rw [e, yNu, show s + (i - s) = i by omega, zI_mul, zI_add, zI_sub]
            congr 1
            omega
          · intro j q4 q6
            rw [zuN_nk q6, zuN_nk q4]; exact hj j q4 q6
        · intro c1
          rw [if_neg (fun g => c1 g.2)] at he
          rw [he] at h6 h4
          apply b59_36 hF
          · intro _
            exact fin V1 hf h6 h4 hj
          · intro c2; exact absurd rfl c2
  apply scan 200 s _ (by omega) (Nat.le_refl _) hs rfl
  · intro j hj; omega
  · intro a ha
    rw [zu_ne ha, zu_ne ha]
  · rw [zuN_nk (by omega), zuN_at]
  · intro _
    rw [zuN_at, Nat.sub_self]; rfl
  · intro j q4 q6
    rw [zuN_nk q4, zuN_nk q6]
def zGb (V : Nat → Nat → Int32) (b : Nat → Nat) (n k : Nat) : Prop := V 45 1 = Int32.ofInt (n : Int) ∧ n ≤ 160 ∧ (∀ i, i < n → V 46 i = Int32.ofInt (b i : Int) ∧ b i ≤ 255) ∧ V 45 7 = Int32.ofInt (5 - (k : Int))
theorem zGc_b {V : Nat → Nat → Int32} {b : Nat → Nat} {n k : Nat} {g : yL} (h : zGc V b n k g) : zGb V b n k := by
  obtain ⟨q1, q2, q3, _, _, _, _, q7, _⟩ := h
  exact ⟨q1, q2, q3, q7⟩
theorem zGc_mk {V V2 : Nat → Nat → Int32} {b : Nat → Nat} {n k : Nat} {g2 : yL} (h : zGb V b n k) (hf : zFl V V2) (hj : ∀ j, (j = 1 ∨ j = 7) → V2 45 j = V 45 j) (h3 : V2 45 3 = Int32.ofInt (g2.1 : Int)) (h4 : g2.1 = 2 ∨ g2.1 = 3 → V2 45 4 = Int32.ofInt (g2.2.1 : Int)) (h5 : V2 45 5 = Int32.ofInt (g2.2.2.1 : Int)) (h6 : V2 45 6 = Int32.ofInt (g2.2.2.2.1 : Int)) (h8 : V2 45 8 = Int32.ofInt ((g2.2.2.2.2 : Int) - 1)) : zGc V2 b n k g2 := by
  obtain ⟨q1, q2, q3, q7⟩ := h
  exact ⟨by rw [hj 1 (by omega)]; exact q1, q2, fun i hi => by rw [hf 46 (by omega)]; exact q3 i hi, h3, h4, h5, h6, by rw [hj 7 (by omega)]; exact q7, h8⟩
theorem s46w {x : zXs} {F : zF} (hF : zSh F) {d : Nat} {V : Nat → Nat → Int32} {T : Nat → Nat → Int64} {Q : Option Value → zG → Prop} {b : Nat → Nat} {n q : Nat} {g : yL} (hg : zGb V b n q) (h6 : V 45 6 = Int32.ofInt (g.2.2.2.1 : Int)) (h8 : V 45 8 = Int32.ofInt ((g.2.2.2.2 : Int) - 1)) (w5 : g.2.2.2.1 ≤ n) (w6 : g.2.2.2.2 ≤ n + 1) (hgf : g.2.2.2.2 ≠ 0 → zGc V b n q g) (k : ∀ V2, zFl V V2 → zGc V2 b n q (yAdv b n g) → Q none (V2, T)) : E x F (d + 6) 46 0 [some (.ref 45)] [] (V, T) Q := by
  have h1 := hg.1
  have hn := hg.2.1
  have hbt := hg.2.2.1
  unfold yAdv at k
  apply b46_0 hF
  rotate_left
  · rw [h8]
    intro c
    simp (disch := omega) only [zI_eq] at c
    rw [if_neg (by omega)] at k
    exact b46_8 hF (k V (fun _ _ => rfl) (hgf (by omega)))
  rw [h8]
  intro c
  simp (disch := omega) only [zI_eq] at c
  rw [if_pos (by omega)] at k
  have hf0 : g.2.2.2.2 = 0 := by omega
  apply b46_9 hF
  rw [h6]
  generalize g.2.2.2.1 = h at *
  have hS := yWs_in b n 200 h
  -- what stands behind the blanks
  have fin : ∀ (V1 : Nat → Nat → Int32), zFl V V1 → V1 45 5 = Int32.ofInt (yWs b n 200 h : Int) → (∀ j, j ≠ 5 → V1 45 j = V 45 j) → E x F (d + 6) 46 69 [some (.ref 45)] [] (V1, T) Q := by
    intro V1 hf h5 hj
    have K := fun V2 (hf2 : zFl V V2) (hj2 : ∀ j, (j = 1 ∨ j = 7) → V2 45 j = V 45 j) => k V2 hf2
    unfold yTok at K
    have hle := hS.2 w5
    generalize yWs b n 200 h = s at *
    have hj1 : V1 45 1 = Int32.ofInt (n : Int) := by rw [hj 1 (by omega)]; exact h1
    have h88 : V1 45 8 = Int32.ofInt (((0 : Nat) : Int) - 1) := by rw [hj 8 (by omega), h8, hf0]
    have hbt1 : ∀ i, i < n → V1 46 i = Int32.ofInt (b i : Int) ∧ b i ≤ 255 := fun i hi => by rw [hf 46 (by omega)]; exact hbt i hi
    apply b46_69 hF
    rotate_left
    · rw [h5, hj1]
      intro c1
      simp (disch := omega) only [zI_lt] at c1
      rw [if_pos (by omega)] at K
      apply b46_80 hF
      apply b46_182 hF
      rw [hj1]
      refine K _ ?_ ?_ (zGc_mk (g2 := (0, 0, s, n, 0)) hg ?_ ?_ ?_ ?_ ?_ ?_ ?_)
      · intro a ha; rw [zu_ne ha, zu_ne ha]; exact hf a ha
      · intro j hj2; rw [zuN_nk (by omega), zuN_nk (by omega)]; exact hj j (by omega)
      · intro a ha; rw [zu_ne ha, zu_ne ha]; exact hf a ha
      · intro j hj2; rw [zuN_nk (by omega), zuN_nk (by omega)]; exact hj j (by omega)
      · rw [zuN_at]; rfl
      · intro c2; first | exact absurd c2 (by decide) | (exfalso; dsimp only at c2; omega)
      · rw [zuN_nk (by omega), zuN_nk (by omega)]; exact h5
      · rw [zuN_nk (by omega), zuN_at]
      · rw [zuN_nk (by omega), zuN_nk (by omega)]; exact h88
    rw [h5, hj1]
    intro c1
    simp (disch := omega) only [zI_lt] at c1
    rw [if_neg (by omega)] at K
    have hb := hbt1 s (by omega)
    apply b46_96 hF (i1 := s) (by rw [h5]; exact zI_nat s) (by omega)
    rw [hb.1]
    refine s47 hF hb.2 ?_ ?_
    · intro c2
      rw [if_pos c2] at K
      apply b46_108 hF
      · intro c3; exact absurd c3 (by decide)
      intro _
      apply b46_111 hF
      apply s48 hF hn hj1 hbt1 h5 (by omega)
      intro V2 f2 e6 e3 e4 ej
      apply b46_115 hF
      apply b46_182 hF
      have hf2 : zFl V V2 := fun a ha => (f2 a ha).trans (hf a ha)
      have hj2 : ∀ j, (j = 1 ∨ j = 7) → V2 45 j = V 45 j := fun j hj2 => by rw [ej j (by omega) (by omega) (by omega)]; exact hj j (by omega)
      have hne : (yWf b s (yLt b n 200 s) 12).1 ≠ 2 := (yWf_in b s (yLt b n 200 s) 12 (by omega)).2.2.1
      refine K V2 hf2 hj2 (zGc_mk hg hf2 hj2 e3 ?_ ?_ e6 ?_)
      · intro c3
        exact e4 (c3.resolve_left hne)
      · rw [ej 5 (by omega) (by omega) (by omega)]; exact h5
      · rw [ej 8 (by omega) (by omega) (by omega)]; exact h88
    · intro c2
      rw [if_neg c2] at K
      apply b46_108 hF
      rotate_left
      · intro c3; exact absurd rfl c3
      intro _
      apply b46_118 hF (i1 := s) (by rw [h5]; exact zI_nat s) (by omega)
      rw [hb.1]
      refine s58 hF hb.2 ?_ ?_
      · intro c3
        rw [if_pos c3] at K
        apply b46_130 hF
        · intro c4; exact absurd c4 (by decide)
        intro _
        apply b46_133 hF
        apply s59 hF hn hj1 hbt1 h5 (by omega)
        intro V2 f2 e6 e3 e4 ej
        apply b46_137 hF
        apply b46_182 hF
        have hf2 : zFl V V2 := fun a ha => (f2 a ha).trans (hf a ha)
        have hj2 : ∀ j, (j = 1 ∨ j = 7) → V2 45 j = V 45 j := fun j hj2 => by rw [ej j (by omega) (by omega) (by omega)]; exact hj j (by omega)
        refine K V2 hf2 hj2 (zGc_mk hg hf2 hj2 e3 ?_ ?_ e6 ?_)
        · intro c4
          apply e4
          dsimp only at c4
          split at c4
          · assumption
          · omega
        · rw [ej 5 (by omega) (by omega) (by omega)]; exact h5
        · rw [ej 8 (by omega) (by omega) (by omega)]; exact h88
      · intro c3
        rw [if_neg c3] at K
        have hsg := ySg_i (b s)
        apply b46_130 hF
        rotate_left
        · intro c4; exact absurd rfl c4
        intro _
        apply b46_140 hF (i1 := s) (by rw [zuN_nk (by omega), h5]; exact zI_nat s) (by omega)
        rw [zu_ne (by omega), hb.1]
        apply s60 hF hb.2
        have go : ∀ z : Nat, z = (if ySg (b s) = true then b s else 1) → E x F (d + 6) 46 179 [some (.ref 45)] [.int (Int32.ofInt ((z:Int))), .ref 45] (zu V1 45 6 (V1 45 5 + Int32.ofInt 1), T) Q := by
          intro z hz
          apply b46_179 hF
          apply b46_182 hF
          have hfz : zFl V (zu (zu V1 45 6 (V1 45 5 + Int32.ofInt 1)) 45 3 (Int32.ofInt (z : Int))) := fun a ha => by rw [zu_ne ha, zu_ne ha]; exact hf a ha
          have hjz : ∀ j, (j = 1 ∨ j = 7) → zu (zu V1 45 6 (V1 45 5 + Int32.ofInt 1)) 45 3 (Int32.ofInt (z : Int)) 45 j = V 45 j := fun j hj2 => by rw [zuN_nk (by omega), zuN_nk (by omega)]; exact hj j (by omega)
          refine K _ hfz hjz (zGc_mk hg hfz hjz ?_ ?_ ?_ ?_ ?_)
          · rw [zuN_at, hz]
          · intro c4
            exfalso
            dsimp only at c4
            split at c4
            · rename_i c5; have := hsg.mp c5; omega
            · omega
          · rw [zuN_nk (by omega), zuN_nk (by omega)]; exact h5
          · rw [zuN_nk (by omega), zuN_at, h5, zI_add]; congr 1
          · rw [zuN_nk (by omega), zuN_nk (by omega)]; exact h88
        by_cases c4 : ySg (b s) = true
        · rw [if_pos c4]
          apply b46_163 hF
          · intro c5; exact absurd c5 (by decide)
          intro _
          apply b46_166 hF (i1 := s) (by rw [zuN_nk (by omega), h5]; exact zI_nat s) (by omega)
          rw [zu_ne (by omega), hb.1]
          exact go (b s) (by rw [if_pos c4])
        · rw [if_neg c4]
          apply b46_163 hF
          · intro _
            apply b46_178 hF
            exact go 1 (by rw [if_neg c4])
          · intro c5; exact absurd rfl c5
  have scan : ∀ (m i : Nat) (V1 : Nat → Nat → Int32), n ≤ i + m → i ≤ n → yWs b n m i = yWs b n 200 h → zFl V V1 → V1 45 5 = Int32.ofInt (i : Int) → (∀ j, j ≠ 5 → V1 45 j = V 45 j) → E x F (d + 6) 46 17 [some (.ref 45)] [] (V1, T) Q := by
    intro m
    induction m with
    | zero =>
      intro i V1 hm hin he hf h5 hj
      rw [yWs_0 b n i] at he
      apply b46_17 hF
      · intro _
        exact fin V1 hf (by rw [h5, he]) hj
      · rw [hj 1 (by omega), h1, h5]
        intro c1
        simp (disch := omega) only [zI_le] at c1
        exfalso; omega
    | succ m ih =>
      intro i V1 hm hin he hf h5 hj
      rw [yWs_s b n m i] at he
      apply b46_17 hF
      · rw [hj 1 (by omega), h1, h5]
        intro c1
        simp (disch := omega) only [zI_le] at c1
        rw [if_neg (fun g => by omega)] at he
        exact fin V1 hf (by rw [h5, he]) hj
      · rw [hj 1 (by omega), h1, h5]
        intro c1
        simp (disch := omega) only [zI_le] at c1
        have hb := hbt i (by omega)
        have next : (b i = 32 ∨ b i = 10) → E x F (d + 6) 46 56 [some (.ref 45)] [] (V1, T) Q := by
          intro c2
          rw [if_pos ⟨by omega, c2⟩] at he
          apply b46_56 hF
          rw [h5, zI_add]
          apply ih (i + 1) _ (by omega) (by omega) he
          · intro a ha
            rw [zu_ne ha]; exact hf a ha
          · rw [zuN_at]; congr 1
          · intro j q
            rw [zuN_nk q]; exact hj j q
        apply b46_28 hF (i1 := i) (by rw [h5]; exact zI_nat i) (by omega)
        · rw [hf 46 (by omega), hb.1]
          intro c2
          simp (disch := omega) only [zI_eq] at c2
          exact next (by omega)
        · rw [hf 46 (by omega), hb.1]
          intro c2
          simp (disch := omega) only [zI_eq] at c2
          apply b46_42 hF (i1 := i) (by rw [h5]; exact zI_nat i) (by omega)
          · rw [hf 46 (by omega), hb.1]
            intro c3
            simp (disch := omega) only [zI_eq] at c3
            rw [if_neg (fun g => by omega)] at he
            exact fin V1 hf (by rw [h5, he]) hj
          · rw [hf 46 (by omega), hb.1]
            intro c3
            simp (disch := omega) only [zI_eq, Decidable.not_not] at c3
            exact next (by omega)
  apply scan 200 h _ (by omega) w5 rfl
  · intro a ha
    rw [zu_ne ha]
  · rw [zuN_at]
  · intro j q
    rw [zuN_nk q]
theorem s46 {x : zXs} {F : zF} (hF : zSh F) {d : Nat} {V : Nat → Nat → Int32} {T : Nat → Nat → Int64} {Q : Option Value → zG → Prop} {b : Nat → Nat} {n q : Nat} {g : yL} (hg : zGc V b n q g) (hw : yGw n g) (k : ∀ V2, zFl V V2 → zGc V2 b n q (yAdv b n g) → Q none (V2, T)) : E x F (d + 6) 46 0 [some (.ref 45)] [] (V, T) Q := s46w hF (zGc_b hg) hg.2.2.2.2.2.2.1 hg.2.2.2.2.2.2.2.2 hw.2.2.2.2.1 hw.2.2.2.2.2.1 (fun _ => hg) k
theorem s62 {x : zXs} {F : zF} (hF : zSh F) {d : Nat} {V : Nat → Nat → Int32} {T : Nat → Nat → Int64} {Q : Option Value → zG → Prop} {b : Nat → Nat} {n q : Nat} {g : yL} (hg : zGc V b n q g) (hw : yGw n g) (k : ∀ V2, zFl V V2 → zGc V2 b n q (yFail g) → Q none (V2, T)) : E x F d 62 0 [some (.ref 45)] [] (V, T) Q := by
  obtain ⟨h1, hn, hbt, h3, h4, h5, h6, h7, h8⟩ := hg
  have hg : zGc V b n q g := ⟨h1, hn, hbt, h3, h4, h5, h6, h7, h8⟩
  have w6 := hw.2.2.2.2.2.1
  apply b62_0 hF
  · rw [h8]
    intro c
    simp (disch := omega) only [zI_eq] at c
    apply b62_16 hF
    refine k _ (fun a ha => zu_ne ha) (zGc_mk (zGc_b hg) (fun a ha => zu_ne ha) (fun j hj => zuN_nk (by omega)) ?_ ?_ ?_ ?_ ?_)
    · rw [zuN_at]; rfl
    · intro c2; unfold yFail at c2; dsimp only at c2; omega
    · rw [zuN_nk (by omega)]; exact h5
    · rw [zuN_nk (by omega)]; exact h6
    · rw [zuN_nk (by omega), h8]
      unfold yFail
      dsimp only
      rw [if_neg (by omega)]
  · rw [h8]
    intro c
    simp (disch := omega) only [zI_eq, Decidable.not_not] at c
    apply b62_8 hF
    apply b62_16 hF
    refine k _ (fun a ha => by rw [zu_ne ha, zu_ne ha]) (zGc_mk (zGc_b hg) (fun a ha => by rw [zu_ne ha, zu_ne ha]) (fun j hj => by rw [zuN_nk (by omega), zuN_nk (by omega)]) ?_ ?_ ?_ ?_ ?_)
    · rw [zuN_at]; rfl
    · intro c2; unfold yFail at c2; dsimp only at c2; omega
    · rw [zuN_nk (by omega), zuN_nk (by omega)]; exact h5
    · rw [zuN_nk (by omega), zuN_nk (by omega)]; exact h6
    · rw [zuN_nk (by omega), zuN_at, h5]
      unfold yFail
      dsimp only
      rw [if_pos (by omega)]
      congr 1; omega
def yExp (b : Nat → Nat) (n due : Nat) (g : yL) : yL := if g.1 = due then yAdv b n g else yFail g
theorem s61 {x : zXs} {F : zF} (hF : zSh F) {d : Nat} {V : Nat → Nat → Int32} {T : Nat → Nat → Int64} {Q : Option Value → zG → Prop} {b : Nat → Nat} {n q due : Nat} (hd : due ≤ 255) {g : yL} (hg : zGc V b n q g) (hw : yGw n g) (k : ∀ V2, zFl V V2 → zGc V2 b n q (yExp b n due g) → Q none (V2, T)) : E x F (d + 7) 61 0 [some (.ref 45), some (.int (Int32.ofInt ((due:Int))))] [] (V, T) Q := by
  have h3 := hg.2.2.2.1
  have w1 := hw.1
  unfold yExp at k
  apply b61_0 hF
  · rw [h3]
    intro c
    simp (disch := omega) only [zI_eq] at c
    rw [if_neg (by omega)] at k
    apply b61_15 hF
    apply s62 hF hg hw
    intro V2 f2 g2
    exact b61_19 hF (k V2 f2 g2)
  · rw [h3]
    intro c
    simp (disch := omega) only [zI_eq, Decidable.not_not] at c
    rw [if_pos (by omega)] at k
    apply b61_8 hF
    apply s46 hF hg hw
    intro V2 f2 g2
    exact b61_12 hF (b61_19 hF (k V2 f2 g2))
theorem zGc_k {V V2 : Nat → Nat → Int32} {b : Nat → Nat} {n q q2 : Nat} {g : yL} (h : zGc V b n q g) (hf : zFl V V2) (hj : ∀ j, j ≠ 7 → V2 45 j = V 45 j) (h7 : V2 45 7 = Int32.ofInt (5 - (q2 : Int))) : zGc V2 b n q2 g := by
  obtain ⟨q1, q2', q3, q4, q5, q6, q7, q8, q9⟩ := h
  exact ⟨by rw [hj 1 (by omega)]; exact q1, q2', fun i hi => by rw [hf 46 (by omega)]; exact q3 i hi, by rw [hj 3 (by omega)]; exact q4, fun c => by rw [hj 4 (by omega)]; exact q5 c, by rw [hj 5 (by omega)]; exact q6, by rw [hj 6 (by omega)]; exact q7, h7, by rw [hj 8 (by omega)]; exact q9⟩
theorem s66 {x : zXs} {F : zF} (hF : zSh F) {d : Nat} {V : Nat → Nat → Int32} {T : Nat → Nat → Int64} {Q : Option Value → zG → Prop} {b : Nat → Nat} {n q : Nat} (hq : q ≤ 5) {g : yL} (hg : zGc V b n q g) (hw : yGw n g) (k1 : ∀ p, q = p + 1 → ∀ V2, zFl V V2 → zGc V2 b n p (yAdv b n g) → Q (some (.int (Int32.ofInt 1))) (V2, T)) (k0 : q = 0 → ∀ V2, zFl V V2 → zGc V2 b n 0 (yFail g) → Q (some (.int (Int32.ofInt 0))) (V2, T)) : E x F (d + 7) 66 0 [some (.ref 45)] [] (V, T) Q := by
  have h7 := hg.2.2.2.2.2.2.2.1
  apply b66_0 hF
  · rw [h7]
    intro c
    simp (disch := omega) only [zI_lt] at c
    obtain ⟨p, rfl⟩ : ∃ p, q = p + 1 := ⟨q - 1, by omega⟩
    apply b66_14 hF
    rw [h7, zI_add]
    have hg2 : zGc (zu V 45 7 (Int32.ofInt (5 - ((p + 1 : Nat) : Int) + 1))) b n p g := zGc_k hg (fun a ha => zu_ne ha) (fun j hj => zuN_nk hj) (by rw [zuN_at]; congr 1; omega)
    apply s46 hF hg2 hw
    intro V2 f2 g2
    apply b66_28 hF
    exact k1 p rfl V2 (fun a ha => by rw [f2 a ha, zu_ne ha]) g2
  · rw [h7]
    intro c
    simp (disch := omega) only [zI_lt] at c
    have hq0 : q = 0 := by omega
    subst hq0
    apply b66_8 hF
    apply s62 hF hg hw
    intro V2 f2 g2
    exact b66_12 hF (k0 rfl V2 f2 g2)
/-- the draft of the class -/
def zDr (V : Nat → Nat → Int32) (cs : List Nat) : Prop := V 47 2 = Int32.ofInt (cs.length : Int) ∧ ∀ i, i < cs.length → V 48 i = Int32.ofInt (cs.getD i 0 : Int)
theorem s5 {x : zXs} {F : zF} (hF : zSh F) {d : Nat} {V : Nat → Nat → Int32} {T : Nat → Nat → Int64} {Q : Option Value → zG → Prop} {cs : List Nat} (hd : zDr V cs) (hl : cs.length < 160) {c : Nat} (k : ∀ V2, zDr V2 (cs ++ [c]) → (∀ a, a ≠ 47 → a ≠ 48 → V2 a = V a) → (∀ j, j ≠ 2 → V2 47 j = V 47 j) → Q none (V2, T)) : E x F d 5 0 [some (.ref 47), some (.int (Int32.ofInt ((c:Int))))] [] (V, T) Q := by
  have ht : zTx 47 := by unfold zTx; omega
  obtain ⟨h1, h2⟩ := hd
  apply b5_0 hF ht
  · rw [h1]
    intro c1
    simp (disch := omega) only [zI_le] at c1
    exfalso; omega
  intro _
  apply b5_10 hF ht (i1 := cs.length) (by rw [h1]; exact zI_nat _) hl
  apply b5_30 hF
  rw [zu_ne (by omega), h1, zI_add]
  apply k
  · refine ⟨?_, ?_⟩
    · rw [zuN_at, List.length_append]; congr 1
    · intro i hi
      rw [List.length_append] at hi
      simp only [List.length_singleton] at hi
      rw [zu_ne (by omega), zu_at]
      by_cases hic : i = cs.length
      · rw [if_pos hic, hic]
        congr 2
        rw [List.getD_eq_getElem?_getD, List.getElem?_append_right (Nat.le_refl _)]
        simp
      · rw [if_neg hic, h2 i (by omega)]
        congr 2
        rw [List.getD_eq_getElem?_getD, List.getD_eq_getElem?_getD, List.getElem?_append_left (by omega)]
  · intro a a1 a2
    rw [zu_ne a1, zu_ne a2]
  · intro j hj
    rw [zuN_nk hj, zu_ne (by omega)]
