/-! Calls that change more than the state -/
section
variable {V V2 : Nat → Nat → Int32} {K : Nat → Nat} {S S2 : Nat → Nat → Nat} {N N2 : Nat} {w w2 : Nat → Nat → (Nat → Int32) → Int32} {b b2 : Nat → Nat} {n n2 : Nat} {H H2 : Nat → Int × Nat × (Nat → Int32)} {im : Prop} {I : Nat → Nat → Nat}
theorem zRC_g (h : zRC V S N w b n H im I) (hf : ∀ a, (a < 7 ∨ 13 ≤ a ∧ a ≤ 18) → V2 a = V a) (h2 : zRu V2 N2 w2) (h3 : zTc V2 b2 n2) (h4 : zHc V2 H2) : zRC V2 S N2 w2 b2 n2 H2 im I := by
  obtain ⟨h1, _, _, _, h5, h6⟩ := h
  refine ⟨zCS_fg h1 (fun a a1 a2 => hf a (by omega)), h2, h3, h4, zCS_fg h5 (fun a a1 a2 => hf a (by omega)), ?_⟩
  rw [hf 0 (by omega)]
  exact h6
theorem zMS_fg (h : zMS V S) (hf : ∀ a, 63 ≤ a → a ≤ 66 → V2 a = V a) (hj : ∀ j, (j = 4 ∨ j = 7 ∨ j = 12) → V2 59 j = V 59 j) : zMS V2 S := by
  unfold zMS
  rw [hf 63 (by omega) (by omega), hf 64 (by omega) (by omega), hf 65 (by omega) (by omega), hf 66 (by omega) (by omega), hj 4 (by omega), hj 7 (by omega), hj 12 (by omega)]
  exact h
theorem zRM_g (h : zRM V S N w b n H im I) (h1 : zMS V2 S2) (hf : ∀ a, 74 ≤ a → a ≤ 76 → V2 a = V a) (hj : ∀ j, 40 ≤ j → j ≤ 42 → V2 59 j = V 59 j) (h2 : zRt V2 N2 w2) (h3 : V2 59 3 = Int32.ofInt (N2 : Int)) (h4 : zTm V2 b2 n2) (h5 : zHm V2 H2) : zRM V2 S2 N2 w2 b2 n2 H2 im I := by
  obtain ⟨_, _, _, _, _, h6, h7⟩ := h
  refine ⟨h1, h2, h3, h4, h5, fun c => ?_, ?_⟩
  · have := h6 c
    unfold zKp at this ⊢
    rw [hj 40 (by omega) (by omega), hj 41 (by omega) (by omega), hj 42 (by omega) (by omega), hf 74 (by omega) (by omega), hf 75 (by omega) (by omega), hf 76 (by omega) (by omega)]
    exact this
  · rw [hj 40 (by omega) (by omega)]
    exact h7
theorem zTm_fr (h : zTm V b n) (h6 : V2 59 6 = V 59 6) (h62 : V2 62 = V 62) : zTm V2 b n := by
  unfold zTm
  rw [h6, h62]
  exact h
theorem zIv_g (h : zIv K S N H im I) (hN : N ≤ N2) (hw : zHw H2) : zIv K S N2 H2 im I := by
  obtain ⟨h1, h2, h3, h4, _, h6⟩ := h
  exact ⟨h1, Nat.lt_of_lt_of_le h2 hN, h3, h4, hw, fun c => ⟨(h6 c).1, Nat.lt_of_lt_of_le (h6 c).2.1 hN, (h6 c).2.2⟩⟩
end
theorem zk6 {x : zXs} {F : zF} (hF : zSh F) {d : Nat} {V : Nat → Nat → Int32} {T : Nat → Nat → Int64} {Q : Option Value → zG → Prop} (hL : x.1 ≤ 3072) {p : Nat} (hp : p + 6 ≤ x.1) (hr : zRel V) (k : ∀ V2 T2, zRel V2 → E x F (d + 61) 211 1247 [some (.double 50), some (.ref 0), some (.ref 59), some (.int (Int32.ofInt ((p:Int))))] [] (V2, T2) Q) : E x F (d + 61) 211 390 [some (.double 50), some (.ref 0), some (.ref 59), some (.int (Int32.ofInt ((p:Int))))] [] (V, T) Q := by
  obtain ⟨K, S, N, w, b, n, H, im, I, hC, hM, hI⟩ := hr
  obtain ⟨z1, e1, r1⟩ := zScr x (p + 1)
  apply b211_390 hF hL (i1 := p + 1) (by rw [zI_add]; exact zI_nat (p + 1)) (by omega)
  rw [e1]
  refine s41 hF hC.2.2.1 r1 ?_
  intro V2 hT2 hf2
  have hM := zRM_c hM (fun a ha => hf2 a (by omega) (by omega))
  have hC2 := zRC_g hC (fun a ha => hf2 a (by omega) (by omega)) (zRu_fr hC.2.1 (fun a ha => hf2 a (by omega) (by omega))) hT2 (zHc_fr hC.2.2.2.1 (fun a a1 a2 => hf2 a (by omega) (by omega)))
  apply b211_399 hF hL (i1 := p + 1) (by rw [zI_add]; exact zI_nat (p + 1)) (by omega)
  rw [e1]
  refine s164 hF hM.2.2.2.1 r1 ?_
  intro V3 hT3 hf3 hj3
  apply b211_408 hF
  rotate_left
  · intro c; exact absurd rfl c
  intro _
  exact k V3 T ⟨K, S, N, w, _, _, H, im, I, zRC_m hC2 (fun a ha => hf3 a (by omega) (by omega)), zRM_g hM (zMS_fg hM.1 (fun a a1 a2 => hf3 a (by omega) (by omega)) (fun j hj => hj3 j (by omega))) (fun a a1 a2 => hf3 a (by omega) (by omega)) (fun j a1 a2 => hj3 j (by omega)) (zRt_fr hM.2.1 (hf3 60 (by omega) (by omega)) (hf3 61 (by omega) (by omega))) (by rw [hj3 3 (by omega)]; exact hM.2.2.1) hT3 (zHm_fr hM.2.2.2.2.1 (fun a a1 a2 => hf3 a (by omega) (by omega))), hI⟩
theorem zk7 {x : zXs} {F : zF} (hF : zSh F) {d : Nat} {V : Nat → Nat → Int32} {T : Nat → Nat → Int64} {Q : Option Value → zG → Prop} (hL : x.1 ≤ 3072) {p : Nat} (hp : p + 6 ≤ x.1) (hr : zRel V) (k : ∀ V2 T2, zRel V2 → E x F (d + 61) 211 1247 [some (.double 50), some (.ref 0), some (.ref 59), some (.int (Int32.ofInt ((p:Int))))] [] (V2, T2) Q) : E x F (d + 61) 211 413 [some (.double 50), some (.ref 0), some (.ref 59), some (.int (Int32.ofInt ((p:Int))))] [] (V, T) Q := by
  obtain ⟨K, S, N, w, b, n, H, im, I, hC, hM, hI⟩ := hr
  apply b211_413 hF
  refine s43 hF hC.2.2.1 hC.2.1 ?_
  intro V2 hf2 hT2 hR2
  have hM := zRM_c hM (fun a ha => hf2.1 a (by omega) (by omega) (by omega) (by omega) (by omega) (by omega))
  have hC2 := zRC_g hC (fun a ha => hf2.1 a (by omega) (by omega) (by omega) (by omega) (by omega) (by omega)) hR2 hT2 (zHc_fr hC.2.2.2.1 (fun a a1 a2 => hf2.1 a (by omega) (by omega) (by omega) (by omega) (by omega) (by omega)))
  have hNN : N ≤ yTextN b n N := by
    unfold yTextN
    split <;> omega
  apply b211_417 hF
  refine s165 hF hM.2.2.2.1 hM.2.2.1 hC.2.1.2.2.1 hM.2.1 ?_
  intro V3 T3 hf3 hj3 hT3 h33 hR3
  apply b211_421 hF
  rotate_left
  · intro c; exact absurd rfl c
  intro _
  exact k V3 T3 ⟨K, S, _, _, _, _, H, im, I, zRC_m hC2 (fun a ha => hf3 a (by omega) (by omega) (by omega)), zRM_g hM (zMS_fg hM.1 (fun a a1 a2 => hf3 a (by omega) (by omega) (by omega)) (fun j hj => hj3 j (by omega) (by omega) (by omega))) (fun a a1 a2 => hf3 a (by omega) (by omega) (by omega)) (fun j a1 a2 => hj3 j (by omega) (by omega) (by omega)) hR3 h33 hT3 (zHm_fr hM.2.2.2.2.1 (fun a a1 a2 => hf3 a (by omega) (by omega) (by omega))), zIv_g hI hNN hI.2.2.2.2.1⟩
theorem zk20 {x : zXs} {F : zF} (hF : zSh F) {d : Nat} {V : Nat → Nat → Int32} {T : Nat → Nat → Int64} {Q : Option Value → zG → Prop} (hL : x.1 ≤ 3072) {p : Nat} (hp : p + 6 ≤ x.1) (hr : zRel V) (k : ∀ V2 T2, zRel V2 → E x F (d + 61) 211 1247 [some (.double 50), some (.ref 0), some (.ref 59), some (.int (Int32.ofInt ((p:Int))))] [] (V2, T2) Q) : E x F (d + 61) 211 823 [some (.double 50), some (.ref 0), some (.ref 59), some (.int (Int32.ofInt ((p:Int))))] [] (V, T) Q := by
  obtain ⟨K, S, N, w, b, n, H, im, I, hC, hM, hI⟩ := hr
  obtain ⟨z1, e1, r1⟩ := zScr x (p + 1)
  obtain ⟨z2, e2, r2⟩ := zScr x (p + 2)
  obtain ⟨z3, e3, r3⟩ := zScr x (p + 3)
  apply b211_823 hF hL (i1 := p + 1) (by rw [zI_add]; exact zI_nat (p + 1)) (by omega) (i2 := p + 2) (by rw [zI_add]; exact zI_nat (p + 2)) (by omega) (i3 := p + 3) (by rw [zI_add]; exact zI_nat (p + 3)) (by omega)
  rw [e1, e2, e3]
  refine s111 hF hC.1 hI.1 hC.2.1 hI.2.1 hC.2.2.2.1 r1 r2 r3 ?_
  intro V2 hH2 hf2
  have hM := zRM_c hM (fun a ha => hf2 a (by omega) (by omega) (by omega) (by omega) (by omega))
  have hC2 := zRC_g hC (fun a ha => hf2 a (by omega) (by omega) (by omega) (by omega) (by omega)) (zRu_fr hC.2.1 (fun a ha => hf2 a (by omega) (by omega) (by omega) (by omega) (by omega))) (zTc_fr hC.2.2.1 (hf2 45 (by omega) (by omega) (by omega) (by omega) (by omega)) (hf2 46 (by omega) (by omega) (by omega) (by omega) (by omega))) hH2
  apply b211_842 hF hL (i1 := p + 1) (by rw [zI_add]; exact zI_nat (p + 1)) (by omega) (i2 := p + 2) (by rw [zI_add]; exact zI_nat (p + 2)) (by omega) (i3 := p + 3) (by rw [zI_add]; exact zI_nat (p + 3)) (by omega)
  rw [e1, e2, e3]
  have hW2 := zWf_re hI.1 hI.2.2.2.1
  have hRd := zRd_of (x := x) hF hM.2.1 hC.2.1
  have hru2 : yRe K S 5 2 < N := by rw [yRe_n (by omega)]; exact hI.2.1
  have hn2 : yRe K S 5 1 ≤ 999 := by rw [yRe_n (by omega)]; exact hI.2.2.1
  refine s198 hF hM.1 hW2 hRd hru2 hI.2.2.2.2.1 hM.2.2.2.2.1 r1 r2 r3 ?_
  intro V3 T3 hS3 hH3 hf3
  rw [yRe_film.1] at hH3
  rw [(yRe_film (w := w) (H := H)).2]
  apply b211_861 hF
  rotate_left
  · intro c; exact absurd rfl c
  intro _
  exact k V3 T3 ⟨K, S, N, w, b, n, _, im, I, zRC_m hC2 (fun a ha => hf3.1 a (by omega) (by omega)), zRM_g hM hS3 (fun a a1 a2 => hf3.1 a (by omega) (by omega)) (fun j a1 a2 => hf3.2 j (by omega)) (zRt_fr hM.2.1 (hf3.1 60 (by omega) (by omega)) (hf3.1 61 (by omega) (by omega))) (by rw [hf3.2 3 (by omega)]; exact hM.2.2.1) (zTm_fr hM.2.2.2.1 (hf3.2 6 (by omega)) (hf3.1 62 (by omega) (by omega))) hH3, zIv_g hI (Nat.le_refl _) (yFilm_w hI.2.2.2.2.1 hI.1 z1 z2 z3)⟩
theorem zk23 {x : zXs} {F : zF} (hF : zSh F) {d : Nat} {V : Nat → Nat → Int32} {T : Nat → Nat → Int64} {Q : Option Value → zG → Prop} (hL : x.1 ≤ 3072) {p : Nat} (hp : p + 6 ≤ x.1) (hr : zRel V) (k : ∀ V2 T2, zRel V2 → E x F (d + 61) 211 1247 [some (.double 50), some (.ref 0), some (.ref 59), some (.int (Int32.ofInt ((p:Int))))] [] (V2, T2) Q) : E x F (d + 61) 211 963 [some (.double 50), some (.ref 0), some (.ref 59), some (.int (Int32.ofInt ((p:Int))))] [] (V, T) Q := by
  obtain ⟨K, S, N, w, b, n, H, im, I, hC, hM, hI⟩ := hr
  apply b211_963 hF
  refine s119 hF hC.1 hI.1 ?_
  intro V2 hI2 h08 hf2
  have hM := zRM_c hM (fun a ha => hf2 a (by omega) (by omega))
  have hC2 : zRC V2 S N w b n H True S := ⟨zCS_fg hC.1 (fun a a1 a2 => hf2 a (by omega) (by omega)), zRu_fr hC.2.1 (fun a ha => hf2 a (by omega) (by omega)), zTc_fr hC.2.2.1 (hf2 45 (by omega) (by omega)) (hf2 46 (by omega) (by omega)), zHc_fr hC.2.2.2.1 (fun a a1 a2 => hf2 a (by omega) (by omega)), hI2, ⟨fun _ => by rw [h08]; decide, fun _ => trivial⟩⟩
  apply b211_967 hF
  have hW2 := zWf_re hI.1 hI.2.2.2.1
  refine s203 hF hM.1 hW2 ?_
  intro V3 hK3 hf3 hj3
  rw [yRe_n (K := K) (S := S) (f := 5) (by omega)]
  have hK4 : zKp V3 S := by
    unfold zKp at hK3 ⊢
    rw [yRe_n (K := K) (S := S) (f := 0) (by omega), yRe_n (K := K) (S := S) (f := 1) (by omega), yRe_n (K := K) (S := S) (f := 3) (by omega), yRe_n (K := K) (S := S) (f := 4) (by omega), yRe_n (K := K) (S := S) (f := 5) (by omega)] at hK3
    exact hK3
  have h5 := hI.1.2.2.1
  apply b211_971 hF
  rotate_left
  · intro c; exact absurd rfl c
  intro _
  refine k V3 T ⟨K, S, N, w, b, n, H, True, S, zRC_m hC2 (fun a ha => hf3 a (by omega) (by omega) (by omega) (by omega)), ⟨zMS_fg hM.1 (fun a a1 a2 => hf3 a (by omega) (by omega) (by omega) (by omega)) (fun j hj => hj3 j (by omega)), zRt_fr hM.2.1 (hf3 60 (by omega) (by omega) (by omega) (by omega)) (hf3 61 (by omega) (by omega) (by omega) (by omega)), by rw [hj3 3 (by omega)]; exact hM.2.2.1, zTm_fr hM.2.2.2.1 (hj3 6 (by omega)) (hf3 62 (by omega) (by omega) (by omega) (by omega)), zHm_fr hM.2.2.2.2.1 (fun a a1 a2 => hf3 a (by omega) (by omega) (by omega) (by omega)), fun _ => hK4, ⟨fun _ => ?_, fun _ => trivial⟩⟩, hI.1, hI.2.1, hI.2.2.1, hI.2.2.2.1, hI.2.2.2.2.1, fun _ => ⟨hI.1, hI.2.1, hI.2.2.1, yMn_rfl S⟩⟩
  rw [hK4.2.2.1, zI_eq (by omega) (by omega)]
  omega
theorem zk24 {x : zXs} {F : zF} (hF : zSh F) {d : Nat} {V : Nat → Nat → Int32} {T : Nat → Nat → Int64} {Q : Option Value → zG → Prop} (hL : x.1 ≤ 3072) {p : Nat} (hp : p + 6 ≤ x.1) (hr : zRel V) (k : ∀ V2 T2, zRel V2 → E x F (d + 61) 211 1247 [some (.double 50), some (.ref 0), some (.ref 59), some (.int (Int32.ofInt ((p:Int))))] [] (V2, T2) Q) : E x F (d + 61) 211 976 [some (.double 50), some (.ref 0), some (.ref 59), some (.int (Int32.ofInt ((p:Int))))] [] (V, T) Q := by
  obtain ⟨K, S, N, w, b, n, H, im, I, hC, hM, hI⟩ := hr
  apply b211_976 hF
  have hW2 := zWf_re hI.1 hI.2.2.2.1
  have hiff : (¬ V 0 8 = 0) ↔ ¬ V 59 40 = Int32.ofInt (-1) := hC.2.2.2.2.2.symm.trans hM.2.2.2.2.2.2
  refine s120 hF hC.2.2.2.2.1 ?_ ?_
  · intro c
    apply b211_980 hF
    refine s204 hF (I := I) hM.1 ?_ ?_ (fun c2 => hM.2.2.2.2.2.1 (hM.2.2.2.2.2.2.mpr c2))
    · intro _
      apply b211_984 hF
      rotate_left
      · intro c; exact absurd rfl c
      intro _
      exact k V T ⟨K, S, N, w, b, n, H, im, I, hC, hM, hI⟩
    · intro c2
      exact absurd c (hiff.mpr c2)
  · intro c V2 hS2 hf2
    have hM2 := zRM_c hM (fun a ha => hf2 a (by omega))
    have hi : im := hC.2.2.2.2.2.mpr c
    obtain ⟨i1, i2, i3, i4⟩ := hI.2.2.2.2.2 hi
    apply b211_980 hF
    refine s204 hF (I := I) hM2.1 ?_ ?_ (fun c2 => hM2.2.2.2.2.2.1 hi)
    · intro c2
      exact absurd c2 (hM2.2.2.2.2.2.2.mp hi)
    · intro _ _ V3 hS3 hf3
      apply b211_984 hF
      rotate_left
      · intro c; exact absurd rfl c
      intro _
      have hb : yBk (yRe K S) I = yRe (fun i => yRe K S 2 i) (fun f i => if f < 2 ∧ i = 4 then yRe K S f i else I f i) := by
        funext f i
        unfold yBk
        by_cases c2 : f = 2
        · subst c2
          rw [if_pos rfl]
          by_cases c3 : I 5 0 ≤ i
          · exact (if_pos ⟨rfl, c3⟩).symm
          · have e : yRe K S 2 i = I 2 i := by
              rw [yRe_2 (by have := i4.1; omega), i4.2 i (by omega)]
            rw [e]
            show I 2 i = if 2 = 2 ∧ I 5 0 ≤ i then yRe K S 2 i else if 2 < 2 ∧ i = 4 then yRe K S 2 i else I 2 i
            rw [if_neg (fun c => c3 c.2), if_neg (by omega)]
        · rw [if_neg c2]
          exact (congrFun (yRe_n (K := fun i => yRe K S 2 i) (S := fun f i => if f < 2 ∧ i = 4 then yRe K S f i else I f i) c2) i).symm
      rw [hb] at hS3
      have hC3 := zRC_m (zRC_st hC (fun a a1 _ _ _ _ _ _ => hf2 a a1) (S2 := fun f i => if f < 2 ∧ i = 4 then yRe K S f i else I f i) (by
        obtain ⟨q1, q2, q3, q4, q5, q6⟩ := hS2
        refine ⟨fun i hi => ?_, fun i hi => ?_, q3, q4, q5, q6⟩
        · show _ = Int32.ofInt ((if 0 < 2 ∧ i = 4 then yRe K S 0 i else I 0 i : Nat) : Int)
          rw [if_neg (by omega)]; exact q1 i hi
        · show _ = Int32.ofInt ((if 1 < 2 ∧ i = 4 then yRe K S 1 i else I 1 i : Nat) : Int)
          rw [if_neg (by omega)]; exact q2 i hi)) (V2 := V3) (fun a ha => hf3.1 a (by omega) (by omega))
      refine k V3 T ⟨_, _, N, w, b, n, H, im, I, hC3, zRM_st hM2 hf3 hS3, ⟨?_, i2, i3, fun i hi => (hW2.2.1 i hi).1, hI.2.2.2.2.1, fun _ => ⟨i1, i2, i3, Nat.le_refl _, fun _ _ => rfl⟩⟩⟩
      obtain ⟨q1, q2, q3⟩ := i1
      refine ⟨fun i hi => ?_, q2, q3⟩
      show (if 0 < 2 ∧ i = 4 then yRe K S 0 i else I 0 i) ≤ 24 ∧ (if 1 < 2 ∧ i = 4 then yRe K S 1 i else I 1 i) < 2 ^ (if 0 < 2 ∧ i = 4 then yRe K S 0 i else I 0 i)
      rw [if_neg (by omega), if_neg (by omega)]
      exact q1 i hi
theorem zk26 {x : zXs} {F : zF} (hF : zSh F) {d : Nat} {V : Nat → Nat → Int32} {T : Nat → Nat → Int64} {Q : Option Value → zG → Prop} (hL : x.1 ≤ 3072) {p : Nat} (hp : p + 6 ≤ x.1) (hr : zRel V) (k : ∀ V2 T2, zRel V2 → E x F (d + 61) 211 1247 [some (.double 50), some (.ref 0), some (.ref 59), some (.int (Int32.ofInt ((p:Int))))] [] (V2, T2) Q) : E x F (d + 61) 211 1012 [some (.double 50), some (.ref 0), some (.ref 59), some (.int (Int32.ofInt ((p:Int))))] [] (V, T) Q := by
  obtain ⟨K, S, N, w, b, n, H, im, I, hC, hM, hI⟩ := hr
  obtain ⟨z1, e1, r1⟩ := zScr x (p + 1)
  obtain ⟨z2, e2, r2⟩ := zScr x (p + 2)
  obtain ⟨z3, e3, r3⟩ := zScr x (p + 3)
  apply b211_1012 hF hL (i1 := p + 1) (by rw [zI_add]; exact zI_nat (p + 1)) (by omega) (i2 := p + 2) (by rw [zI_add]; exact zI_nat (p + 2)) (by omega) (i3 := p + 3) (by rw [zI_add]; exact zI_nat (p + 3)) (by omega)
  rw [e1, e2, e3]
  refine s122 hF hC.2.2.2.1 r1 r2 r3 ?_
  intro V2 hH2 hf2
  have hM := zRM_c hM (fun a ha => hf2 a (by omega))
  have hC2 := zRC_g hC (fun a ha => hf2 a (by omega)) (zRu_fr hC.2.1 (fun a ha => hf2 a (by omega))) (zTc_fr hC.2.2.1 (hf2 45 (by omega)) (hf2 46 (by omega))) hH2
  apply b211_1031 hF hL (i1 := p + 1) (by rw [zI_add]; exact zI_nat (p + 1)) (by omega) (i2 := p + 2) (by rw [zI_add]; exact zI_nat (p + 2)) (by omega) (i3 := p + 3) (by rw [zI_add]; exact zI_nat (p + 3)) (by omega)
  rw [e1, e2, e3]
  refine s199 hF hI.2.2.2.2.1 hM.2.2.2.2.1 r1 r2 r3 ?_
  intro V3 hH3 hf3
  apply b211_1050 hF
  rotate_left
  · intro c; exact absurd rfl c
  intro _
  exact k V3 T ⟨K, S, N, w, b, n, _, im, I, zRC_m hC2 (fun a ha => hf3 a (by omega)), zRM_g hM (zMS_fg hM.1 (fun a a1 a2 => hf3 a (by omega)) (fun j hj => by rw [hf3 59 (by omega)])) (fun a a1 a2 => hf3 a (by omega)) (fun j a1 a2 => by rw [hf3 59 (by omega)]) (zRt_fr hM.2.1 (hf3 60 (by omega)) (hf3 61 (by omega))) (by rw [hf3 59 (by omega)]; exact hM.2.2.1) (zTm_fr hM.2.2.2.1 (by rw [hf3 59 (by omega)]) (hf3 62 (by omega))) hH3, zIv_g hI (Nat.le_refl _) (ySheet_w hI.2.2.2.2.1 z1 z2 z3)⟩
theorem zk27 {x : zXs} {F : zF} (hF : zSh F) {d : Nat} {V : Nat → Nat → Int32} {T : Nat → Nat → Int64} {Q : Option Value → zG → Prop} (hL : x.1 ≤ 3072) {p : Nat} (hp : p + 6 ≤ x.1) (hr : zRel V) (k : ∀ V2 T2, zRel V2 → E x F (d + 61) 211 1247 [some (.double 50), some (.ref 0), some (.ref 59), some (.int (Int32.ofInt ((p:Int))))] [] (V2, T2) Q) : E x F (d + 61) 211 1055 [some (.double 50), some (.ref 0), some (.ref 59), some (.int (Int32.ofInt ((p:Int))))] [] (V, T) Q := by
  obtain ⟨K, S, N, w, b, n, H, im, I, hC, hM, hI⟩ := hr
  obtain ⟨z1, e1, r1⟩ := zScr x (p + 1)
  obtain ⟨z2, e2, r2⟩ := zScr x (p + 2)
  obtain ⟨z3, e3, r3⟩ := zScr x (p + 3)
  apply b211_1055 hF hL (i1 := p + 1) (by rw [zI_add]; exact zI_nat (p + 1)) (by omega) (i2 := p + 2) (by rw [zI_add]; exact zI_nat (p + 2)) (by omega) (i3 := p + 3) (by rw [zI_add]; exact zI_nat (p + 3)) (by omega)
  rw [e1, e2]
  refine s123 hF hI.2.2.2.2.1 hC.2.2.2.1 r1 r2 ?_
  intro V2 hH2 hf2
  have hM := zRM_c hM (fun a ha => hf2 a (by omega))
  have hC2 := zRC_g hC (fun a ha => hf2 a (by omega)) (zRu_fr hC.2.1 (fun a ha => hf2 a (by omega))) (zTc_fr hC.2.2.1 (hf2 45 (by omega)) (hf2 46 (by omega))) hH2
  apply b211_1074 hF hL (i1 := p + 1) (by rw [zI_add]; exact zI_nat (p + 1)) (by omega) (i2 := p + 2) (by rw [zI_add]; exact zI_nat (p + 2)) (by omega) (i3 := p + 3) (by rw [zI_add]; exact zI_nat (p + 3)) (by omega)
  rw [e1, e2]
  refine s206 hF hI.2.2.2.2.1 hM.2.2.2.2.1 r1 r2 ?_
  intro V3 hH3 hf3
  apply b211_1093 hF
  rotate_left
  · intro c; exact absurd rfl c
  intro _
  exact k V3 T ⟨K, S, N, w, b, n, _, im, I, zRC_m hC2 (fun a ha => hf3 a (by omega)), zRM_g hM (zMS_fg hM.1 (fun a a1 a2 => hf3 a (by omega)) (fun j hj => by rw [hf3 59 (by omega)])) (fun a a1 a2 => hf3 a (by omega)) (fun j a1 a2 => by rw [hf3 59 (by omega)]) (zRt_fr hM.2.1 (hf3 60 (by omega)) (hf3 61 (by omega))) (by rw [hf3 59 (by omega)]; exact hM.2.2.1) (zTm_fr hM.2.2.2.1 (by rw [hf3 59 (by omega)]) (hf3 62 (by omega))) hH3, zIv_g hI (Nat.le_refl _) (yCell_w hI.2.2.2.2.1 z1 z2 _)⟩
theorem zk28 {x : zXs} {F : zF} (hF : zSh F) {d : Nat} {V : Nat → Nat → Int32} {T : Nat → Nat → Int64} {Q : Option Value → zG → Prop} (hL : x.1 ≤ 3072) {p : Nat} (hp : p + 6 ≤ x.1) (hr : zRel V) (k : ∀ V2 T2, zRel V2 → E x F (d + 61) 211 1247 [some (.double 50), some (.ref 0), some (.ref 59), some (.int (Int32.ofInt ((p:Int))))] [] (V2, T2) Q) : E x F (d + 61) 211 1098 [some (.double 50), some (.ref 0), some (.ref 59), some (.int (Int32.ofInt ((p:Int))))] [] (V, T) Q := by
  obtain ⟨K, S, N, w, b, n, H, im, I, hC, hM, hI⟩ := hr
  obtain ⟨z1, e1, r1⟩ := zScr x (p + 1)
  obtain ⟨z2, e2, r2⟩ := zScr x (p + 2)
  obtain ⟨z3, e3, r3⟩ := zScr x (p + 3)
  obtain ⟨z4, e4, r4⟩ := zScr x (p + 4)
  obtain ⟨z5, e5, r5⟩ := zScr x (p + 5)
  apply b211_1098 hF hL (i1 := p + 1) (by rw [zI_add]; exact zI_nat (p + 1)) (by omega) (i2 := p + 2) (by rw [zI_add]; exact zI_nat (p + 2)) (by omega) (i3 := p + 3) (by rw [zI_add]; exact zI_nat (p + 3)) (by omega) (i4 := p + 4) (by rw [zI_add]; exact zI_nat (p + 4)) (by omega) (i5 := p + 5) (by rw [zI_add]; exact zI_nat (p + 5)) (by omega)
  rw [e1, e2, e3, e4, e5]
  refine s124 hF hI.2.2.2.2.1 hC.2.2.2.1 r1 r2 r3 r4 r5 ?_
  intro V2 hH2 hf2
  have hM := zRM_c hM (fun a ha => hf2 a (by omega))
  have hC2 := zRC_g hC (fun a ha => hf2 a (by omega)) (zRu_fr hC.2.1 (fun a ha => hf2 a (by omega))) (zTc_fr hC.2.2.1 (hf2 45 (by omega)) (hf2 46 (by omega))) hH2
  apply b211_1127 hF hL (i1 := p + 1) (by rw [zI_add]; exact zI_nat (p + 1)) (by omega) (i2 := p + 2) (by rw [zI_add]; exact zI_nat (p + 2)) (by omega) (i3 := p + 3) (by rw [zI_add]; exact zI_nat (p + 3)) (by omega) (i4 := p + 4) (by rw [zI_add]; exact zI_nat (p + 4)) (by omega) (i5 := p + 5) (by rw [zI_add]; exact zI_nat (p + 5)) (by omega)
  rw [e1, e2, e3, e4, e5]
  refine s207 hF hI.2.2.2.2.1 hM.2.2.2.2.1 r1 r2 r3 r4 r5 ?_
  intro V3 hH3 hf3
  apply b211_1156 hF
  rotate_left
  · intro c; exact absurd rfl c
  intro _
  exact k V3 T ⟨K, S, N, w, b, n, _, im, I, zRC_m hC2 (fun a ha => hf3 a (by omega)), zRM_g hM (zMS_fg hM.1 (fun a a1 a2 => hf3 a (by omega)) (fun j hj => by rw [hf3 59 (by omega)])) (fun a a1 a2 => hf3 a (by omega)) (fun j a1 a2 => by rw [hf3 59 (by omega)]) (zRt_fr hM.2.1 (hf3 60 (by omega)) (hf3 61 (by omega))) (by rw [hf3 59 (by omega)]; exact hM.2.2.1) (zTm_fr hM.2.2.2.1 (by rw [hf3 59 (by omega)]) (hf3 62 (by omega))) hH3, zIv_g hI (Nat.le_refl _) (yCopy_w hI.2.2.2.2.1 z1 z2 z3 z4 z5)⟩
