/-! Each call on both sides, one behind the other -/
theorem zk0 {x : zXs} {F : zF} (hF : zSh F) {d : Nat} {V : Nat → Nat → Int32} {T : Nat → Nat → Int64} {Q : Option Value → zG → Prop} (hL : x.1 ≤ 3072) {p : Nat} (hp : p + 6 ≤ x.1) (hr : zRel V) (k : ∀ V2 T2, zRel V2 → E x F (d + 61) 211 1247 [some (.double 50), some (.ref 0), some (.ref 59), some (.int (Int32.ofInt ((p:Int))))] [] (V2, T2) Q) : E x F (d + 61) 211 172 [some (.double 50), some (.ref 0), some (.ref 59), some (.int (Int32.ofInt ((p:Int))))] [] (V, T) Q := by
  obtain ⟨K, S, N, w, b, n, H, im, I, hC, hM, hI⟩ := hr
  obtain ⟨z1, e1, r1⟩ := zScr x (p + 1)
  obtain ⟨z2, e2, r2⟩ := zScr x (p + 2)
  obtain ⟨z3, e3, r3⟩ := zScr x (p + 3)
  apply b211_172 hF hL (i1 := p + 1) (by rw [zI_add]; exact zI_nat (p + 1)) (by omega) (i2 := p + 2) (by rw [zI_add]; exact zI_nat (p + 2)) (by omega) (i3 := p + 3) (by rw [zI_add]; exact zI_nat (p + 3)) (by omega)
  rw [e1, e2, e3]
  refine s11 hF hC.1 hI.1 r1 r2 r3 ?_
  intro V2 hS2 hf2
  have hM := zRM_c hM (fun a ha => hf2 a (by omega) (by omega) (by omega) (by omega) (by omega) (by omega) (by omega))
  have hC2 := zRC_st hC hf2 hS2
  have hRd := zRd_of (x := x) hF hM.2.1 hC2.2.1
  apply b211_191 hF hL (i1 := p + 1) (by rw [zI_add]; exact zI_nat (p + 1)) (by omega) (i2 := p + 2) (by rw [zI_add]; exact zI_nat (p + 2)) (by omega) (i3 := p + 3) (by rw [zI_add]; exact zI_nat (p + 3)) (by omega)
  rw [e1, e2, e3]
  have hW2 := zWf_re hI.1 hI.2.2.2.1
  have hru2 : yRe K S 5 2 < N := by rw [yRe_n (by omega)]; exact hI.2.1
  have hn2 : yRe K S 5 1 ≤ 999 := by rw [yRe_n (by omega)]; exact hI.2.2.1
  refine s130 hF hM.1 hW2 r1 r2 r3 ?_
  intro V3 hS3 hf3
  rw [yRe_lay.1] at hS3
  rw [yRe_lay.2.1]
  apply b211_210 hF
  rotate_left
  · intro c; exact absurd rfl c
  intro _
  exact k V3 T ⟨K, _, N, w, b, n, H, im, I, zRC_m hC2 (fun a ha => hf3.1 a (by omega) (by omega)), zRM_st hM hf3 hS3, zIv_st hI (yLay_wf hI.1 z1 z2 z3) (by rw [zLay_5]; exact hI.2.1) (by rw [zLay_5]; exact hI.2.2.1) (yRe_lay (K := K)).2.2⟩
theorem zk1 {x : zXs} {F : zF} (hF : zSh F) {d : Nat} {V : Nat → Nat → Int32} {T : Nat → Nat → Int64} {Q : Option Value → zG → Prop} (hL : x.1 ≤ 3072) {p : Nat} (hp : p + 6 ≤ x.1) (hr : zRel V) (k : ∀ V2 T2, zRel V2 → E x F (d + 61) 211 1247 [some (.double 50), some (.ref 0), some (.ref 59), some (.int (Int32.ofInt ((p:Int))))] [] (V2, T2) Q) : E x F (d + 61) 211 215 [some (.double 50), some (.ref 0), some (.ref 59), some (.int (Int32.ofInt ((p:Int))))] [] (V, T) Q := by
  obtain ⟨K, S, N, w, b, n, H, im, I, hC, hM, hI⟩ := hr
  obtain ⟨z1, e1, r1⟩ := zScr x (p + 1)
  obtain ⟨z2, e2, r2⟩ := zScr x (p + 2)
  obtain ⟨z3, e3, r3⟩ := zScr x (p + 3)
  apply b211_215 hF hL (i1 := p + 1) (by rw [zI_add]; exact zI_nat (p + 1)) (by omega) (i2 := p + 2) (by rw [zI_add]; exact zI_nat (p + 2)) (by omega) (i3 := p + 3) (by rw [zI_add]; exact zI_nat (p + 3)) (by omega)
  rw [e1, e2, e3]
  refine s16 hF hC.1 hI.1 r1 r2 r3 ?_
  intro V2 hS2 hf2
  have hM := zRM_c hM (fun a ha => hf2 a (by omega) (by omega) (by omega) (by omega) (by omega) (by omega) (by omega))
  have hC2 := zRC_st hC hf2 hS2
  have hRd := zRd_of (x := x) hF hM.2.1 hC2.2.1
  apply b211_234 hF hL (i1 := p + 1) (by rw [zI_add]; exact zI_nat (p + 1)) (by omega) (i2 := p + 2) (by rw [zI_add]; exact zI_nat (p + 2)) (by omega) (i3 := p + 3) (by rw [zI_add]; exact zI_nat (p + 3)) (by omega)
  rw [e1, e2, e3]
  have hW2 := zWf_re hI.1 hI.2.2.2.1
  have hru2 : yRe K S 5 2 < N := by rw [yRe_n (by omega)]; exact hI.2.1
  have hn2 : yRe K S 5 1 ≤ 999 := by rw [yRe_n (by omega)]; exact hI.2.2.1
  refine s135 hF hM.1 hW2 hRd hru2 r1 r2 r3 ?_
  intro V3 T3 hS3 hf3
  rw [yRe_set.1] at hS3
  rw [yRe_set.2.1]
  apply b211_253 hF
  rotate_left
  · intro c; exact absurd rfl c
  intro _
  exact k V3 T3 ⟨K, _, N, w, b, n, H, im, I, zRC_m hC2 (fun a ha => hf3.1 a (by omega) (by omega)), zRM_st hM hf3 hS3, zIv_st hI (ySet_wf hI.1 z1 z2 z3) (by rw [zSet_5.1]; exact hI.2.1) (zSet_5.2 hI.2.2.1) (yRe_set (K := K)).2.2⟩
theorem zk2 {x : zXs} {F : zF} (hF : zSh F) {d : Nat} {V : Nat → Nat → Int32} {T : Nat → Nat → Int64} {Q : Option Value → zG → Prop} (hL : x.1 ≤ 3072) {p : Nat} (hp : p + 6 ≤ x.1) (hr : zRel V) (k : ∀ V2 T2, zRel V2 → E x F (d + 61) 211 1247 [some (.double 50), some (.ref 0), some (.ref 59), some (.int (Int32.ofInt ((p:Int))))] [] (V2, T2) Q) : E x F (d + 61) 211 258 [some (.double 50), some (.ref 0), some (.ref 59), some (.int (Int32.ofInt ((p:Int))))] [] (V, T) Q := by
  obtain ⟨K, S, N, w, b, n, H, im, I, hC, hM, hI⟩ := hr
  obtain ⟨z1, e1, r1⟩ := zScr x (p + 1)
  obtain ⟨z2, e2, r2⟩ := zScr x (p + 2)
  apply b211_258 hF hL (i1 := p + 1) (by rw [zI_add]; exact zI_nat (p + 1)) (by omega) (i2 := p + 2) (by rw [zI_add]; exact zI_nat (p + 2)) (by omega)
  rw [e1, e2]
  refine s20 hF hC.1 hI.1 r1 r2 ?_
  intro V2 hS2 hf2
  have hM := zRM_c hM (fun a ha => hf2 a (by omega) (by omega) (by omega) (by omega) (by omega) (by omega) (by omega))
  have hC2 := zRC_st hC hf2 hS2
  have hRd := zRd_of (x := x) hF hM.2.1 hC2.2.1
  apply b211_272 hF hL (i1 := p + 1) (by rw [zI_add]; exact zI_nat (p + 1)) (by omega) (i2 := p + 2) (by rw [zI_add]; exact zI_nat (p + 2)) (by omega)
  rw [e1, e2]
  have hW2 := zWf_re hI.1 hI.2.2.2.1
  have hru2 : yRe K S 5 2 < N := by rw [yRe_n (by omega)]; exact hI.2.1
  have hn2 : yRe K S 5 1 ≤ 999 := by rw [yRe_n (by omega)]; exact hI.2.2.1
  refine s163 hF hM.1 hW2 r1 r2 ?_
  intro V3 hS3 hf3
  rw [yRe_com.1] at hS3
  rw [yRe_com.2.1]
  apply b211_286 hF
  rotate_left
  · intro c; exact absurd rfl c
  intro _
  exact k V3 T ⟨K, _, N, w, b, n, H, im, I, zRC_m hC2 (fun a ha => hf3.1 a (by omega) (by omega)), zRM_st hM hf3 hS3, zIv_st hI (yCom_wf hI.1 z1 z2) (by rw [zCom_5.1]; exact hI.2.1) (by rw [zCom_5.2]; exact hI.2.2.1) (yRe_com (K := K)).2.2⟩
theorem zk3 {x : zXs} {F : zF} (hF : zSh F) {d : Nat} {V : Nat → Nat → Int32} {T : Nat → Nat → Int64} {Q : Option Value → zG → Prop} (hL : x.1 ≤ 3072) {p : Nat} (hp : p + 6 ≤ x.1) (hr : zRel V) (k : ∀ V2 T2, zRel V2 → E x F (d + 61) 211 1247 [some (.double 50), some (.ref 0), some (.ref 59), some (.int (Int32.ofInt ((p:Int))))] [] (V2, T2) Q) : E x F (d + 61) 211 291 [some (.double 50), some (.ref 0), some (.ref 59), some (.int (Int32.ofInt ((p:Int))))] [] (V, T) Q := by
  obtain ⟨K, S, N, w, b, n, H, im, I, hC, hM, hI⟩ := hr
  obtain ⟨z1, e1, r1⟩ := zScr x (p + 1)
  obtain ⟨z2, e2, r2⟩ := zScr x (p + 2)
  apply b211_291 hF hL (i1 := p + 1) (by rw [zI_add]; exact zI_nat (p + 1)) (by omega) (i2 := p + 2) (by rw [zI_add]; exact zI_nat (p + 2)) (by omega)
  rw [e1, e2]
  refine s22 hF hC.1 hI.1 hC.2.1 hI.2.1 r1 r2 ?_
  intro V2 hf2
  have hf2 : zFt V V2 := fun a _ _ a2 a3 _ _ _ => hf2 a a2 a3
  have hM := zRM_c hM (fun a ha => hf2 a (by omega) (by omega) (by omega) (by omega) (by omega) (by omega) (by omega))
  have hC := zRC_fr hC hf2
  apply b211_305 hF hL (i1 := p + 1) (by rw [zI_add]; exact zI_nat (p + 1)) (by omega) (i2 := p + 2) (by rw [zI_add]; exact zI_nat (p + 2)) (by omega)
  rw [e1, e2]
  have hW2 := zWf_re hI.1 hI.2.2.2.1
  have hRd := zRd_of (x := x) hF hM.2.1 hC.2.1
  have hru2 : yRe K S 5 2 < N := by rw [yRe_n (by omega)]; exact hI.2.1
  have hn2 : yRe K S 5 1 ≤ 999 := by rw [yRe_n (by omega)]; exact hI.2.2.1
  refine s138 hF hM.1 hW2 hRd hru2 r1 r2 ?_
  intro V3 T3 hS3 hf3
  have hf3 := yFr_fq hf3
  rw [yRe_told]
  apply b211_319 hF
  rotate_left
  · intro c; exact absurd rfl c
  intro _
  exact k V3 T3 ⟨K, S, N, w, b, n, H, im, I, zRC_m hC (fun a ha => hf3.1 a (by omega) (by omega)), zRM_st hM hf3 hS3, hI⟩
theorem zk4 {x : zXs} {F : zF} (hF : zSh F) {d : Nat} {V : Nat → Nat → Int32} {T : Nat → Nat → Int64} {Q : Option Value → zG → Prop} (hL : x.1 ≤ 3072) {p : Nat} (hp : p + 6 ≤ x.1) (hr : zRel V) (k : ∀ V2 T2, zRel V2 → E x F (d + 61) 211 1247 [some (.double 50), some (.ref 0), some (.ref 59), some (.int (Int32.ofInt ((p:Int))))] [] (V2, T2) Q) : E x F (d + 61) 211 324 [some (.double 50), some (.ref 0), some (.ref 59), some (.int (Int32.ofInt ((p:Int))))] [] (V, T) Q := by
  obtain ⟨K, S, N, w, b, n, H, im, I, hC, hM, hI⟩ := hr
  obtain ⟨z1, e1, r1⟩ := zScr x (p + 1)
  obtain ⟨z2, e2, r2⟩ := zScr x (p + 2)
  apply b211_324 hF hL (i1 := p + 1) (by rw [zI_add]; exact zI_nat (p + 1)) (by omega) (i2 := p + 2) (by rw [zI_add]; exact zI_nat (p + 2)) (by omega)
  rw [e1, e2]
  refine s36 hF hC.1 hI.1 r1 r2 ?_
  apply b211_338 hF hL (i1 := p + 1) (by rw [zI_add]; exact zI_nat (p + 1)) (by omega) (i2 := p + 2) (by rw [zI_add]; exact zI_nat (p + 2)) (by omega)
  rw [e1, e2]
  have hW2 := zWf_re hI.1 hI.2.2.2.1
  have hRd := zRd_of (x := x) hF hM.2.1 hC.2.1
  have hru2 : yRe K S 5 2 < N := by rw [yRe_n (by omega)]; exact hI.2.1
  have hn2 : yRe K S 5 1 ≤ 999 := by rw [yRe_n (by omega)]; exact hI.2.2.1
  refine s167 hF hM.1 hW2 r1 r2 ?_
  intro V3 hS3 hf3
  have hf3 := yFr_fq hf3
  rw [yRe_run]
  apply b211_352 hF
  rotate_left
  · intro c; exact absurd rfl c
  intro _
  exact k V3 T ⟨K, S, N, w, b, n, H, im, I, zRC_m hC (fun a ha => hf3.1 a (by omega) (by omega)), zRM_st hM hf3 hS3, hI⟩
theorem zk5 {x : zXs} {F : zF} (hF : zSh F) {d : Nat} {V : Nat → Nat → Int32} {T : Nat → Nat → Int64} {Q : Option Value → zG → Prop} (hL : x.1 ≤ 3072) {p : Nat} (hp : p + 6 ≤ x.1) (hr : zRel V) (k : ∀ V2 T2, zRel V2 → E x F (d + 61) 211 1247 [some (.double 50), some (.ref 0), some (.ref 59), some (.int (Int32.ofInt ((p:Int))))] [] (V2, T2) Q) : E x F (d + 61) 211 357 [some (.double 50), some (.ref 0), some (.ref 59), some (.int (Int32.ofInt ((p:Int))))] [] (V, T) Q := by
  obtain ⟨K, S, N, w, b, n, H, im, I, hC, hM, hI⟩ := hr
  obtain ⟨z1, e1, r1⟩ := zScr x (p + 1)
  obtain ⟨z2, e2, r2⟩ := zScr x (p + 2)
  apply b211_357 hF hL (i1 := p + 1) (by rw [zI_add]; exact zI_nat (p + 1)) (by omega) (i2 := p + 2) (by rw [zI_add]; exact zI_nat (p + 2)) (by omega)
  rw [e1, e2]
  refine s37 hF hC.1 hI.1 hC.2.1 hI.2.1 r1 r2 ?_
  intro V2 hf2
  have hf2 : zFt V V2 := fun a _ _ a2 a3 _ _ _ => hf2 a a2 a3
  have hM := zRM_c hM (fun a ha => hf2 a (by omega) (by omega) (by omega) (by omega) (by omega) (by omega) (by omega))
  have hC := zRC_fr hC hf2
  apply b211_371 hF hL (i1 := p + 1) (by rw [zI_add]; exact zI_nat (p + 1)) (by omega) (i2 := p + 2) (by rw [zI_add]; exact zI_nat (p + 2)) (by omega)
  rw [e1, e2]
  have hW2 := zWf_re hI.1 hI.2.2.2.1
  have hRd := zRd_of (x := x) hF hM.2.1 hC.2.1
  have hru2 : yRe K S 5 2 < N := by rw [yRe_n (by omega)]; exact hI.2.1
  have hn2 : yRe K S 5 1 ≤ 999 := by rw [yRe_n (by omega)]; exact hI.2.2.1
  refine s168 hF hM.1 hW2 hRd hru2 r1 r2 ?_
  intro V3 T3 hS3 hf3
  have hf3 := yFr_fq hf3
  rw [yRe_asks]
  apply b211_385 hF
  rotate_left
  · intro c; exact absurd rfl c
  intro _
  exact k V3 T3 ⟨K, S, N, w, b, n, H, im, I, zRC_m hC (fun a ha => hf3.1 a (by omega) (by omega)), zRM_st hM hf3 hS3, hI⟩
theorem zk8 {x : zXs} {F : zF} (hF : zSh F) {d : Nat} {V : Nat → Nat → Int32} {T : Nat → Nat → Int64} {Q : Option Value → zG → Prop} (hL : x.1 ≤ 3072) {p : Nat} (hp : p + 6 ≤ x.1) (hr : zRel V) (k : ∀ V2 T2, zRel V2 → E x F (d + 61) 211 1247 [some (.double 50), some (.ref 0), some (.ref 59), some (.int (Int32.ofInt ((p:Int))))] [] (V2, T2) Q) : E x F (d + 61) 211 426 [some (.double 50), some (.ref 0), some (.ref 59), some (.int (Int32.ofInt ((p:Int))))] [] (V, T) Q := by
  obtain ⟨K, S, N, w, b, n, H, im, I, hC, hM, hI⟩ := hr
  obtain ⟨z1, e1, r1⟩ := zScr x (p + 1)
  apply b211_426 hF hL (i1 := p + 1) (by rw [zI_add]; exact zI_nat (p + 1)) (by omega)
  rw [e1]
  refine s72 hF hC.1 hI.1 hC.2.1.1 hC.2.1.2.2.1 r1 ?_
  intro V2 hS2 hf2
  have hM := zRM_c hM (fun a ha => hf2 a (by omega) (by omega) (by omega) (by omega) (by omega) (by omega) (by omega))
  have hC2 := zRC_st hC hf2 hS2
  have hRd := zRd_of (x := x) hF hM.2.1 hC2.2.1
  apply b211_435 hF hL (i1 := p + 1) (by rw [zI_add]; exact zI_nat (p + 1)) (by omega)
  rw [e1]
  have hW2 := zWf_re hI.1 hI.2.2.2.1
  have hru2 : yRe K S 5 2 < N := by rw [yRe_n (by omega)]; exact hI.2.1
  have hn2 : yRe K S 5 1 ≤ 999 := by rw [yRe_n (by omega)]; exact hI.2.2.1
  refine s166 hF hM.1 hW2 hM.2.2.1 hC.2.1.2.2.1 r1 ?_
  intro V3 hS3 hf3
  rw [yRe_force.1] at hS3
  rw [yRe_force.2.1]
  apply b211_444 hF
  rotate_left
  · intro c; exact absurd rfl c
  intro _
  exact k V3 T ⟨K, _, N, w, b, n, H, im, I, zRC_m hC2 (fun a ha => hf3.1 a (by omega) (by omega)), zRM_st hM hf3 hS3, zIv_st hI (zForce_wf hI.1 hC.2.1.2.2.1) (zForce_5 hI.2.1).2 (by rw [(zForce_5 hI.2.1).1]; exact hI.2.2.1) (yRe_force (K := K)).2.2⟩
theorem zk9 {x : zXs} {F : zF} (hF : zSh F) {d : Nat} {V : Nat → Nat → Int32} {T : Nat → Nat → Int64} {Q : Option Value → zG → Prop} (hL : x.1 ≤ 3072) {p : Nat} (hp : p + 6 ≤ x.1) (hr : zRel V) (k : ∀ V2 T2, zRel V2 → E x F (d + 61) 211 1247 [some (.double 50), some (.ref 0), some (.ref 59), some (.int (Int32.ofInt ((p:Int))))] [] (V2, T2) Q) : E x F (d + 61) 211 449 [some (.double 50), some (.ref 0), some (.ref 59), some (.int (Int32.ofInt ((p:Int))))] [] (V, T) Q := by
  obtain ⟨K, S, N, w, b, n, H, im, I, hC, hM, hI⟩ := hr
  obtain ⟨z1, e1, r1⟩ := zScr x (p + 1)
  obtain ⟨z2, e2, r2⟩ := zScr x (p + 2)
  apply b211_449 hF hL (i1 := p + 1) (by rw [zI_add]; exact zI_nat (p + 1)) (by omega) (i2 := p + 2) (by rw [zI_add]; exact zI_nat (p + 2)) (by omega)
  rw [e1, e2]
  refine s73 hF hC.1 hI.1 hC.2.1 hI.2.1 r1 r2 ?_
  intro V2 hS2 hf2
  have hM := zRM_c hM (fun a ha => hf2 a (by omega) (by omega) (by omega) (by omega) (by omega) (by omega) (by omega))
  have hC2 := zRC_st hC hf2 hS2
  have hRd := zRd_of (x := x) hF hM.2.1 hC2.2.1
  apply b211_463 hF hL (i1 := p + 1) (by rw [zI_add]; exact zI_nat (p + 1)) (by omega) (i2 := p + 2) (by rw [zI_add]; exact zI_nat (p + 2)) (by omega)
  rw [e1, e2]
  have hW2 := zWf_re hI.1 hI.2.2.2.1
  have hru2 : yRe K S 5 2 < N := by rw [yRe_n (by omega)]; exact hI.2.1
  have hn2 : yRe K S 5 1 ≤ 999 := by rw [yRe_n (by omega)]; exact hI.2.2.1
  refine s170 hF hM.1 hW2 hRd hru2 r1 r2 ?_
  intro V3 T3 hS3 hf3
  rw [yRe_gln.1] at hS3
  rw [yRe_gln.2.1]
  apply b211_477 hF
  rotate_left
  · intro c; exact absurd rfl c
  intro _
  exact k V3 T3 ⟨K, _, N, w, b, n, H, im, I, zRC_m hC2 (fun a ha => hf3.1 a (by omega) (by omega)), zRM_st hM hf3 hS3, zIv_st hI (zGln_wf hI.1) (by rw [zGln_5]; exact hI.2.1) (by rw [zGln_5]; exact hI.2.2.1) (yRe_gln (K := K)).2.2⟩
theorem zk10 {x : zXs} {F : zF} (hF : zSh F) {d : Nat} {V : Nat → Nat → Int32} {T : Nat → Nat → Int64} {Q : Option Value → zG → Prop} (hL : x.1 ≤ 3072) {p : Nat} (hp : p + 6 ≤ x.1) (hr : zRel V) (k : ∀ V2 T2, zRel V2 → E x F (d + 61) 211 1247 [some (.double 50), some (.ref 0), some (.ref 59), some (.int (Int32.ofInt ((p:Int))))] [] (V2, T2) Q) : E x F (d + 61) 211 482 [some (.double 50), some (.ref 0), some (.ref 59), some (.int (Int32.ofInt ((p:Int))))] [] (V, T) Q := by
  obtain ⟨K, S, N, w, b, n, H, im, I, hC, hM, hI⟩ := hr
  obtain ⟨z1, e1, r1⟩ := zScr x (p + 1)
  obtain ⟨z2, e2, r2⟩ := zScr x (p + 2)
  apply b211_482 hF hL (i1 := p + 1) (by rw [zI_add]; exact zI_nat (p + 1)) (by omega) (i2 := p + 2) (by rw [zI_add]; exact zI_nat (p + 2)) (by omega)
  rw [e1, e2]
  refine s76 hF hC.1 hI.1 hC.2.1 hI.2.1 r1 r2 ?_
  intro V2 hS2 hf2
  have hM := zRM_c hM (fun a ha => hf2 a (by omega) (by omega) (by omega) (by omega) (by omega) (by omega) (by omega))
  have hC2 := zRC_st hC hf2 hS2
  have hRd := zRd_of (x := x) hF hM.2.1 hC2.2.1
  apply b211_496 hF hL (i1 := p + 1) (by rw [zI_add]; exact zI_nat (p + 1)) (by omega) (i2 := p + 2) (by rw [zI_add]; exact zI_nat (p + 2)) (by omega)
  rw [e1, e2]
  have hW2 := zWf_re hI.1 hI.2.2.2.1
  have hru2 : yRe K S 5 2 < N := by rw [yRe_n (by omega)]; exact hI.2.1
  have hn2 : yRe K S 5 1 ≤ 999 := by rw [yRe_n (by omega)]; exact hI.2.2.1
  refine s173 hF hM.1 hW2 hRd hru2 r1 r2 ?_
  intro V3 T3 hS3 hf3
  rw [yRe_go.1] at hS3
  rw [yRe_go.2.1]
  apply b211_510 hF
  rotate_left
  · intro c; exact absurd rfl c
  intro _
  exact k V3 T3 ⟨K, _, N, w, b, n, H, im, I, zRC_m hC2 (fun a ha => hf3.1 a (by omega) (by omega)), zRM_st hM hf3 hS3, zIv_st hI (yGo_wf hI.1 z1 z2) (by rw [zGo_5]; exact hI.2.1) (by rw [zGo_5]; exact hI.2.2.1) (yRe_go (K := K)).2.2⟩
theorem zk11 {x : zXs} {F : zF} (hF : zSh F) {d : Nat} {V : Nat → Nat → Int32} {T : Nat → Nat → Int64} {Q : Option Value → zG → Prop} (hL : x.1 ≤ 3072) {p : Nat} (hp : p + 6 ≤ x.1) (hr : zRel V) (k : ∀ V2 T2, zRel V2 → E x F (d + 61) 211 1247 [some (.double 50), some (.ref 0), some (.ref 59), some (.int (Int32.ofInt ((p:Int))))] [] (V2, T2) Q) : E x F (d + 61) 211 515 [some (.double 50), some (.ref 0), some (.ref 59), some (.int (Int32.ofInt ((p:Int))))] [] (V, T) Q := by
  obtain ⟨K, S, N, w, b, n, H, im, I, hC, hM, hI⟩ := hr
  apply b211_515 hF
  refine s79 hF hC.1 hI.1 hC.2.1 hI.2.1 hI.2.2.1 ?_
  intro V2 hS2 hf2
  have hM := zRM_c hM (fun a ha => hf2 a (by omega) (by omega) (by omega) (by omega) (by omega) (by omega) (by omega))
  have hC2 := zRC_st hC hf2 hS2
  have hRd := zRd_of (x := x) hF hM.2.1 hC2.2.1
  apply b211_519 hF
  have hW2 := zWf_re hI.1 hI.2.2.2.1
  have hru2 : yRe K S 5 2 < N := by rw [yRe_n (by omega)]; exact hI.2.1
  have hn2 : yRe K S 5 1 ≤ 999 := by rw [yRe_n (by omega)]; exact hI.2.2.1
  refine s175 hF hM.1 hW2 hRd hru2 hn2 ?_
  intro V3 T3 hS3 hf3
  rw [yRe_ngt.1] at hS3
  rw [yRe_ngt.2.1]
  apply b211_523 hF
  rotate_left
  · intro c; exact absurd rfl c
  intro _
  exact k V3 T3 ⟨K, _, N, w, b, n, H, im, I, zRC_m hC2 (fun a ha => hf3.1 a (by omega) (by omega)), zRM_st hM hf3 hS3, zIv_st hI (zNgt_wf hI.1) (by rw [(zNgt_5 hI.2.2.1).1]; exact hI.2.1) (zNgt_5 hI.2.2.1).2 (yRe_ngt (K := K)).2.2⟩
theorem zk12 {x : zXs} {F : zF} (hF : zSh F) {d : Nat} {V : Nat → Nat → Int32} {T : Nat → Nat → Int64} {Q : Option Value → zG → Prop} (hL : x.1 ≤ 3072) {p : Nat} (hp : p + 6 ≤ x.1) (hr : zRel V) (k : ∀ V2 T2, zRel V2 → E x F (d + 61) 211 1247 [some (.double 50), some (.ref 0), some (.ref 59), some (.int (Int32.ofInt ((p:Int))))] [] (V2, T2) Q) : E x F (d + 61) 211 528 [some (.double 50), some (.ref 0), some (.ref 59), some (.int (Int32.ofInt ((p:Int))))] [] (V, T) Q := by
  obtain ⟨K, S, N, w, b, n, H, im, I, hC, hM, hI⟩ := hr
  obtain ⟨z1, e1, r1⟩ := zScr x (p + 1)
  obtain ⟨z2, e2, r2⟩ := zScr x (p + 2)
  obtain ⟨z3, e3, r3⟩ := zScr x (p + 3)
  apply b211_528 hF hL (i1 := p + 1) (by rw [zI_add]; exact zI_nat (p + 1)) (by omega) (i2 := p + 2) (by rw [zI_add]; exact zI_nat (p + 2)) (by omega) (i3 := p + 3) (by rw [zI_add]; exact zI_nat (p + 3)) (by omega)
  rw [e1, e2, e3]
  refine s82 hF hC.1 hI.1 hC.2.1 hI.2.1 r1 r2 r3 ?_
  intro V2 hf2
  have hM := zRM_c hM (fun a ha => hf2 a (by omega) (by omega) (by omega) (by omega) (by omega) (by omega) (by omega))
  have hC := zRC_fr hC hf2
  apply b211_547 hF hL (i1 := p + 1) (by rw [zI_add]; exact zI_nat (p + 1)) (by omega) (i2 := p + 2) (by rw [zI_add]; exact zI_nat (p + 2)) (by omega) (i3 := p + 3) (by rw [zI_add]; exact zI_nat (p + 3)) (by omega)
  rw [e1, e2, e3]
  have hW2 := zWf_re hI.1 hI.2.2.2.1
  have hRd := zRd_of (x := x) hF hM.2.1 hC.2.1
  have hru2 : yRe K S 5 2 < N := by rw [yRe_n (by omega)]; exact hI.2.1
  have hn2 : yRe K S 5 1 ≤ 999 := by rw [yRe_n (by omega)]; exact hI.2.2.1
  refine s178 hF hM.1 hW2 hRd hru2 r1 r2 r3 ?_
  intro V3 T3 hS3 hf3
  have hf3 := yFr_fq hf3
  rw [yRe_tries]
  apply b211_566 hF
  rotate_left
  · intro c; exact absurd rfl c
  intro _
  exact k V3 T3 ⟨K, S, N, w, b, n, H, im, I, zRC_m hC (fun a ha => hf3.1 a (by omega) (by omega)), zRM_st hM hf3 hS3, hI⟩
theorem zk13 {x : zXs} {F : zF} (hF : zSh F) {d : Nat} {V : Nat → Nat → Int32} {T : Nat → Nat → Int64} {Q : Option Value → zG → Prop} (hL : x.1 ≤ 3072) {p : Nat} (hp : p + 6 ≤ x.1) (hr : zRel V) (k : ∀ V2 T2, zRel V2 → E x F (d + 61) 211 1247 [some (.double 50), some (.ref 0), some (.ref 59), some (.int (Int32.ofInt ((p:Int))))] [] (V2, T2) Q) : E x F (d + 61) 211 571 [some (.double 50), some (.ref 0), some (.ref 59), some (.int (Int32.ofInt ((p:Int))))] [] (V, T) Q := by
  obtain ⟨K, S, N, w, b, n, H, im, I, hC, hM, hI⟩ := hr
  obtain ⟨z1, e1, r1⟩ := zScr x (p + 1)
  obtain ⟨z2, e2, r2⟩ := zScr x (p + 2)
  obtain ⟨z3, e3, r3⟩ := zScr x (p + 3)
  obtain ⟨z4, e4, r4⟩ := zScr x (p + 4)
  apply b211_571 hF hL (i1 := p + 1) (by rw [zI_add]; exact zI_nat (p + 1)) (by omega) (i2 := p + 2) (by rw [zI_add]; exact zI_nat (p + 2)) (by omega) (i3 := p + 3) (by rw [zI_add]; exact zI_nat (p + 3)) (by omega) (i4 := p + 4) (by rw [zI_add]; exact zI_nat (p + 4)) (by omega)
  rw [e1, e2, e3, e4]
  refine s84 hF hC.1 hI.1 hI.2.2.1 hC.2.1 hI.2.1 r1 r2 r3 r4 ?_
  intro V2 hf2
  have hM := zRM_c hM (fun a ha => hf2 a (by omega) (by omega) (by omega) (by omega) (by omega) (by omega) (by omega))
  have hC := zRC_fr hC hf2
  apply b211_595 hF hL (i1 := p + 1) (by rw [zI_add]; exact zI_nat (p + 1)) (by omega) (i2 := p + 2) (by rw [zI_add]; exact zI_nat (p + 2)) (by omega) (i3 := p + 3) (by rw [zI_add]; exact zI_nat (p + 3)) (by omega) (i4 := p + 4) (by rw [zI_add]; exact zI_nat (p + 4)) (by omega)
  rw [e1, e2, e3, e4]
  have hW2 := zWf_re hI.1 hI.2.2.2.1
  have hRd := zRd_of (x := x) hF hM.2.1 hC.2.1
  have hru2 : yRe K S 5 2 < N := by rw [yRe_n (by omega)]; exact hI.2.1
  have hn2 : yRe K S 5 1 ≤ 999 := by rw [yRe_n (by omega)]; exact hI.2.2.1
  refine s182 hF hM.1 hW2 hRd hru2 hn2 r1 r2 r3 r4 ?_
  intro V3 T3 hS3 hf3
  have hf3 := yFr_fq hf3
  rw [yRe_nights]
  apply b211_619 hF
  rotate_left
  · intro c; exact absurd rfl c
  intro _
  exact k V3 T3 ⟨K, S, N, w, b, n, H, im, I, zRC_m hC (fun a ha => hf3.1 a (by omega) (by omega)), zRM_st hM hf3 hS3, hI⟩
theorem zk14 {x : zXs} {F : zF} (hF : zSh F) {d : Nat} {V : Nat → Nat → Int32} {T : Nat → Nat → Int64} {Q : Option Value → zG → Prop} (hL : x.1 ≤ 3072) {p : Nat} (hp : p + 6 ≤ x.1) (hr : zRel V) (k : ∀ V2 T2, zRel V2 → E x F (d + 61) 211 1247 [some (.double 50), some (.ref 0), some (.ref 59), some (.int (Int32.ofInt ((p:Int))))] [] (V2, T2) Q) : E x F (d + 61) 211 624 [some (.double 50), some (.ref 0), some (.ref 59), some (.int (Int32.ofInt ((p:Int))))] [] (V, T) Q := by
  obtain ⟨K, S, N, w, b, n, H, im, I, hC, hM, hI⟩ := hr
  obtain ⟨z1, e1, r1⟩ := zScr x (p + 1)
  obtain ⟨z2, e2, r2⟩ := zScr x (p + 2)
  obtain ⟨z3, e3, r3⟩ := zScr x (p + 3)
  apply b211_624 hF hL (i1 := p + 1) (by rw [zI_add]; exact zI_nat (p + 1)) (by omega) (i2 := p + 2) (by rw [zI_add]; exact zI_nat (p + 2)) (by omega) (i3 := p + 3) (by rw [zI_add]; exact zI_nat (p + 3)) (by omega)
  rw [e1, e2, e3]
  refine s87 hF hC.1 hI.1 hC.2.1 hI.2.1 r1 r2 r3 ?_
  intro V2 hf2
  have hM := zRM_c hM (fun a ha => hf2 a (by omega) (by omega) (by omega) (by omega) (by omega) (by omega) (by omega))
  have hC := zRC_fr hC hf2
  apply b211_643 hF hL (i1 := p + 1) (by rw [zI_add]; exact zI_nat (p + 1)) (by omega) (i2 := p + 2) (by rw [zI_add]; exact zI_nat (p + 2)) (by omega) (i3 := p + 3) (by rw [zI_add]; exact zI_nat (p + 3)) (by omega)
  rw [e1, e2, e3]
  have hW2 := zWf_re hI.1 hI.2.2.2.1
  have hRd := zRd_of (x := x) hF hM.2.1 hC.2.1
  have hru2 : yRe K S 5 2 < N := by rw [yRe_n (by omega)]; exact hI.2.1
  have hn2 : yRe K S 5 1 ≤ 999 := by rw [yRe_n (by omega)]; exact hI.2.2.1
  refine s184 hF hM.1 hW2 hRd hru2 r1 r2 r3 ?_
  intro V3 T3 hS3 hf3
  have hf3 := yFr_fq hf3
  rw [yRe_first]
  apply b211_662 hF
  rotate_left
  · intro c; exact absurd rfl c
  intro _
  exact k V3 T3 ⟨K, S, N, w, b, n, H, im, I, zRC_m hC (fun a ha => hf3.1 a (by omega) (by omega)), zRM_st hM hf3 hS3, hI⟩
theorem zk15 {x : zXs} {F : zF} (hF : zSh F) {d : Nat} {V : Nat → Nat → Int32} {T : Nat → Nat → Int64} {Q : Option Value → zG → Prop} (hL : x.1 ≤ 3072) {p : Nat} (hp : p + 6 ≤ x.1) (hr : zRel V) (k : ∀ V2 T2, zRel V2 → E x F (d + 61) 211 1247 [some (.double 50), some (.ref 0), some (.ref 59), some (.int (Int32.ofInt ((p:Int))))] [] (V2, T2) Q) : E x F (d + 61) 211 667 [some (.double 50), some (.ref 0), some (.ref 59), some (.int (Int32.ofInt ((p:Int))))] [] (V, T) Q := by
  obtain ⟨K, S, N, w, b, n, H, im, I, hC, hM, hI⟩ := hr
  obtain ⟨z1, e1, r1⟩ := zScr x (p + 1)
  obtain ⟨z2, e2, r2⟩ := zScr x (p + 2)
  apply b211_667 hF hL (i1 := p + 1) (by rw [zI_add]; exact zI_nat (p + 1)) (by omega) (i2 := p + 2) (by rw [zI_add]; exact zI_nat (p + 2)) (by omega)
  rw [e1, e2]
  refine s91 hF hC.1 hI.1 hI.2.2.1 hC.2.1 hI.2.1 r1 r2 ?_
  intro V2 hf2
  have hM := zRM_c hM (fun a ha => hf2 a (by omega) (by omega) (by omega) (by omega) (by omega) (by omega) (by omega))
  have hC := zRC_fr hC hf2
  apply b211_681 hF hL (i1 := p + 1) (by rw [zI_add]; exact zI_nat (p + 1)) (by omega) (i2 := p + 2) (by rw [zI_add]; exact zI_nat (p + 2)) (by omega)
  rw [e1, e2]
  have hW2 := zWf_re hI.1 hI.2.2.2.1
  have hRd := zRd_of (x := x) hF hM.2.1 hC.2.1
  have hru2 : yRe K S 5 2 < N := by rw [yRe_n (by omega)]; exact hI.2.1
  have hn2 : yRe K S 5 1 ≤ 999 := by rw [yRe_n (by omega)]; exact hI.2.2.1
  refine s186 hF hM.1 hW2 hn2 hRd hru2 r1 r2 ?_
  intro V3 T3 hS3 hf3
  have hf3 := yFr_fq hf3
  rw [yRe_best]
  apply b211_695 hF
  rotate_left
  · intro c; exact absurd rfl c
  intro _
  exact k V3 T3 ⟨K, S, N, w, b, n, H, im, I, zRC_m hC (fun a ha => hf3.1 a (by omega) (by omega)), zRM_st hM hf3 hS3, hI⟩
theorem zk16 {x : zXs} {F : zF} (hF : zSh F) {d : Nat} {V : Nat → Nat → Int32} {T : Nat → Nat → Int64} {Q : Option Value → zG → Prop} (hL : x.1 ≤ 3072) {p : Nat} (hp : p + 6 ≤ x.1) (hr : zRel V) (k : ∀ V2 T2, zRel V2 → E x F (d + 61) 211 1247 [some (.double 50), some (.ref 0), some (.ref 59), some (.int (Int32.ofInt ((p:Int))))] [] (V2, T2) Q) : E x F (d + 61) 211 700 [some (.double 50), some (.ref 0), some (.ref 59), some (.int (Int32.ofInt ((p:Int))))] [] (V, T) Q := by
  obtain ⟨K, S, N, w, b, n, H, im, I, hC, hM, hI⟩ := hr
  obtain ⟨z1, e1, r1⟩ := zScr x (p + 1)
  obtain ⟨z2, e2, r2⟩ := zScr x (p + 2)
  apply b211_700 hF hL (i1 := p + 1) (by rw [zI_add]; exact zI_nat (p + 1)) (by omega) (i2 := p + 2) (by rw [zI_add]; exact zI_nat (p + 2)) (by omega)
  rw [e1, e2]
  refine s95 hF hC.1 hI.1 hC.2.1 hI.2.1 r1 r2 ?_
  intro V2 hf2
  have hM := zRM_c hM (fun a ha => hf2 a (by omega) (by omega) (by omega) (by omega) (by omega) (by omega) (by omega))
  have hC := zRC_fr hC hf2
  apply b211_714 hF hL (i1 := p + 1) (by rw [zI_add]; exact zI_nat (p + 1)) (by omega) (i2 := p + 2) (by rw [zI_add]; exact zI_nat (p + 2)) (by omega)
  rw [e1, e2]
  have hW2 := zWf_re hI.1 hI.2.2.2.1
  have hRd := zRd_of (x := x) hF hM.2.1 hC.2.1
  have hru2 : yRe K S 5 2 < N := by rw [yRe_n (by omega)]; exact hI.2.1
  have hn2 : yRe K S 5 1 ≤ 999 := by rw [yRe_n (by omega)]; exact hI.2.2.1
  refine s189 hF hM.1 hW2 hRd hru2 r1 r2 ?_
  intro V3 T3 hS3 hf3
  have hf3 := yFr_fq hf3
  rw [yRe_rowFor]
  apply b211_728 hF
  rotate_left
  · intro c; exact absurd rfl c
  intro _
  exact k V3 T3 ⟨K, S, N, w, b, n, H, im, I, zRC_m hC (fun a ha => hf3.1 a (by omega) (by omega)), zRM_st hM hf3 hS3, hI⟩
theorem zk17 {x : zXs} {F : zF} (hF : zSh F) {d : Nat} {V : Nat → Nat → Int32} {T : Nat → Nat → Int64} {Q : Option Value → zG → Prop} (hL : x.1 ≤ 3072) {p : Nat} (hp : p + 6 ≤ x.1) (hr : zRel V) (k : ∀ V2 T2, zRel V2 → E x F (d + 61) 211 1247 [some (.double 50), some (.ref 0), some (.ref 59), some (.int (Int32.ofInt ((p:Int))))] [] (V2, T2) Q) : E x F (d + 61) 211 733 [some (.double 50), some (.ref 0), some (.ref 59), some (.int (Int32.ofInt ((p:Int))))] [] (V, T) Q := by
  obtain ⟨K, S, N, w, b, n, H, im, I, hC, hM, hI⟩ := hr
  apply b211_733 hF
  refine s96 hF hC.1 hI.1 ?_
  apply b211_737 hF
  have hW2 := zWf_re hI.1 hI.2.2.2.1
  have hRd := zRd_of (x := x) hF hM.2.1 hC.2.1
  have hru2 : yRe K S 5 2 < N := by rw [yRe_n (by omega)]; exact hI.2.1
  have hn2 : yRe K S 5 1 ≤ 999 := by rw [yRe_n (by omega)]; exact hI.2.2.1
  refine s190 hF hM.1 hW2 ?_
  intro V3 hS3 hf3
  have hf3 := yFr_fq hf3
  rw [yRe_lr]
  apply b211_741 hF
  rotate_left
  · intro c; exact absurd rfl c
  intro _
  exact k V3 T ⟨K, S, N, w, b, n, H, im, I, zRC_m hC (fun a ha => hf3.1 a (by omega) (by omega)), zRM_st hM hf3 hS3, hI⟩
theorem zk18 {x : zXs} {F : zF} (hF : zSh F) {d : Nat} {V : Nat → Nat → Int32} {T : Nat → Nat → Int64} {Q : Option Value → zG → Prop} (hL : x.1 ≤ 3072) {p : Nat} (hp : p + 6 ≤ x.1) (hr : zRel V) (k : ∀ V2 T2, zRel V2 → E x F (d + 61) 211 1247 [some (.double 50), some (.ref 0), some (.ref 59), some (.int (Int32.ofInt ((p:Int))))] [] (V2, T2) Q) : E x F (d + 61) 211 746 [some (.double 50), some (.ref 0), some (.ref 59), some (.int (Int32.ofInt ((p:Int))))] [] (V, T) Q := by
  obtain ⟨K, S, N, w, b, n, H, im, I, hC, hM, hI⟩ := hr
  obtain ⟨z1, e1, r1⟩ := zScr x (p + 1)
  apply b211_746 hF hL (i1 := p + 1) (by rw [zI_add]; exact zI_nat (p + 1)) (by omega)
  rw [e1]
  refine s97 hF hC.1 hI.1 r1 ?_
  apply b211_755 hF hL (i1 := p + 1) (by rw [zI_add]; exact zI_nat (p + 1)) (by omega)
  rw [e1]
  have hW2 := zWf_re hI.1 hI.2.2.2.1
  have hRd := zRd_of (x := x) hF hM.2.1 hC.2.1
  have hru2 : yRe K S 5 2 < N := by rw [yRe_n (by omega)]; exact hI.2.1
  have hn2 : yRe K S 5 1 ≤ 999 := by rw [yRe_n (by omega)]; exact hI.2.2.1
  refine s191 hF hM.1 hW2 r1 ?_
  rw [yRe_near]
  apply b211_764 hF
  rotate_left
  · intro c; exact absurd (show lg_cmp _ _ = 0 by rw [lg_cmp_eq]) c
  intro _
  exact k V T ⟨K, S, N, w, b, n, H, im, I, hC, hM, hI⟩
theorem zk19 {x : zXs} {F : zF} (hF : zSh F) {d : Nat} {V : Nat → Nat → Int32} {T : Nat → Nat → Int64} {Q : Option Value → zG → Prop} (hL : x.1 ≤ 3072) {p : Nat} (hp : p + 6 ≤ x.1) (hr : zRel V) (k : ∀ V2 T2, zRel V2 → E x F (d + 61) 211 1247 [some (.double 50), some (.ref 0), some (.ref 59), some (.int (Int32.ofInt ((p:Int))))] [] (V2, T2) Q) : E x F (d + 61) 211 770 [some (.double 50), some (.ref 0), some (.ref 59), some (.int (Int32.ofInt ((p:Int))))] [] (V, T) Q := by
  obtain ⟨K, S, N, w, b, n, H, im, I, hC, hM, hI⟩ := hr
  obtain ⟨z1, e1, r1⟩ := zScr x (p + 1)
  obtain ⟨z2, e2, r2⟩ := zScr x (p + 2)
  obtain ⟨z3, e3, r3⟩ := zScr x (p + 3)
  obtain ⟨z4, e4, r4⟩ := zScr x (p + 4)
  apply b211_770 hF hL (i1 := p + 1) (by rw [zI_add]; exact zI_nat (p + 1)) (by omega) (i2 := p + 2) (by rw [zI_add]; exact zI_nat (p + 2)) (by omega) (i3 := p + 3) (by rw [zI_add]; exact zI_nat (p + 3)) (by omega) (i4 := p + 4) (by rw [zI_add]; exact zI_nat (p + 4)) (by omega)
  rw [e1, e2, e3, e4]
  refine s100 hF hC.1 hI.1 hC.2.1 hI.2.1 hI.2.2.2.2.1 hC.2.2.2.1 r1 r2 r3 r4 ?_
  intro V2 hf2
  have hM := zRM_c hM (fun a ha => hf2 a (by omega) (by omega) (by omega) (by omega) (by omega) (by omega) (by omega))
  have hC := zRC_fr hC hf2
  apply b211_794 hF hL (i1 := p + 1) (by rw [zI_add]; exact zI_nat (p + 1)) (by omega) (i2 := p + 2) (by rw [zI_add]; exact zI_nat (p + 2)) (by omega) (i3 := p + 3) (by rw [zI_add]; exact zI_nat (p + 3)) (by omega) (i4 := p + 4) (by rw [zI_add]; exact zI_nat (p + 4)) (by omega)
  rw [e1, e2, e3, e4]
  have hW2 := zWf_re hI.1 hI.2.2.2.1
  have hRd := zRd_of (x := x) hF hM.2.1 hC.2.1
  have hru2 : yRe K S 5 2 < N := by rw [yRe_n (by omega)]; exact hI.2.1
  have hn2 : yRe K S 5 1 ≤ 999 := by rw [yRe_n (by omega)]; exact hI.2.2.1
  refine s193 hF hM.1 hW2 hRd hru2 hM.2.2.1 hC.2.1.2.2.1 hI.2.2.2.2.1 hM.2.2.2.2.1 r1 r2 r3 r4 ?_
  intro V3 T3 hS3 hf3
  have hf3 := yFr_fq hf3
  rw [yRe_tells]
  apply b211_818 hF
  rotate_left
  · intro c; exact absurd rfl c
  intro _
  exact k V3 T3 ⟨K, S, N, w, b, n, H, im, I, zRC_m hC (fun a ha => hf3.1 a (by omega) (by omega)), zRM_st hM hf3 hS3, hI⟩
theorem zk21 {x : zXs} {F : zF} (hF : zSh F) {d : Nat} {V : Nat → Nat → Int32} {T : Nat → Nat → Int64} {Q : Option Value → zG → Prop} (hL : x.1 ≤ 3072) {p : Nat} (hp : p + 6 ≤ x.1) (hr : zRel V) (k : ∀ V2 T2, zRel V2 → E x F (d + 61) 211 1247 [some (.double 50), some (.ref 0), some (.ref 59), some (.int (Int32.ofInt ((p:Int))))] [] (V2, T2) Q) : E x F (d + 61) 211 866 [some (.double 50), some (.ref 0), some (.ref 59), some (.int (Int32.ofInt ((p:Int))))] [] (V, T) Q := by
  obtain ⟨K, S, N, w, b, n, H, im, I, hC, hM, hI⟩ := hr
  obtain ⟨z1, e1, r1⟩ := zScr x (p + 1)
  obtain ⟨z2, e2, r2⟩ := zScr x (p + 2)
  apply b211_866 hF hL (i1 := p + 1) (by rw [zI_add]; exact zI_nat (p + 1)) (by omega) (i2 := p + 2) (by rw [zI_add]; exact zI_nat (p + 2)) (by omega)
  rw [e2]
  refine s116 hF hC.1 hI.1 hC.2.1 hI.2.1 r2 ?_
  intro V2 hf2
  have hM := zRM_c hM (fun a ha => hf2 a (by omega) (by omega) (by omega) (by omega) (by omega) (by omega) (by omega))
  have hC := zRC_fr hC hf2
  apply b211_880 hF hL (i1 := p + 1) (by rw [zI_add]; exact zI_nat (p + 1)) (by omega) (i2 := p + 2) (by rw [zI_add]; exact zI_nat (p + 2)) (by omega)
  rw [e2]
  have hW2 := zWf_re hI.1 hI.2.2.2.1
  have hRd := zRd_of (x := x) hF hM.2.1 hC.2.1
  have hru2 : yRe K S 5 2 < N := by rw [yRe_n (by omega)]; exact hI.2.1
  have hn2 : yRe K S 5 1 ≤ 999 := by rw [yRe_n (by omega)]; exact hI.2.2.1
  refine s200 hF hM.1 hW2 hRd hru2 r2 ?_
  intro V3 T3 hS3 hf3
  have hf3 := yFr_fq hf3
  rw [yRe_drw]
  apply b211_894 hF
  rotate_left
  · intro c; exact absurd rfl c
  intro _
  exact k V3 T3 ⟨K, S, N, w, b, n, H, im, I, zRC_m hC (fun a ha => hf3.1 a (by omega) (by omega)), zRM_st hM hf3 hS3, hI⟩
theorem zk22 {x : zXs} {F : zF} (hF : zSh F) {d : Nat} {V : Nat → Nat → Int32} {T : Nat → Nat → Int64} {Q : Option Value → zG → Prop} (hL : x.1 ≤ 3072) {p : Nat} (hp : p + 6 ≤ x.1) (hr : zRel V) (k : ∀ V2 T2, zRel V2 → E x F (d + 61) 211 1247 [some (.double 50), some (.ref 0), some (.ref 59), some (.int (Int32.ofInt ((p:Int))))] [] (V2, T2) Q) : E x F (d + 61) 211 899 [some (.double 50), some (.ref 0), some (.ref 59), some (.int (Int32.ofInt ((p:Int))))] [] (V, T) Q := by
  obtain ⟨K, S, N, w, b, n, H, im, I, hC, hM, hI⟩ := hr
  obtain ⟨z1, e1, r1⟩ := zScr x (p + 1)
  obtain ⟨z2, e2, r2⟩ := zScr x (p + 2)
  obtain ⟨z3, e3, r3⟩ := zScr x (p + 3)
  obtain ⟨z4, e4, r4⟩ := zScr x (p + 4)
  obtain ⟨z5, e5, r5⟩ := zScr x (p + 5)
  apply b211_899 hF hL (i1 := p + 1) (by rw [zI_add]; exact zI_nat (p + 1)) (by omega) (i2 := p + 2) (by rw [zI_add]; exact zI_nat (p + 2)) (by omega) (i3 := p + 3) (by rw [zI_add]; exact zI_nat (p + 3)) (by omega) (i4 := p + 4) (by rw [zI_add]; exact zI_nat (p + 4)) (by omega) (i5 := p + 5) (by rw [zI_add]; exact zI_nat (p + 5)) (by omega)
  rw [e2, e3, e4, e5]
  refine s118 hF hC.1 hI.1 hC.2.1 hI.2.1 r2 r3 r4 r5 ?_
  intro V2 hf2
  have hM := zRM_c hM (fun a ha => hf2 a (by omega) (by omega) (by omega) (by omega) (by omega) (by omega) (by omega))
  have hC := zRC_fr hC hf2
  apply b211_928 hF hL (i1 := p + 1) (by rw [zI_add]; exact zI_nat (p + 1)) (by omega) (i2 := p + 2) (by rw [zI_add]; exact zI_nat (p + 2)) (by omega) (i3 := p + 3) (by rw [zI_add]; exact zI_nat (p + 3)) (by omega) (i4 := p + 4) (by rw [zI_add]; exact zI_nat (p + 4)) (by omega) (i5 := p + 5) (by rw [zI_add]; exact zI_nat (p + 5)) (by omega)
  rw [e2, e3, e4, e5]
  have hW2 := zWf_re hI.1 hI.2.2.2.1
  have hRd := zRd_of (x := x) hF hM.2.1 hC.2.1
  have hru2 : yRe K S 5 2 < N := by rw [yRe_n (by omega)]; exact hI.2.1
  have hn2 : yRe K S 5 1 ≤ 999 := by rw [yRe_n (by omega)]; exact hI.2.2.1
  refine s202 hF hM.1 hW2 hRd hru2 r2 r3 r4 r5 ?_
  intro V3 T3 hS3 hf3
  have hf3 := yFr_fq hf3
  rw [yRe_chance]
  apply b211_957 hF
  rotate_left
  · intro c; exact absurd (show lg_cmp _ _ = 0 by rw [lg_cmp_eq]) c
  intro _
  exact k V3 T3 ⟨K, S, N, w, b, n, H, im, I, zRC_m hC (fun a ha => hf3.1 a (by omega) (by omega)), zRM_st hM hf3 hS3, hI⟩
theorem zk25 {x : zXs} {F : zF} (hF : zSh F) {d : Nat} {V : Nat → Nat → Int32} {T : Nat → Nat → Int64} {Q : Option Value → zG → Prop} (hL : x.1 ≤ 3072) {p : Nat} (hp : p + 6 ≤ x.1) (hr : zRel V) (k : ∀ V2 T2, zRel V2 → E x F (d + 61) 211 1247 [some (.double 50), some (.ref 0), some (.ref 59), some (.int (Int32.ofInt ((p:Int))))] [] (V2, T2) Q) : E x F (d + 61) 211 989 [some (.double 50), some (.ref 0), some (.ref 59), some (.int (Int32.ofInt ((p:Int))))] [] (V, T) Q := by
  obtain ⟨K, S, N, w, b, n, H, im, I, hC, hM, hI⟩ := hr
  obtain ⟨z1, e1, r1⟩ := zScr x (p + 1)
  apply b211_989 hF hL (i1 := p + 1) (by rw [zI_add]; exact zI_nat (p + 1)) (by omega)
  rw [e1]
  refine s121 hF hC.1 hI.1 hC.2.1.1 hC.2.2.1.1 r1 ?_
  apply b211_998 hF hL (i1 := p + 1) (by rw [zI_add]; exact zI_nat (p + 1)) (by omega)
  rw [e1]
  have hW2 := zWf_re hI.1 hI.2.2.2.1
  have hRd := zRd_of (x := x) hF hM.2.1 hC.2.1
  have hru2 : yRe K S 5 2 < N := by rw [yRe_n (by omega)]; exact hI.2.1
  have hn2 : yRe K S 5 1 ≤ 999 := by rw [yRe_n (by omega)]; exact hI.2.2.1
  refine s205 hF hM.1 hW2 hM.2.2.1 hM.2.2.2.1.1 r1 ?_
  rw [yRe_count]
  apply b211_1007 hF
  rotate_left
  · intro c; exact absurd rfl c
  intro _
  exact k V T ⟨K, S, N, w, b, n, H, im, I, hC, hM, hI⟩
theorem zk29 {x : zXs} {F : zF} (hF : zSh F) {d : Nat} {V : Nat → Nat → Int32} {T : Nat → Nat → Int64} {Q : Option Value → zG → Prop} (hL : x.1 ≤ 3072) {p : Nat} (hp : p + 6 ≤ x.1) (hr : zRel V) (k : ∀ V2 T2, zRel V2 → E x F (d + 61) 211 1247 [some (.double 50), some (.ref 0), some (.ref 59), some (.int (Int32.ofInt ((p:Int))))] [] (V2, T2) Q) : E x F (d + 61) 211 1161 [some (.double 50), some (.ref 0), some (.ref 59), some (.int (Int32.ofInt ((p:Int))))] [] (V, T) Q := by
  obtain ⟨K, S, N, w, b, n, H, im, I, hC, hM, hI⟩ := hr
  obtain ⟨z1, e1, r1⟩ := zScr x (p + 1)
  obtain ⟨z2, e2, r2⟩ := zScr x (p + 2)
  obtain ⟨z3, e3, r3⟩ := zScr x (p + 3)
  obtain ⟨z4, e4, r4⟩ := zScr x (p + 4)
  apply b211_1161 hF hL (i1 := p + 1) (by rw [zI_add]; exact zI_nat (p + 1)) (by omega) (i2 := p + 2) (by rw [zI_add]; exact zI_nat (p + 2)) (by omega) (i3 := p + 3) (by rw [zI_add]; exact zI_nat (p + 3)) (by omega) (i4 := p + 4) (by rw [zI_add]; exact zI_nat (p + 4)) (by omega)
  rw [e1, e2, e3, e4]
  refine s125 hF hC.1 hI.1 hI.2.2.2.2.1 hC.2.2.2.1 r1 r2 r3 r4 ?_
  intro V2 hS2 hf2
  have hM := zRM_c hM (fun a ha => hf2 a (by omega) (by omega) (by omega) (by omega) (by omega) (by omega) (by omega))
  have hC2 := zRC_st hC hf2 hS2
  have hRd := zRd_of (x := x) hF hM.2.1 hC2.2.1
  apply b211_1185 hF hL (i1 := p + 1) (by rw [zI_add]; exact zI_nat (p + 1)) (by omega) (i2 := p + 2) (by rw [zI_add]; exact zI_nat (p + 2)) (by omega) (i3 := p + 3) (by rw [zI_add]; exact zI_nat (p + 3)) (by omega) (i4 := p + 4) (by rw [zI_add]; exact zI_nat (p + 4)) (by omega)
  rw [e1, e2, e3, e4]
  have hW2 := zWf_re hI.1 hI.2.2.2.1
  have hru2 : yRe K S 5 2 < N := by rw [yRe_n (by omega)]; exact hI.2.1
  have hn2 : yRe K S 5 1 ≤ 999 := by rw [yRe_n (by omega)]; exact hI.2.2.1
  refine s208 hF hM.1 hW2 hI.2.2.2.2.1 hM.2.2.2.2.1 r1 r2 r3 r4 ?_
  intro V3 hS3 hf3
  rw [yRe_gners.1] at hS3
  rw [yRe_gners.2.1]
  apply b211_1209 hF
  rotate_left
  · intro c; exact absurd rfl c
  intro _
  exact k V3 T ⟨K, _, N, w, b, n, H, im, I, zRC_m hC2 (fun a ha => hf3.1 a (by omega) (by omega)), zRM_st hM hf3 hS3, zIv_st hI (yGners_wf hI.1 z1 z2 z3 z4) (by rw [zGners_5.1]; exact hI.2.1) (by rw [zGners_5.2]; exact hI.2.2.1) (yRe_gners (K := K)).2.2⟩
theorem zk30 {x : zXs} {F : zF} (hF : zSh F) {d : Nat} {V : Nat → Nat → Int32} {T : Nat → Nat → Int64} {Q : Option Value → zG → Prop} (hL : x.1 ≤ 3072) {p : Nat} (hp : p + 6 ≤ x.1) (hr : zRel V) (k : ∀ V2 T2, zRel V2 → E x F (d + 61) 211 1247 [some (.double 50), some (.ref 0), some (.ref 59), some (.int (Int32.ofInt ((p:Int))))] [] (V2, T2) Q) : E x F (d + 61) 211 1214 [some (.double 50), some (.ref 0), some (.ref 59), some (.int (Int32.ofInt ((p:Int))))] [] (V, T) Q := by
  obtain ⟨K, S, N, w, b, n, H, im, I, hC, hM, hI⟩ := hr
  obtain ⟨z1, e1, r1⟩ := zScr x (p + 1)
  obtain ⟨z2, e2, r2⟩ := zScr x (p + 2)
  apply b211_1214 hF hL (i1 := p + 1) (by rw [zI_add]; exact zI_nat (p + 1)) (by omega) (i2 := p + 2) (by rw [zI_add]; exact zI_nat (p + 2)) (by omega)
  rw [e1, e2]
  refine s126 hF hC.1 hI.1 r1 r2 ?_
  apply b211_1228 hF hL (i1 := p + 1) (by rw [zI_add]; exact zI_nat (p + 1)) (by omega) (i2 := p + 2) (by rw [zI_add]; exact zI_nat (p + 2)) (by omega)
  rw [e1, e2]
  have hW2 := zWf_re hI.1 hI.2.2.2.1
  have hRd := zRd_of (x := x) hF hM.2.1 hC.2.1
  have hru2 : yRe K S 5 2 < N := by rw [yRe_n (by omega)]; exact hI.2.1
  have hn2 : yRe K S 5 1 ≤ 999 := by rw [yRe_n (by omega)]; exact hI.2.2.1
  refine s209 hF hM.1 hW2 r1 r2 ?_
  rw [yRe_taken]
  apply b211_1242 hF
  rotate_left
  · intro c; exact absurd rfl c
  intro _
  exact k V T ⟨K, S, N, w, b, n, H, im, I, hC, hM, hI⟩
