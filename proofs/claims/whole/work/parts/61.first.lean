/-! first, the least left: the class -/
theorem zFt_43 {V V1 V2 : Nat → Nat → Int32} (h1 : zFt V V1) (h2 : ∀ a, a ≠ 44 → V2 a = V1 a) : zFt V V2 := fun a a1 a2 a3 a4 a5 a6 a7 => (h2 a a7).trans (h1 a a1 a2 a3 a4 a5 a6 a7)
theorem s87l {x : zXs} {F : zF} (hF : zSh F) {d : Nat} {V : Nat → Nat → Int32} {T : Nat → Nat → Int64} {Q : Option Value → zG → Prop} {S : Nat → Nat → Nat} (hS : zCS 1 V S) (hW : zWf S) {n : Nat} {w : Nat → Nat → (Nat → Int32) → Int32} (hR : zRu V n w) (hru : S 5 2 < n) {c : Nat} (hcr : S 5 0 = c) {r one : Nat} (hr : r < 4) (ho : one < 5) {o3 : Option Value} : ∀ (ps : List (List Nat)) (p : List Nat) (i : Nat) (b : Option (List Nat × Int)) (V1 : Nat → Nat → Int32) (P D M : Int), P = i → i + (ps.length + 1) ≤ 120 → (i = 0 ↔ b = none) → zBs b D M → (∀ q v, b = some (q, v) → -24 ≤ v ∧ v ≤ 24) → (∀ q, q ∈ p :: ps → q.length = c ∧ ∀ f, f ∈ q → f < c) → yChn c (p :: ps) = true → zO V1 c (fun k => p.getD k 0) → zFt V V1 → (∀ V2 D M, zFt V V2 → zBs (yBst (yVal w S r (one : Int)) (p :: ps) b) D M → ∀ o6 o7 o8 : Option Value, E x F (d + 5) 87 143 [some (.ref 0), some (.int (Int32.ofInt ((one:Int)))), some (.int (Int32.ofInt ((r:Int)))), o3, some (.int (Int32.ofInt (D))), some (.int (Int32.ofInt (M))), o6, o7, o8] [] (V2, T) Q) → ∀ o8 : Option Value, E x F (d + 5) 87 61 [some (.ref 0), some (.int (Int32.ofInt ((one:Int)))), some (.int (Int32.ofInt ((r:Int)))), o3, some (.int (Int32.ofInt (D))), some (.int (Int32.ofInt (M))), some (.int (Int32.ofInt (1))), some (.int (Int32.ofInt (P))), o8] [] (V1, T) Q := by
  have hb : zSt 1 := Or.inl rfl
  have hb7 : zSt 7 := Or.inr (Or.inl rfl)
  have h5 := hW.2.2.1
  intro ps
  induction ps with
  | nil =>
    intro p i b V1 P D M hP hi hb0 hB hv hm hch hO hf K o8
    subst hP
    -- behind the last there is no other
    have fin : ∀ (V2 : Nat → Nat → Int32) (D' M' : Int), zO V2 c (fun k => p.getD k 0) → zFt V V2 → zBs (yBst (yVal w S r (one : Int)) [p] b) D' M' → ∀ o8 : Option Value, E x F (d + 5) 87 128 [some (.ref 0), some (.int (Int32.ofInt ((one:Int)))), some (.int (Int32.ofInt ((r:Int)))), o3, some (.int (Int32.ofInt (D'))), some (.int (Int32.ofInt (M'))), some (.int (Int32.ofInt (1))), some (.int (Int32.ofInt ((i:Int)))), o8] [] (V2, T) Q := by
      intro V2 D' M' hO2 hf2 hB2 o8
      apply b87_128 hF
      refine s89 hF (by omega) hO2 ?_ ?_
      · intro _
        apply b87_135 hF
        rw [zI_add]
        have KK := K V2 D' M' hf2 hB2
        apply b87_61 hF
        · intro _
          exact KK _ _ _
        · intro _
          apply b87_68 hF
          · intro _
            exact KK _ _ _
          · intro c1; exact absurd rfl c1
      · intro q hq
        simp only [yChn, Option.isNone_iff_eq_none] at hch
        rw [hch] at hq
        exact absurd hq (by simp)
    apply b87_61 hF
    · intro c1
      simp (disch := omega) only [zI_le] at c1
      exfalso; omega
    intro _
    apply b87_68 hF
    · intro c1; exact absurd c1 (by decide)
    intro _
    have hS1 := zFt_S hS hf
    apply b87_73 hF
    apply s83 hF hb7 hb (by omega) hS1
    intro V2 hS2 f2
    have hf2 : zFt V V2 := fun a a1 a2 a3 a4 a5 a6 a7 => by rw [f2 a (by omega)]; exact hf a a1 a2 a3 a4 a5 a6 a7
    have hO2 : zO V2 c (fun k => p.getD k 0) := ⟨by rw [f2 43 (by omega)]; exact hO.1, fun j hj => by rw [f2 44 (by omega)]; exact hO.2 j hj⟩
    apply b87_84 hF
    have hpl := (hm p List.mem_cons_self).1
    have hpm := (hm p List.mem_cons_self).2
    apply s78 hF hb7 hS2 hW (zFt_R hR hf2) hru (one := (one : Int)) (at' := fun k => p.getD k 0) (by omega) hr (by omega) hO2.2 hO2.1
    intro V3 hS3 f3
    have hf3 : zFt V V3 := fun a a1 a2 a3 a4 a5 a6 a7 => by rw [f3 a (by omega) a2 a3 a4 a5]; exact hf2 a a1 a2 a3 a4 a5 a6 a7
    have hO3 : zO V3 c (fun k => p.getD k 0) := ⟨by rw [f3 43 (by omega) (by omega) (by omega) (by omega) (by omega)]; exact hO2.1, fun j hj => by rw [f3 44 (by omega) (by omega) (by omega) (by omega) (by omega)]; exact hO2.2 j hj⟩
    have ev : (yAl w r (one : Int) (fun k => p.getD k 0) 0 c (S, 0)).2 = yVal w S r (one : Int) p := by
      rw [← hpl, yAl_l p 0 (S, 0) (fun k _ => by rw [Nat.zero_add])]
      unfold yVal
      rw [if_neg (by omega)]
    rw [ev]
    have hvv : -24 ≤ yVal w S r (one : Int) p ∧ yVal w S r (one : Int) p ≤ 24 := yVal_in hW hr (fun f hf => by have := hpm f hf; omega)
    apply b87_101 hF
    · intro c1
      simp (disch := omega) only [zI_eq, zI_0] at c1
      have hbn : b = none := hb0.mp (by omega)
      subst hbn
      apply b87_115 hF
      apply s88 hF (by omega) hpl hO3
      apply b87_126 hF
      exact fin V3 _ _ hO3 hf3 ⟨rfl, rfl⟩ _
    · intro c1
      simp (disch := omega) only [zI_eq, zI_0] at c1
      cases b with
      | none => exact absurd (hb0.mpr rfl) (by omega)
      | some b1 =>
        obtain ⟨q1, v1⟩ := b1
        have h1 := hv q1 v1 rfl
        obtain ⟨hD, hM⟩ := hB
        subst hM
        simp only [yBst] at fin
        apply b87_108 hF
        · intro c2
          simp (disch := omega) only [zI_le] at c2
          rw [if_neg (by omega)] at fin
          exact fin V3 _ _ hO3 hf3 ⟨hD, rfl⟩ _
        · intro c2
          simp (disch := omega) only [zI_le] at c2
          rw [if_pos (by omega)] at fin
          apply b87_115 hF
          apply s88 hF (by omega) hpl hO3
          apply b87_126 hF
          exact fin V3 _ _ hO3 hf3 ⟨rfl, rfl⟩ _
  | cons p2 ps ih =>
    intro p i b V1 P D M hP hi hb0 hB hv hm hch hO hf K o8
    subst hP
    obtain ⟨⟨g, hg, hg2⟩, hch2⟩ := yChn_c hch
    rw [List.length_cons] at hi
    -- the next order is the next in the list
    have fin : ∀ (V2 : Nat → Nat → Int32) (D' M' : Int), zO V2 c (fun k => p.getD k 0) → zFt V V2 → zBs (yBst (yVal w S r (one : Int)) [p] b) D' M' → ∀ o8 : Option Value, E x F (d + 5) 87 128 [some (.ref 0), some (.int (Int32.ofInt ((one:Int)))), some (.int (Int32.ofInt ((r:Int)))), o3, some (.int (Int32.ofInt (D'))), some (.int (Int32.ofInt (M'))), some (.int (Int32.ofInt (1))), some (.int (Int32.ofInt ((i:Int)))), o8] [] (V2, T) Q := by
      intro V2 D' M' hO2 hf2 hB2 o8
      apply b87_128 hF
      refine s89 hF (by omega) hO2 ?_ ?_
      · intro hn
        rw [hg] at hn
        exact absurd hn (by simp)
      · intro q hq V3 hO3 f3
        rw [hg] at hq
        injection hq with hq
        subst hq
        apply b87_135 hF
        rw [zI_add]
        have hnb : ∃ bb, yBst (yVal w S r (one : Int)) [p] b = some bb := by
          cases b with
          | none => exact ⟨_, rfl⟩
          | some bb =>
            obtain ⟨q1, v1⟩ := bb
            simp only [yBst]
            split <;> exact ⟨_, rfl⟩
        obtain ⟨bb, hbb⟩ := hnb
        have hvv : -24 ≤ yVal w S r (one : Int) p ∧ yVal w S r (one : Int) p ≤ 24 := yVal_in hW hr (fun f hf => by have := (hm p List.mem_cons_self).2 f hf; omega)
        refine ih p2 (i + 1) (yBst (yVal w S r (one : Int)) [p] b) V3 _ D' M' (by omega) (by omega) ?_ hB2 ?_ (fun q hq => hm q (List.mem_cons_of_mem _ hq)) hch2 ?_ (zFt_43 hf2 f3) ?_ _
        · rw [hbb]
          exact ⟨fun h => by omega, fun h => by simp at h⟩
        · intro q v hqv
          cases b with
          | none =>
            simp only [yBst, Option.some.injEq, Prod.mk.injEq] at hqv
            rw [← hqv.2]; exact hvv
          | some b1 =>
            obtain ⟨q1, v1⟩ := b1
            have h1 := hv q1 v1 rfl
            simp only [yBst] at hqv
            split at hqv
            · simp only [Option.some.injEq, Prod.mk.injEq] at hqv
              rw [← hqv.2]; exact hvv
            · simp only [Option.some.injEq, Prod.mk.injEq] at hqv
              rw [← hqv.2]; exact h1
        · refine ⟨hO3.1, fun j hj => ?_⟩
          have := hO3.2 j hj
          rw [hg2 j hj] at this
          exact this
        · intro V4 D4 M4 f4 hB4
          rw [← yBst_app] at hB4
          exact K V4 D4 M4 f4 hB4
    apply b87_61 hF
    · intro c1
      simp (disch := omega) only [zI_le] at c1
      exfalso; omega
    intro _
    apply b87_68 hF
    · intro c1; exact absurd c1 (by decide)
    intro _
    have hS1 := zFt_S hS hf
    apply b87_73 hF
    apply s83 hF hb7 hb (by omega) hS1
    intro V2 hS2 f2
    have hf2 : zFt V V2 := fun a a1 a2 a3 a4 a5 a6 a7 => by rw [f2 a (by omega)]; exact hf a a1 a2 a3 a4 a5 a6 a7
    have hO2 : zO V2 c (fun k => p.getD k 0) := ⟨by rw [f2 43 (by omega)]; exact hO.1, fun j hj => by rw [f2 44 (by omega)]; exact hO.2 j hj⟩
    apply b87_84 hF
    have hpl := (hm p List.mem_cons_self).1
    have hpm := (hm p List.mem_cons_self).2
    apply s78 hF hb7 hS2 hW (zFt_R hR hf2) hru (one := (one : Int)) (at' := fun k => p.getD k 0) (by omega) hr (by omega) hO2.2 hO2.1
    intro V3 hS3 f3
    have hf3 : zFt V V3 := fun a a1 a2 a3 a4 a5 a6 a7 => by rw [f3 a (by omega) a2 a3 a4 a5]; exact hf2 a a1 a2 a3 a4 a5 a6 a7
    have hO3 : zO V3 c (fun k => p.getD k 0) := ⟨by rw [f3 43 (by omega) (by omega) (by omega) (by omega) (by omega)]; exact hO2.1, fun j hj => by rw [f3 44 (by omega) (by omega) (by omega) (by omega) (by omega)]; exact hO2.2 j hj⟩
    have ev : (yAl w r (one : Int) (fun k => p.getD k 0) 0 c (S, 0)).2 = yVal w S r (one : Int) p := by
      rw [← hpl, yAl_l p 0 (S, 0) (fun k _ => by rw [Nat.zero_add])]
      unfold yVal
      rw [if_neg (by omega)]
    rw [ev]
    have hvv : -24 ≤ yVal w S r (one : Int) p ∧ yVal w S r (one : Int) p ≤ 24 := yVal_in hW hr (fun f hf => by have := hpm f hf; omega)
    apply b87_101 hF
    · intro c1
      simp (disch := omega) only [zI_eq, zI_0] at c1
      have hbn : b = none := hb0.mp (by omega)
      subst hbn
      apply b87_115 hF
      apply s88 hF (by omega) hpl hO3
      apply b87_126 hF
      exact fin V3 _ _ hO3 hf3 ⟨rfl, rfl⟩ _
    · intro c1
      simp (disch := omega) only [zI_eq, zI_0] at c1
      cases b with
      | none => exact absurd (hb0.mpr rfl) (by omega)
      | some b1 =>
        obtain ⟨q1, v1⟩ := b1
        have h1 := hv q1 v1 rfl
        obtain ⟨hD, hM⟩ := hB
        subst hM
        simp only [yBst] at fin
        apply b87_108 hF
        · intro c2
          simp (disch := omega) only [zI_le] at c2
          rw [if_neg (by omega)] at fin
          exact fin V3 _ _ hO3 hf3 ⟨hD, rfl⟩ _
        · intro c2
          simp (disch := omega) only [zI_le] at c2
          rw [if_pos (by omega)] at fin
          apply b87_115 hF
          apply s88 hF (by omega) hpl hO3
          apply b87_126 hF
          exact fin V3 _ _ hO3 hf3 ⟨rfl, rfl⟩ _
theorem s92l {x : zXs} {F : zF} (hF : zSh F) {d : Nat} {V : Nat → Nat → Int32} {T : Nat → Nat → Int64} {Q : Option Value → zG → Prop} {S : Nat → Nat → Nat} (hS : zCS 1 V S) (hW : zWf S) {n : Nat} {w : Nat → Nat → (Nat → Int32) → Int32} (hR : zRu V n w) (hru : S 5 2 < n) {c : Nat} (hcr : S 5 0 = c) {r : Nat} (hr : r < 4) {o2 : Option Value} : ∀ (ps : List (List Nat)) (p : List Nat) (i : Nat) (b : Option (List Nat × Int)) (V1 : Nat → Nat → Int32) (P D M : Int), P = i → i + (ps.length + 1) ≤ 120 → (i = 0 ↔ b = none) → zBs b D (-M) → (∀ q v, b = some (q, v) → -24 ≤ v ∧ v ≤ 24) → (∀ q, q ∈ p :: ps → q.length = c ∧ ∀ f, f ∈ q → f < c) → yChn c (p :: ps) = true → zO V1 c (fun k => p.getD k 0) → zFt V V1 → (∀ V2 D M, zFt V V2 → zBs (yBst (yVal w S r (-1)) (p :: ps) b) D (-M) → ∀ o6 o7 o8 : Option Value, E x F (d + 5) 92 115 [some (.ref 0), some (.int (Int32.ofInt ((r:Int)))), o2, some (.int (Int32.ofInt (D))), some (.int (Int32.ofInt (M))), o6, o7, o8] [] (V2, T) Q) → ∀ o8 : Option Value, E x F (d + 5) 92 25 [some (.ref 0), some (.int (Int32.ofInt ((r:Int)))), o2, some (.int (Int32.ofInt (D))), some (.int (Int32.ofInt (M))), some (.int (Int32.ofInt (1))), some (.int (Int32.ofInt (P))), o8] [] (V1, T) Q := by
  have hb : zSt 1 := Or.inl rfl
  have hb7 : zSt 7 := Or.inr (Or.inl rfl)
  have h5 := hW.2.2.1
  intro ps
  induction ps with
  | nil =>
    intro p i b V1 P D M hP hi hb0 hB hv hm hch hO hf K o8
    subst hP
    -- behind the last there is no other
    have fin : ∀ (V2 : Nat → Nat → Int32) (D' M' : Int), zO V2 c (fun k => p.getD k 0) → zFt V V2 → zBs (yBst (yVal w S r (-1)) [p] b) D' (-M') → ∀ o8 : Option Value, E x F (d + 5) 92 100 [some (.ref 0), some (.int (Int32.ofInt ((r:Int)))), o2, some (.int (Int32.ofInt (D'))), some (.int (Int32.ofInt (M'))), some (.int (Int32.ofInt (1))), some (.int (Int32.ofInt ((i:Int)))), o8] [] (V2, T) Q := by
      intro V2 D' M' hO2 hf2 hB2 o8
      apply b92_100 hF
      refine s89 hF (by omega) hO2 ?_ ?_
      · intro _
        apply b92_107 hF
        rw [zI_add]
        have KK := K V2 D' M' hf2 hB2
        apply b92_25 hF
        · intro _
          exact KK _ _ _
        · intro _
          apply b92_32 hF
          · intro _
            exact KK _ _ _
          · intro c1; exact absurd rfl c1
      · intro q hq
        simp only [yChn, Option.isNone_iff_eq_none] at hch
        rw [hch] at hq
        exact absurd hq (by simp)
    apply b92_25 hF
    · intro c1
      simp (disch := omega) only [zI_le] at c1
      exfalso; omega
    intro _
    apply b92_32 hF
    · intro c1; exact absurd c1 (by decide)
    intro _
    have hS1 := zFt_S hS hf
    apply b92_37 hF
    apply s83 hF hb7 hb (by omega) hS1
    intro V2 hS2 f2
    have hf2 : zFt V V2 := fun a a1 a2 a3 a4 a5 a6 a7 => by rw [f2 a (by omega)]; exact hf a a1 a2 a3 a4 a5 a6 a7
    have hO2 : zO V2 c (fun k => p.getD k 0) := ⟨by rw [f2 43 (by omega)]; exact hO.1, fun j hj => by rw [f2 44 (by omega)]; exact hO.2 j hj⟩
    apply b92_48 hF
    have hpl := (hm p List.mem_cons_self).1
    have hpm := (hm p List.mem_cons_self).2
    apply s78 hF hb7 hS2 hW (zFt_R hR hf2) hru (one := -1) (at' := fun k => p.getD k 0) (by omega) hr (by omega) hO2.2 hO2.1
    intro V3 hS3 f3
    have hf3 : zFt V V3 := fun a a1 a2 a3 a4 a5 a6 a7 => by rw [f3 a (by omega) a2 a3 a4 a5]; exact hf2 a a1 a2 a3 a4 a5 a6 a7
    have hO3 : zO V3 c (fun k => p.getD k 0) := ⟨by rw [f3 43 (by omega) (by omega) (by omega) (by omega) (by omega)]; exact hO2.1, fun j hj => by rw [f3 44 (by omega) (by omega) (by omega) (by omega) (by omega)]; exact hO2.2 j hj⟩
    have eS : yAl w r (-1) (fun k => p.getD k 0) 0 c (S, 0) = p.foldl (ySp w r (-1)) (S, 0) := by
      rw [← hpl, yAl_l p 0 (S, 0) (fun k _ => by rw [Nat.zero_add])]
    rw [eS] at hS3
    have hwf := (ySp_wf (w := w) (who := -1) hr p (S, 0) (fun f hf => by have := hpm f hf; omega) hW (by dsimp only; omega)).1
    apply b92_65 hF
    apply s13 hF hb7 hS3 hwf hr
    have hz := zpc_le 24 (zgb (p.foldl (ySp w r (-1)) (S, 0)).1 r)
    have ev : yVal w S r (-1) p = -(zpc 24 (zgb (p.foldl (ySp w r (-1)) (S, 0)).1 r) : Int) := by
      unfold yVal
      rw [if_pos rfl]
    generalize zpc 24 (zgb (p.foldl (ySp w r (-1)) (S, 0)).1 r) = L at *
    apply b92_74 hF
    · intro c1
      simp (disch := omega) only [zI_eq, zI_0] at c1
      have hbn : b = none := hb0.mp (by omega)
      subst hbn
      apply b92_88 hF
      apply s88 hF (by omega) hpl hO3
      apply b92_99 hF
      exact fin V3 _ _ hO3 hf3 ⟨rfl, by rw [ev]⟩ _
    · intro c1
      simp (disch := omega) only [zI_eq, zI_0] at c1
      cases b with
      | none => exact absurd (hb0.mpr rfl) (by omega)
      | some b1 =>
        obtain ⟨q1, v1⟩ := b1
        have h1 := hv q1 v1 rfl
        obtain ⟨hD, hM⟩ := hB
        simp only [yBst] at fin
        apply b92_81 hF
        · intro c2
          simp (disch := omega) only [zI_le] at c2
          rw [if_neg (by omega)] at fin
          exact fin V3 _ _ hO3 hf3 ⟨hD, hM⟩ _
        · intro c2
          simp (disch := omega) only [zI_le] at c2
          rw [if_pos (by omega)] at fin
          apply b92_88 hF
          apply s88 hF (by omega) hpl hO3
          apply b92_99 hF
          exact fin V3 _ _ hO3 hf3 ⟨rfl, by rw [ev]⟩ _
  | cons p2 ps ih =>
    intro p i b V1 P D M hP hi hb0 hB hv hm hch hO hf K o8
    subst hP
    obtain ⟨⟨g, hg, hg2⟩, hch2⟩ := yChn_c hch
    rw [List.length_cons] at hi
    -- the next order is the next in the list
    have fin : ∀ (V2 : Nat → Nat → Int32) (D' M' : Int), zO V2 c (fun k => p.getD k 0) → zFt V V2 → zBs (yBst (yVal w S r (-1)) [p] b) D' (-M') → ∀ o8 : Option Value, E x F (d + 5) 92 100 [some (.ref 0), some (.int (Int32.ofInt ((r:Int)))), o2, some (.int (Int32.ofInt (D'))), some (.int (Int32.ofInt (M'))), some (.int (Int32.ofInt (1))), some (.int (Int32.ofInt ((i:Int)))), o8] [] (V2, T) Q := by
      intro V2 D' M' hO2 hf2 hB2 o8
      apply b92_100 hF
      refine s89 hF (by omega) hO2 ?_ ?_
      · intro hn
        rw [hg] at hn
        exact absurd hn (by simp)
      · intro q hq V3 hO3 f3
        rw [hg] at hq
        injection hq with hq
        subst hq
        apply b92_107 hF
        rw [zI_add]
        have hnb : ∃ bb, yBst (yVal w S r (-1)) [p] b = some bb := by
          cases b with
          | none => exact ⟨_, rfl⟩
          | some bb =>
            obtain ⟨q1, v1⟩ := bb
            simp only [yBst]
            split <;> exact ⟨_, rfl⟩
        obtain ⟨bb, hbb⟩ := hnb
        have hvv : -24 ≤ yVal w S r (-1) p ∧ yVal w S r (-1) p ≤ 24 := yVal_in hW hr (fun f hf => by have := (hm p List.mem_cons_self).2 f hf; omega)
        refine ih p2 (i + 1) (yBst (yVal w S r (-1)) [p] b) V3 _ D' M' (by omega) (by omega) ?_ hB2 ?_ (fun q hq => hm q (List.mem_cons_of_mem _ hq)) hch2 ?_ (zFt_43 hf2 f3) ?_ _
        · rw [hbb]
          exact ⟨fun h => by omega, fun h => by simp at h⟩
        · intro q v hqv
          cases b with
          | none =>
            simp only [yBst, Option.some.injEq, Prod.mk.injEq] at hqv
            rw [← hqv.2]; exact hvv
          | some b1 =>
            obtain ⟨q1, v1⟩ := b1
            have h1 := hv q1 v1 rfl
            simp only [yBst] at hqv
            split at hqv
            · simp only [Option.some.injEq, Prod.mk.injEq] at hqv
              rw [← hqv.2]; exact hvv
            · simp only [Option.some.injEq, Prod.mk.injEq] at hqv
              rw [← hqv.2]; exact h1
        · refine ⟨hO3.1, fun j hj => ?_⟩
          have := hO3.2 j hj
          rw [hg2 j hj] at this
          exact this
        · intro V4 D4 M4 f4 hB4
          rw [← yBst_app] at hB4
          exact K V4 D4 M4 f4 hB4
    apply b92_25 hF
    · intro c1
      simp (disch := omega) only [zI_le] at c1
      exfalso; omega
    intro _
    apply b92_32 hF
    · intro c1; exact absurd c1 (by decide)
    intro _
    have hS1 := zFt_S hS hf
    apply b92_37 hF
    apply s83 hF hb7 hb (by omega) hS1
    intro V2 hS2 f2
    have hf2 : zFt V V2 := fun a a1 a2 a3 a4 a5 a6 a7 => by rw [f2 a (by omega)]; exact hf a a1 a2 a3 a4 a5 a6 a7
    have hO2 : zO V2 c (fun k => p.getD k 0) := ⟨by rw [f2 43 (by omega)]; exact hO.1, fun j hj => by rw [f2 44 (by omega)]; exact hO.2 j hj⟩
    apply b92_48 hF
    have hpl := (hm p List.mem_cons_self).1
    have hpm := (hm p List.mem_cons_self).2
    apply s78 hF hb7 hS2 hW (zFt_R hR hf2) hru (one := -1) (at' := fun k => p.getD k 0) (by omega) hr (by omega) hO2.2 hO2.1
    intro V3 hS3 f3
    have hf3 : zFt V V3 := fun a a1 a2 a3 a4 a5 a6 a7 => by rw [f3 a (by omega) a2 a3 a4 a5]; exact hf2 a a1 a2 a3 a4 a5 a6 a7
    have hO3 : zO V3 c (fun k => p.getD k 0) := ⟨by rw [f3 43 (by omega) (by omega) (by omega) (by omega) (by omega)]; exact hO2.1, fun j hj => by rw [f3 44 (by omega) (by omega) (by omega) (by omega) (by omega)]; exact hO2.2 j hj⟩
    have eS : yAl w r (-1) (fun k => p.getD k 0) 0 c (S, 0) = p.foldl (ySp w r (-1)) (S, 0) := by
      rw [← hpl, yAl_l p 0 (S, 0) (fun k _ => by rw [Nat.zero_add])]
    rw [eS] at hS3
    have hwf := (ySp_wf (w := w) (who := -1) hr p (S, 0) (fun f hf => by have := hpm f hf; omega) hW (by dsimp only; omega)).1
    apply b92_65 hF
    apply s13 hF hb7 hS3 hwf hr
    have hz := zpc_le 24 (zgb (p.foldl (ySp w r (-1)) (S, 0)).1 r)
    have ev : yVal w S r (-1) p = -(zpc 24 (zgb (p.foldl (ySp w r (-1)) (S, 0)).1 r) : Int) := by
      unfold yVal
      rw [if_pos rfl]
    generalize zpc 24 (zgb (p.foldl (ySp w r (-1)) (S, 0)).1 r) = L at *
    apply b92_74 hF
    · intro c1
      simp (disch := omega) only [zI_eq, zI_0] at c1
      have hbn : b = none := hb0.mp (by omega)
      subst hbn
      apply b92_88 hF
      apply s88 hF (by omega) hpl hO3
      apply b92_99 hF
      exact fin V3 _ _ hO3 hf3 ⟨rfl, by rw [ev]⟩ _
    · intro c1
      simp (disch := omega) only [zI_eq, zI_0] at c1
      cases b with
      | none => exact absurd (hb0.mpr rfl) (by omega)
      | some b1 =>
        obtain ⟨q1, v1⟩ := b1
        have h1 := hv q1 v1 rfl
        obtain ⟨hD, hM⟩ := hB
        simp only [yBst] at fin
        apply b92_81 hF
        · intro c2
          simp (disch := omega) only [zI_le] at c2
          rw [if_neg (by omega)] at fin
          exact fin V3 _ _ hO3 hf3 ⟨hD, hM⟩ _
        · intro c2
          simp (disch := omega) only [zI_le] at c2
          rw [if_pos (by omega)] at fin
          apply b92_88 hF
          apply s88 hF (by omega) hpl hO3
          apply b92_99 hF
          exact fin V3 _ _ hO3 hf3 ⟨rfl, by rw [ev]⟩ _
