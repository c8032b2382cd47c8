/-! What stands between two calls -/
def zRC (V : Nat → Nat → Int32) (S : Nat → Nat → Nat) (N : Nat) (w : Nat → Nat → (Nat → Int32) → Int32) (b : Nat → Nat) (n : Nat) (H : Nat → Int × Nat × (Nat → Int32)) (im : Prop) (I : Nat → Nat → Nat) : Prop := zCS 1 V S ∧ zRu V N w ∧ zTc V b n ∧ zHc V H ∧ zCS 13 V I ∧ (im ↔ ¬ V 0 8 = 0)
def zRM (V : Nat → Nat → Int32) (S : Nat → Nat → Nat) (N : Nat) (w : Nat → Nat → (Nat → Int32) → Int32) (b : Nat → Nat) (n : Nat) (H : Nat → Int × Nat × (Nat → Int32)) (im : Prop) (I : Nat → Nat → Nat) : Prop := zMS V S ∧ zRt V N w ∧ V 59 3 = Int32.ofInt (N : Int) ∧ zTm V b n ∧ zHm V H ∧ (im → zKp V I) ∧ (im ↔ ¬ V 59 40 = Int32.ofInt (-1))
def zIv (K : Nat → Nat) (S : Nat → Nat → Nat) (N : Nat) (H : Nat → Int × Nat × (Nat → Int32)) (im : Prop) (I : Nat → Nat → Nat) : Prop := zWf S ∧ S 5 2 < N ∧ S 5 1 ≤ 999 ∧ (∀ i, i < 5 → K i ≤ 5) ∧ zHw H ∧ (im → zWf I ∧ I 5 2 < N ∧ I 5 1 ≤ 999 ∧ yMn I S)
def zRel (V : Nat → Nat → Int32) : Prop := ∃ K S N w b n H im I, zRC V S N w b n H im I ∧ zRM V (yRe K S) N w b n H im I ∧ zIv K S N H im I
section
variable {V V2 : Nat → Nat → Int32} {K : Nat → Nat} {S S2 : Nat → Nat → Nat} {N : Nat} {w : Nat → Nat → (Nat → Int32) → Int32} {b : Nat → Nat} {n : Nat} {H : Nat → Int × Nat × (Nat → Int32)} {im : Prop} {I : Nat → Nat → Nat}
theorem zCS_fg {c : Nat} (h : zCS c V S) (hf : ∀ a, c ≤ a → a ≤ c + 5 → V2 a = V a) : zCS c V2 S := by
  unfold zCS
  rw [hf c (by omega) (by omega), hf (c + 1) (by omega) (by omega), hf (c + 2) (by omega) (by omega), hf (c + 3) (by omega) (by omega), hf (c + 4) (by omega) (by omega), hf (c + 5) (by omega) (by omega)]
  exact h
theorem zTc_fr (h : zTc V b n) (h5 : V2 45 = V 45) (h6 : V2 46 = V 46) : zTc V2 b n := by
  unfold zTc
  rw [h5, h6]
  exact h
/-- the class's cells after a call that changes at most its state -/
theorem zRC_st (h : zRC V S N w b n H im I) (hf : yFn V V2) (hS : zCS 1 V2 S2) : zRC V2 S2 N w b n H im I := by
  obtain ⟨h1, h2, h3, h4, h5, h6⟩ := h
  refine ⟨hS, zRu_fr h2 (fun a ha => hf a (by omega) (by omega) (by omega) (by omega) (by omega) (by omega) (by omega)), zTc_fr h3 (hf 45 (by omega) (by omega) (by omega) (by omega) (by omega) (by omega) (by omega)) (hf 46 (by omega) (by omega) (by omega) (by omega) (by omega) (by omega) (by omega)), zHc_fr h4 (fun a a1 a2 => hf a (by omega) (by omega) (by omega) (by omega) (by omega) (by omega) (by omega)), zCS_fg h5 (fun a a1 a2 => hf a (by omega) (by omega) (by omega) (by omega) (by omega) (by omega) (by omega)), ?_⟩
  rw [hf 0 (by omega) (by omega) (by omega) (by omega) (by omega) (by omega) (by omega)]
  exact h6
theorem zRC_fr (h : zRC V S N w b n H im I) (hf : zFt V V2) : zRC V2 S N w b n H im I := by
  obtain ⟨h1, h2, h3, h4, h5, h6⟩ := h
  refine ⟨zCS_fg h1 (fun a a1 a2 => hf a (by omega) (by omega) (by omega) (by omega) (by omega) (by omega) (by omega)), zRu_fr h2 (fun a ha => hf a (by omega) (by omega) (by omega) (by omega) (by omega) (by omega) (by omega)), zTc_fr h3 (hf 45 (by omega) (by omega) (by omega) (by omega) (by omega) (by omega) (by omega)) (hf 46 (by omega) (by omega) (by omega) (by omega) (by omega) (by omega) (by omega)), zHc_fr h4 (fun a a1 a2 => hf a (by omega) (by omega) (by omega) (by omega) (by omega) (by omega) (by omega)), zCS_fg h5 (fun a a1 a2 => hf a (by omega) (by omega) (by omega) (by omega) (by omega) (by omega) (by omega)), ?_⟩
  rw [hf 0 (by omega) (by omega) (by omega) (by omega) (by omega) (by omega) (by omega)]
  exact h6
/-- the reference's cells while the class runs, and the other way round -/
theorem zRM_c (h : zRM V S N w b n H im I) (hf : ∀ a, 59 ≤ a → V2 a = V a) : zRM V2 S N w b n H im I := by
  unfold zRM zMS zRt zTm zHm zHo zKp
  rw [hf 59 (by omega), hf 60 (by omega), hf 61 (by omega), hf 62 (by omega), hf 63 (by omega), hf 64 (by omega), hf 65 (by omega), hf 66 (by omega), hf 74 (by omega), hf 75 (by omega), hf 76 (by omega), hf 77 (by omega), hf 78 (by omega), hf 79 (by omega), hf 80 (by omega)]
  exact h
theorem zRC_m (h : zRC V S N w b n H im I) (hf : ∀ a, a < 59 → V2 a = V a) : zRC V2 S N w b n H im I := by
  obtain ⟨h1, h2, h3, h4, h5, h6⟩ := h
  refine ⟨zCS_fg h1 (fun a a1 a2 => hf a (by omega)), zRu_fr h2 (fun a ha => hf a (by omega)), zTc_fr h3 (hf 45 (by omega)) (hf 46 (by omega)), zHc_fr h4 (fun a a1 a2 => hf a (by omega)), zCS_fg h5 (fun a a1 a2 => hf a (by omega)), ?_⟩
  rw [hf 0 (by omega)]
  exact h6
theorem yFr_fq (h : yFr V V2) : yFq V V2 := ⟨h.1, fun j hj => h.2 j (by omega)⟩
theorem zRM_st (h : zRM V S N w b n H im I) (hf : yFq V V2) (hS : zMS V2 S2) : zRM V2 S2 N w b n H im I := by
  obtain ⟨h1, h2, h3, h4, h5, h6, h7⟩ := h
  refine ⟨hS, zRt_fr h2 (hf.1 60 (by omega) (by omega)) (hf.1 61 (by omega) (by omega)), by rw [hf.2 3 (by omega)]; exact h3, ?_, zHm_fr h5 (fun a a1 a2 => hf.1 a (by omega) (by omega)), fun c => ?_, ?_⟩
  · unfold zTm
    rw [hf.2 6 (by omega), hf.1 62 (by omega) (by omega)]
    exact h4
  · have := h6 c
    unfold zKp at this ⊢
    rw [hf.2 40 (by omega), hf.2 41 (by omega), hf.2 42 (by omega), hf.1 74 (by omega) (by omega), hf.1 75 (by omega) (by omega), hf.1 76 (by omega) (by omega)]
    exact this
  · rw [hf.2 40 (by omega)]
    exact h7
theorem zIv_st (h : zIv K S N H im I) (hW : zWf S2) (h2 : S2 5 2 < N) (h1 : S2 5 1 ≤ 999) (hm : yMn S S2) : zIv K S2 N H im I := by
  obtain ⟨_, _, _, h4, h5, h6⟩ := h
  exact ⟨hW, h2, h1, h4, h5, fun c => ⟨(h6 c).1, (h6 c).2.1, (h6 c).2.2.1, yMn_tr (h6 c).2.2.2 hm⟩⟩
theorem zWf_re (hW : zWf S) (hK : ∀ i, i < 5 → K i ≤ 5) : zWf (yRe K S) := by
  obtain ⟨h1, h2, h3, h4, h5⟩ := hW
  have e0 : yRe K S 0 = S 0 := yRe_n (by omega)
  have e1 : yRe K S 1 = S 1 := yRe_n (by omega)
  have e3 : yRe K S 3 = S 3 := yRe_n (by omega)
  have e4 : yRe K S 4 = S 4 := yRe_n (by omega)
  have e5 : yRe K S 5 = S 5 := yRe_n (by omega)
  unfold zWf zWg
  rw [e0, e1, e3, e4, e5]
  refine ⟨h1, fun i hi => ⟨?_, (h2 i hi).2⟩, h3, h4, h5⟩
  by_cases c : i < S 5 0
  · rw [yRe_2 c]; exact (h2 i hi).1
  · unfold yRe
    rw [if_pos ⟨rfl, by omega⟩]
    exact hK i hi
end
theorem zScr (x : zXs) (i : Nat) : ∃ z : Int, x.2 i = Int32.ofInt z ∧ (-2147483648 ≤ z ∧ z ≤ 2147483647) := ⟨(x.2 i).toInt, (Int32.ofInt_toInt _).symm, by
  have h1 := Int32.le_toInt (x.2 i)
  have h2 := Int32.toInt_lt (x.2 i)
  omega⟩
section
variable {S : Nat → Nat → Nat} {w : Nat → Nat → (Nat → Int32) → Int32}
theorem zLay_5 {row len st : Int} : yLayS S row len st 5 = S 5 := by
  unfold yLayS
  by_cases c : yLayOk row len st
  · rw [if_pos c, zu_ne (by omega), zu_ne (by omega)]
  · rw [if_neg c]
theorem zSet_5 {what who v : Int} : ySetS S what who v 5 2 = S 5 2 ∧ (S 5 1 ≤ 999 → ySetS S what who v 5 1 ≤ 999) := by
  unfold ySetS
  by_cases c : ySetOk S what who v
  · rw [if_pos c]
    by_cases c0 : what = 0
    · rw [if_pos c0]
      refine ⟨by rw [zuN_nk (by omega)], fun _ => ?_⟩
      rw [zuN_at]
      rcases c with c | c | c <;> omega
    · rw [if_neg c0]
      by_cases c1 : what = 1
      · rw [if_pos c1, zu_ne (by omega)]
        exact ⟨rfl, fun h => h⟩
      · rw [if_neg c1, zu_ne (by omega)]
        exact ⟨rfl, fun h => h⟩
  · rw [if_neg c]
    exact ⟨rfl, fun h => h⟩
theorem zCom_5 {kind num : Int} : yComS S kind num 5 2 = S 5 2 ∧ yComS S kind num 5 1 = S 5 1 := by
  unfold yComS
  by_cases c : ((0 ≤ kind ∧ kind ≤ 5) ∧ (0 ≤ num ∧ num ≤ 9)) ∧ S 5 0 < 5
  · rw [if_pos c]
    constructor
    · rw [zuN_nk (by omega), zu_ne (by omega), zu_ne (by omega), zu_ne (by omega)]
    · rw [zuN_nk (by omega), zu_ne (by omega), zu_ne (by omega), zu_ne (by omega)]
  · rw [if_neg c]
    exact ⟨rfl, rfl⟩
theorem zForce_5 {n : Nat} {t : Int} (h : S 5 2 < n) : yForceS S n t 5 1 = S 5 1 ∧ yForceS S n t 5 2 < n := by
  unfold yForceS
  by_cases c : 0 ≤ t ∧ t < n
  · rw [if_pos c, zuN_nk (by omega), zuN_at]
    exact ⟨rfl, by omega⟩
  · rw [if_neg c]
    exact ⟨rfl, h⟩
theorem zForce_wf {n : Nat} {t : Int} (hW : zWf S) (hn : n ≤ 6) : zWf (yForceS S n t) := by
  unfold yForceS
  by_cases c : 0 ≤ t ∧ t < n
  · rw [if_pos c]
    obtain ⟨h1, h2, h3, h4, h5⟩ := hW
    refine ⟨fun i hi => ?_, fun i hi => ?_, ?_, ?_, ?_⟩
    · rw [zu_ne (by omega), zu_ne (by omega)]; exact h1 i hi
    · rw [zu_ne (by omega), zu_ne (by omega), zu_ne (by omega)]; exact h2 i hi
    · rw [zuN_nk (by omega)]; exact h3
    · rw [zuN_nk (by omega)]; exact h4
    · rw [zuN_at]; omega
  · rw [if_neg c]
    exact hW
theorem zGln_5 {one row : Int} : yGlnS w S one row 5 = S 5 := by
  unfold yGlnS
  by_cases c : (0 ≤ one ∧ one < S 5 0) ∧ 0 ≤ row ∧ row ≤ 3
  · rw [if_pos c, yGS_5]
  · rw [if_neg c]
theorem zGln_wf {one row : Int} (hW : zWf S) : zWf (yGlnS w S one row) := by
  have := hW.2.2.1
  unfold yGlnS
  by_cases c : (0 ≤ one ∧ one < S 5 0) ∧ 0 ≤ row ∧ row ≤ 3
  · rw [if_pos c]
    exact yGS_wf hW (by omega) (by omega)
  · rw [if_neg c]
    exact hW
theorem zGo_5 {row order : Int} : yGoS w S row order 5 = S 5 := by
  unfold yGoS
  by_cases c : yGoOk S row order
  · rw [if_pos c, yOr_5]
  · rw [if_neg c]
theorem zNgt_5 (h : S 5 1 ≤ 999) : yNgtS w S 5 2 = S 5 2 ∧ yNgtS w S 5 1 ≤ 999 := by
  unfold yNgtS
  by_cases c : S 5 1 < 999
  · rw [if_pos c]
    unfold yNi
    rw [zuN_nk (by omega), zuN_at]
    refine ⟨?_, by omega⟩
    unfold yNp
    rw [if_neg (by omega), if_neg (by omega)]
  · rw [if_neg c]
    exact ⟨rfl, h⟩
theorem zNgt_wf (hW : zWf S) : zWf (yNgtS w S) := by
  unfold yNgtS
  by_cases c : S 5 1 < 999
  · rw [if_pos c]
    exact yNi_wf hW (by omega)
  · rw [if_neg c]
    exact hW
theorem zGnr_5 {sz : Nat} {it : Nat → Int32} : ∀ (m : Nat) (a : Int) (p : (Nat → Nat → Nat) × Int), (yGnr sz it m a p).1 5 2 = p.1 5 2 ∧ (yGnr sz it m a p).1 5 1 = p.1 5 1 := by
  intro m
  induction m with
  | zero => intro a p; exact ⟨rfl, rfl⟩
  | succ m ih =>
    intro a p
    rw [yGnr]
    by_cases c : 0 ≤ a ∧ a + 2 ≤ sz
    · rw [if_pos c]
      have h := ih (a + 2) (yComS p.1 (it a.toNat).toInt (it (a.toNat + 1)).toInt, if 0 ≤ yCom p.1 (it a.toNat).toInt (it (a.toNat + 1)).toInt then p.2 + 1 else p.2)
      dsimp only at h
      have h2 := zCom_5 (S := p.1) (kind := (it a.toNat).toInt) (num := (it (a.toNat + 1)).toInt)
      exact ⟨h.1.trans h2.1, h.2.trans h2.2⟩
    · rw [if_neg c]
      exact ⟨rfl, rfl⟩
theorem zGners_5 {H : Nat → Int × Nat × (Nat → Int32)} {s sort a n : Int} : (yGners H S s sort a n).1 5 2 = S 5 2 ∧ (yGners H S s sort a n).1 5 1 = S 5 1 := by
  unfold yGners
  by_cases c : (0 ≤ s ∧ s ≤ 3) ∧ (0 ≤ sort ∧ sort ≤ 2) ∧ (0 ≤ n ∧ n ≤ 5)
  · rw [if_pos c]
    by_cases c1 : (H s.toNat).1 = -1
    · rw [if_pos c1]
      exact ⟨rfl, rfl⟩
    · rw [if_neg c1]
      by_cases c2 : (H s.toNat).1 = sort
      · rw [if_pos c2]
        exact zGnr_5 _ _ _
      · rw [if_neg c2]
        exact ⟨rfl, rfl⟩
  · rw [if_neg c]
    exact ⟨rfl, rfl⟩
end
