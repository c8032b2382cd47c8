/-! Words, signs, faults, levels: the reference -/
theorem yWl_ne : ∀ i j, i < 12 → j < 12 → i ≠ j → (yWl i).length ≠ (yWl j).length ∨ ∃ k, k < (yWl i).length ∧ (yWl i).getD k 0 ≠ (yWl j).getD k 0 := by
  have h : ∀ i, i < 12 → ∀ j, j < 12 → i ≠ j → ((yWl i).length ≠ (yWl j).length ∨ (List.range (yWl i).length).any (fun k => (yWl i).getD k 0 != (yWl j).getD k 0) = true) := by decide +kernel
  intro i j hi hj hij
  rcases h i hi j hj hij with c | c
  · exact Or.inl c
  · obtain ⟨k, k1, k2⟩ := List.any_eq_true.mp c
    exact Or.inr ⟨k, List.mem_range.mp k1, by simpa using k2⟩
theorem yWm_1 {b : Nat → Nat} {s e i j : Nat} (hi : i < 12) (hj : j < 12) (h1 : yWm b s e (yWl i) = true) (h2 : yWm b s e (yWl j) = true) : i = j := by
  apply Decidable.byContradiction
  intro c
  have a := yWm_i.mp h1
  have a2 := yWm_i.mp h2
  rcases yWl_ne i j hi hj c with q | ⟨k, k1, k2⟩
  · omega
  · have := a.2 k k1
    have := a2.2 k (by omega)
    omega
theorem yWf_s {b : Nat → Nat} {s e : Nat} : ∀ m, m ≤ 12 → (yWf b s e m = (1, 0) ∧ ∀ j, j < m → ¬ yWm b s e (yWl j) = true) ∨ ∃ j, j < m ∧ yWm b s e (yWl j) = true ∧ yWf b s e m = (if j < 6 then 3 else j - 2, j) := by
  intro m
  induction m with
  | zero => intro _; exact Or.inl ⟨rfl, fun j hj => absurd hj (Nat.not_lt_zero _)⟩
  | succ m ih =>
    intro hm
    have hn2 : yWf b s e (m + 1) = if yWm b s e (yWl m) = true then (if m < 6 then 3 else m - 2, m) else yWf b s e m := rfl
    by_cases c : yWm b s e (yWl m) = true
    · rw [if_pos c] at hn2
      exact Or.inr ⟨m, by omega, c, hn2⟩
    · rw [if_neg c] at hn2
      rcases ih (by omega) with ⟨q1, q2⟩ | ⟨j, q1, q2, q3⟩
      · refine Or.inl ⟨by rw [hn2, q1], fun j hj => ?_⟩
        by_cases hjm : j = m
        · subst hjm; exact c
        · exact q2 j (by omega)
      · exact Or.inr ⟨j, by omega, q2, by rw [hn2, q3]⟩
/-- a token is the word i -/
def yIsW (i : Nat) (g : yL) : Prop := if i < 6 then g.1 = 3 ∧ g.2.1 = i else g.1 = i - 2
theorem yIsW_f {b : Nat → Nat} {i : Nat} (hi : i < 12) {g : yL} (h : g.1 = (yWf b g.2.2.1 g.2.2.2.1 12).1 ∧ g.2.1 = (yWf b g.2.2.1 g.2.2.2.1 12).2) : yIsW i g ↔ yWm b g.2.2.1 g.2.2.2.1 (yWl i) = true := by
  unfold yIsW
  rcases yWf_s (b := b) (s := g.2.2.1) (e := g.2.2.2.1) 12 (Nat.le_refl _) with ⟨q1, q2⟩ | ⟨j, q1, q2, q3⟩
  · rw [q1] at h
    have := q2 i hi
    constructor
    · intro c; split at c <;> (exfalso; have := h.1; dsimp only at this; omega)
    · intro c; exact absurd c this
  · rw [q3] at h
    obtain ⟨h1, h2⟩ := h
    dsimp only at h1 h2
    constructor
    · intro c
      have : i = j := by split at c <;> split at h1 <;> omega
      subst this; exact q2
    · intro c
      have := yWm_1 hi q1 c q2
      subst this
      split
      · rename_i c2
        rw [if_pos c2] at h1; exact ⟨h1, h2⟩
      · rename_i c2
        rw [if_neg c2] at h1; exact h1
/-- a word by eight letters, blank ones as 0 -/
theorem yWm_8 {b : Nat → Nat} {s e i : Nat} (hi : i < 12) (hse : s ≤ e) (hl : ∀ j, s ≤ j → j < e → 97 ≤ b j ∧ b j ≤ 122) : yWm b s e (yWl i) = true ↔ (e ≤ s + 8 ∧ ∀ k, k < 8 → if s + k < e then b (s + k) = (yWl i).getD k 0 else (yWl i).getD k 0 = 0) := by
  rw [yWm_i]
  have hw := yWl_b i hi
  have hz : ∀ k, (yWl i).length ≤ k → (yWl i).getD k 0 = 0 := fun k hk => by
    rw [List.getD_eq_getElem?_getD, List.getElem?_eq_none hk, Option.getD_none]
  constructor
  · rintro ⟨h1, h2⟩
    refine ⟨by omega, fun k hk => ?_⟩
    by_cases c : s + k < e
    · rw [if_pos c]; exact h2 k (by omega)
    · rw [if_neg c]; exact hz k (by omega)
  · rintro ⟨h1, h2⟩
    have hlen : e - s = (yWl i).length := by
      rcases Nat.lt_trichotomy (e - s) (yWl i).length with c | c | c
      · have a := h2 (e - s) (by omega)
        rw [if_neg (by omega)] at a
        have := hw.2 (e - s) c
        omega
      · exact c
      · have a := h2 (yWl i).length (by omega)
        rw [if_pos (by omega), hz _ (Nat.le_refl _)] at a
        have := hl (s + (yWl i).length) (by omega) (by omega)
        omega
    refine ⟨hlen, fun k hk => ?_⟩
    have a := h2 k (by omega)
    rw [if_pos (by omega)] at a
    exact a
theorem s145 {x : zXs} {F : zF} (hF : zSh F) {d : Nat} {V : Nat → Nat → Int32} {T : Nat → Nat → Int64} {Q : Option Value → zG → Prop} {b : Nat → Nat} {n t s e : Nat} (hg : zGt V b n t) (h21 : V 59 21 = Int32.ofInt (e : Int)) (h23 : V 59 23 = Int32.ofInt (s : Int)) (he : e ≤ n) (hse : s ≤ e) {i c : Nat} (hi : i < 8) (hc : c ≤ 255) (k1 : (if s + i < e then b (s + i) = c else c = 0) → Q (some (.int (Int32.ofInt 1))) (V, T)) (k0 : ¬ (if s + i < e then b (s + i) = c else c = 0) → Q (some (.int (Int32.ofInt 0))) (V, T)) : E x F (d + 1) 145 0 [some (.ref 59), some (.int (Int32.ofInt ((i:Int)))), some (.int (Int32.ofInt ((c:Int))))] [] (V, T) Q := by
  have hn := hg.2.2.2.1
  apply b145_0 hF
  · rw [h21, h23, zI_add]
    intro c1
    simp (disch := omega) only [zI_le] at c1
    rw [if_neg (by omega)] at k1 k0
    apply b145_35 hF
    · intro c2
      have c2 : ¬ Int32.ofInt (c : Int) = Int32.ofInt 0 := c2
      simp (disch := omega) only [zI_eq] at c2
      exact b145_43 hF (b145_44 hF zNb0 (k0 (by omega)))
    · intro c2
      have c2 : ¬ ¬ Int32.ofInt (c : Int) = Int32.ofInt 0 := c2
      simp (disch := omega) only [zI_eq] at c2
      exact b145_39 hF (b145_44 hF zNb1 (k1 (by omega)))
  · rw [h21, h23, zI_add]
    intro c1
    simp (disch := omega) only [zI_le] at c1
    rw [if_pos (by omega)] at k1 k0
    have hb := (hg.2.2.2.2 (s + i) (by omega)).2
    apply b145_13 hF
    rw [h23, zI_add, show (s : Int) + (i : Int) = ((s + i : Nat) : Int) by omega]
    apply s143 hF hg (by omega)
    rw [if_pos (by omega)]
    apply b145_23 hF
    · intro c2
      simp (disch := omega) only [zI_eq] at c2
      exact b145_31 hF (b145_44 hF zNb0 (k0 (by omega)))
    · intro c2
      simp (disch := omega) only [zI_eq] at c2
      exact b145_27 hF (b145_44 hF zNb1 (k1 (by omega)))
theorem s144 {x : zXs} {F : zF} (hF : zSh F) {d : Nat} {V : Nat → Nat → Int32} {T : Nat → Nat → Int64} {Q : Option Value → zG → Prop} {b : Nat → Nat} {n t q i : Nat} (hi : i < 12) {g : yL} (hg : zGr V T b n t q g) (hw : yGw n g) (k1 : yIsW i g → 3 ≤ g.1 → Q (some (.int (Int32.ofInt 1))) (V, T)) (k0 : ¬ yIsW i g → Q (some (.int (Int32.ofInt 0))) (V, T)) {c0 c1 c2 c3 c4 c5 c6 c7 : Int32} (hc : [c0, c1, c2, c3, c4, c5, c6, c7] = (List.range 8).map (fun k => Int32.ofInt ((yWl i).getD k 0 : Int))) : E x F (d + 2) 144 0 [some (.ref 59), some (.int c0), some (.int c1), some (.int c2), some (.int c3), some (.int c4), some (.int c5), some (.int c6), some (.int c7)] [] (V, T) Q := by
  have w1 := hw.1
  have w7 := hw.2.2.2.2.2.2.1
  obtain ⟨hgt, hf0, hf1⟩ := hg
  have k3 : yIsW i g → 3 ≤ g.1 := fun c => by
    unfold yIsW at c
    split at c <;> omega
  have k1 := fun c => k1 c (k3 c)
  have no : (¬ yIsW i g) → E x F (d + 2) 144 112 [some (.ref 59), some (.int c0), some (.int c1), some (.int c2), some (.int c3), some (.int c4), some (.int c5), some (.int c6), some (.int c7)] [] (V, T) Q := fun c => b144_112 hF (b144_113 hF zNb0 (k0 c))
  have kx : ¬ (3 ≤ g.1 ∧ g.1 ≤ 9) → ¬ yIsW i g := fun c c2 => by
    unfold yIsW at c2
    split at c2 <;> omega
  apply b144_0 hF
  · intro c
    refine no (kx (fun c2 => ?_))
    by_cases hf : g.2.2.2.2 = 0
    · exact c ((hf0 hf).1.trans rfl)
    · have := w7 hf; omega
  intro c
  have hf : g.2.2.2.2 = 0 := by
    apply Decidable.byContradiction
    intro c2
    rw [(hf1 c2).1] at c
    exact c (by decide)
  obtain ⟨f1, f2, f3, f4⟩ := hf0 hf
  apply b144_7 hF
  · intro c1
    refine no (kx (fun c2 => ?_))
    rcases f4 with q | q | q | q | q
    · omega
    · omega
    · omega
    · exact c1 q.1
    · omega
  intro c1
  have c1 := Decidable.not_not.mp c1
  have hW : (g.1 = (yWf b g.2.2.1 g.2.2.2.1 12).1 ∧ g.2.1 = (yWf b g.2.2.1 g.2.2.2.1 12).2) ∧ V 59 21 = Int32.ofInt (g.2.2.2.1 : Int) ∧ g.2.2.1 ≤ g.2.2.2.1 ∧ ∀ j, g.2.2.1 ≤ j → j < g.2.2.2.1 → 97 ≤ b j ∧ b j ≤ 122 := by
    rcases f4 with q | q | q | q | q
    · rw [q.1] at c1; exact absurd c1 (by decide)
    · rw [q.1] at c1; exact absurd c1 (by decide)
    · rw [q.1] at c1; exact absurd c1 (by decide)
    · exact q.2
    · rw [q.1] at c1; exact absurd c1 (by decide)
  obtain ⟨g1, g2, hse, g3⟩ := hW
  have w5 := hw.2.2.2.2.1
  have w4 := hw.2.2.2.1
  have hn := hgt.2.2.2.1
  have iff8 := (yIsW_f hi g1).trans (yWm_8 hi hse g3)
  have hwl := yWl_b i hi
  have hcb : ∀ k, (yWl i).getD k 0 ≤ 255 := fun k => by
    by_cases c : k < (yWl i).length
    · have := hwl.2 k c; omega
    · rw [List.getD_eq_getElem?_getD, List.getElem?_eq_none (by omega), Option.getD_none]; omega
  simp only [List.range, List.range.loop, List.map_cons, List.map_nil, List.cons.injEq, and_true] at hc
  obtain ⟨rfl, rfl, rfl, rfl, rfl, rfl, rfl, rfl⟩ := hc
  generalize g.2.2.1 = s at *
  generalize g.2.2.2.1 = e at *
  apply b144_15 hF
  · rw [f3, g2, zI_add]
    intro c3
    simp (disch := omega) only [zI_lt] at c3
    exact no (fun c4 => by have := (iff8.mp c4).1; omega)
  rw [f3, g2, zI_add]
  intro c3
  simp (disch := omega) only [zI_lt] at c3
  apply b144_29 hF
  refine s145 hF hgt g2 f3 w5 hse (i := 0) (by omega) (hcb 0) ?_ ?_ <;> intro p0 <;> apply b144_35 hF <;> intro z0 <;> first | exact absurd z0 (by decide) | exact absurd rfl z0 | exact no (fun c4 => p0 ((iff8.mp c4).2 0 (by omega))) | skip
  apply b144_38 hF
  refine s145 hF hgt g2 f3 w5 hse (i := 1) (by omega) (hcb 1) ?_ ?_ <;> intro p1 <;> apply b144_44 hF <;> intro z0 <;> first | exact absurd z0 (by decide) | exact absurd rfl z0 | exact no (fun c4 => p1 ((iff8.mp c4).2 1 (by omega))) | skip
  apply b144_47 hF
  refine s145 hF hgt g2 f3 w5 hse (i := 2) (by omega) (hcb 2) ?_ ?_ <;> intro p2 <;> apply b144_53 hF <;> intro z0 <;> first | exact absurd z0 (by decide) | exact absurd rfl z0 | exact no (fun c4 => p2 ((iff8.mp c4).2 2 (by omega))) | skip
  apply b144_56 hF
  refine s145 hF hgt g2 f3 w5 hse (i := 3) (by omega) (hcb 3) ?_ ?_ <;> intro p3 <;> apply b144_63 hF <;> intro z0 <;> first | exact absurd z0 (by decide) | exact absurd rfl z0 | exact no (fun c4 => p3 ((iff8.mp c4).2 3 (by omega))) | skip
  apply b144_66 hF
  refine s145 hF hgt g2 f3 w5 hse (i := 4) (by omega) (hcb 4) ?_ ?_ <;> intro p4 <;> apply b144_73 hF <;> intro z0 <;> first | exact absurd z0 (by decide) | exact absurd rfl z0 | exact no (fun c4 => p4 ((iff8.mp c4).2 4 (by omega))) | skip
  apply b144_76 hF
  refine s145 hF hgt g2 f3 w5 hse (i := 5) (by omega) (hcb 5) ?_ ?_ <;> intro p5 <;> apply b144_83 hF <;> intro z0 <;> first | exact absurd z0 (by decide) | exact absurd rfl z0 | exact no (fun c4 => p5 ((iff8.mp c4).2 5 (by omega))) | skip
  apply b144_86 hF
  refine s145 hF hgt g2 f3 w5 hse (i := 6) (by omega) (hcb 6) ?_ ?_ <;> intro p6 <;> apply b144_94 hF <;> intro z0 <;> first | exact absurd z0 (by decide) | exact absurd rfl z0 | exact no (fun c4 => p6 ((iff8.mp c4).2 6 (by omega))) | skip
  apply b144_97 hF
  refine s145 hF hgt g2 f3 w5 hse (i := 7) (by omega) (hcb 7) ?_ ?_ <;> intro p7 <;> apply b144_105 hF <;> intro z0 <;> first | exact absurd z0 (by decide) | exact absurd rfl z0 | exact no (fun c4 => p7 ((iff8.mp c4).2 7 (by omega))) | skip
  refine b144_108 hF (b144_113 hF zNb1 (k1 (iff8.mpr ⟨by omega, fun k hk => ?_⟩)))
  rcases (show k = 0 ∨ k = 1 ∨ k = 2 ∨ k = 3 ∨ k = 4 ∨ k = 5 ∨ k = 6 ∨ k = 7 by omega) with rfl | rfl | rfl | rfl | rfl | rfl | rfl | rfl
  · exact p0
  · exact p1
  · exact p2
  · exact p3
  · exact p4
  · exact p5
  · exact p6
  · exact p7
/-- a fault in the reference -/
theorem s147 {x : zXs} {F : zF} (hF : zSh F) {d : Nat} {V : Nat → Nat → Int32} {T : Nat → Nat → Int64} {Q : Option Value → zG → Prop} {b : Nat → Nat} {n t q : Nat} {g : yL} (hg : zGr V T b n t q g) (k : ∀ V2, zGr V2 T b n t q (yFail g) → yFm V V2 → Q none (V2, T)) : E x F d 147 0 [some (.ref 59)] [] (V, T) Q := by
  obtain ⟨hgt, hf0, hf1⟩ := hg
  unfold yFail at k
  by_cases hf : g.2.2.2.2 = 0
  · obtain ⟨f1, f2, f3, f4⟩ := hf0 hf
    rw [if_pos hf] at k
    apply b147_0 hF
    · intro c; rw [f1] at c; exact absurd rfl c
    intro _
    apply b147_7 hF
    apply b147_20 hF
    rw [zuN_nk (by omega), f3]
    refine k _ ⟨zGt_zu (zGt_zu hgt (by omega) _) (by omega) _, fun c => ?_, fun _ => ⟨?_, ?_⟩⟩ (yFm_zu (yFm_zu (yFm_rfl V) (by omega) _) (by omega) _)
    · dsimp only at c; omega
    · rw [zuN_nk (by omega), zuN_at]
    · rw [zuN_at]; congr 1; dsimp only; omega
  · obtain ⟨f1, f2⟩ := hf1 hf
    rw [if_neg hf] at k
    apply b147_0 hF
    · intro _
      exact b147_20 hF (k V ⟨hgt, fun c => absurd c hf, fun _ => ⟨f1, f2⟩⟩ (yFm_rfl V))
    · intro c; rw [f1] at c; exact absurd (fun c2 => absurd c2 (by decide)) c
theorem s155 {x : zXs} {F : zF} (hF : zSh F) {d : Nat} {V : Nat → Nat → Int32} {T : Nat → Nat → Int64} {Q : Option Value → zG → Prop} {b : Nat → Nat} {n t q c : Nat} (hc : 40 ≤ c ∧ c ≤ 255) {g : yL} (hg : zGr V T b n t q g) (hw : yGw n g) (k1 : g.1 = c → T 59 24 = Int64.ofInt (c : Int) → Q (some (.int (Int32.ofInt 1))) (V, T)) (k0 : ¬ g.1 = c → Q (some (.int (Int32.ofInt 0))) (V, T)) : E x F d 155 0 [some (.ref 59), some (.int (Int32.ofInt ((c:Int))))] [] (V, T) Q := by
  have w7 := hw.2.2.2.2.2.2.1
  have w1 := hw.1
  obtain ⟨hgt, hf0, hf1⟩ := hg
  by_cases hf : g.2.2.2.2 = 0
  · obtain ⟨f1, f2, f3, f4⟩ := hf0 hf
    apply b155_0 hF
    · intro c; rw [f1] at c; exact absurd rfl c
    intro _
    have hK : (V 59 22 = Int32.ofInt 3 ∧ (40 ≤ g.1 ∧ g.1 ≤ 61) ∧ T 59 24 = Int64.ofInt (g.1 : Int)) ∨ (¬ V 59 22 = Int32.ofInt 3 ∧ g.1 < 40) := by
      rcases f4 with q | q | q | q | q
      · exact Or.inr ⟨by rw [q.1]; decide, by omega⟩
      · exact Or.inr ⟨by rw [q.1]; decide, by omega⟩
      · exact Or.inl ⟨q.1, q.2.1, q.2.2.2⟩
      · have := (yWf_in b g.2.2.1 g.2.2.2.1 12 (by omega)).1
        exact Or.inr ⟨by rw [q.1]; decide, by omega⟩
      · exact Or.inr ⟨by rw [q.1]; decide, by omega⟩
    apply b155_7 hF
    · intro c1
      rcases hK with q | q
      · exact absurd q.1 c1
      · exact b155_29 hF (b155_30 hF zNb0 (k0 (by omega)))
    intro c1
    rcases hK with q | q
    · have hcmp : (lg_cmp (T 59 24) (Int32.ofInt (c : Int)).toInt64 = 0) ↔ g.1 = c := by
        rw [q.2.2, zJ_of (by omega), lg_cmp_eq, ← Int64.toInt_inj, zJ_toInt (by omega), zJ_toInt (by omega)]
        omega
      apply b155_15 hF
      · intro c2
        exact b155_29 hF (b155_30 hF zNb0 (k0 (fun c3 => c2 (hcmp.mpr c3))))
      · intro c2
        have c3 := hcmp.mp (Decidable.not_not.mp c2)
        exact b155_25 hF (b155_30 hF zNb1 (k1 c3 (by rw [q.2.2, c3])))
    · exact absurd q.1 c1
  · have f1 := (hf1 hf).1
    have := w7 hf
    apply b155_0 hF
    · intro _
      exact b155_29 hF (b155_30 hF zNb0 (k0 (by omega)))
    · intro c; rw [f1] at c; exact absurd (fun c2 => absurd c2 (by decide)) c
/-- the reference reads on -/
theorem s142g {x : zXs} {F : zF} (hF : zSh F) {d : Nat} {V : Nat → Nat → Int32} {T : Nat → Nat → Int64} {Q : Option Value → zG → Prop} {b : Nat → Nat} {n t q : Nat} {g : yL} (hg : zGr V T b n t q g) (hw : yGw n g) (h2 : 2 ≤ g.1) (k : ∀ V2 T2, zGr V2 T2 b n t q (yAdv b n g) → yFm V V2 → Q none (V2, T2)) {o1 o2 : Option Value} : E x F (d + 1) 142 0 [some (.ref 59), o1, o2] [] (V, T) Q := by
  have w7 := hw.2.2.2.2.2.2.1
  obtain ⟨hgt, hf0, hf1⟩ := hg
  have hf : g.2.2.2.2 = 0 := by
    apply Decidable.byContradiction
    intro c
    have := w7 c
    omega
  obtain ⟨f1, f2, f3, f4⟩ := hf0 hf
  unfold yAdv at k
  rw [if_pos hf] at k
  refine s142 hF ⟨hgt, f1, f2, yFm_rfl V⟩ hw.2.2.2.2.1 ?_ k
  rcases f4 with q | q | q | q | q
  · exact q.2.2
  · exact q.2.2.1
  · exact q.2.2.1
  · exact q.2.2.1
  · omega
theorem s151 {x : zXs} {F : zF} (hF : zSh F) {d : Nat} {V : Nat → Nat → Int32} {T : Nat → Nat → Int64} {Q : Option Value → zG → Prop} {b : Nat → Nat} {n t q : Nat} (hq : q ≤ 5) {g : yL} (hg : zGr V T b n t q g) (hw : yGw n g) (h2 : 2 ≤ g.1) (k1 : ∀ p, q = p + 1 → ∀ V2 T2, zGr V2 T2 b n t p (yAdv b n g) → yFm V V2 → Q (some (.int (Int32.ofInt 1))) (V2, T2)) (k0 : q = 0 → ∀ V2, zGr V2 T b n t 0 (yFail g) → yFm V V2 → Q (some (.int (Int32.ofInt 0))) (V2, T)) : E x F (d + 2) 151 0 [some (.ref 59)] [] (V, T) Q := by
  have hg0 := hg
  have w7 := hw.2.2.2.2.2.2.1
  obtain ⟨hgt, hf0, hf1⟩ := hg
  have hf : g.2.2.2.2 = 0 := by
    apply Decidable.byContradiction
    intro c
    have := w7 c
    omega
  obtain ⟨f1, f2, f3, f4⟩ := hf0 hf
  apply b151_0 hF
  · rw [f2]
    intro c
    simp (disch := omega) only [zI_eq] at c
    obtain ⟨p, rfl⟩ : ∃ p, q = p + 1 := ⟨q - 1, by omega⟩
    apply b151_14 hF
    rw [f2, zI_add]
    have hg2 : zGr (zu V 59 25 (Int32.ofInt (5 - ((p + 1 : Nat) : Int) + 1))) T b n t p g := by
      refine ⟨zGt_zu hgt (by omega) _, fun _ => ⟨by rw [zuN_nk (by omega)]; exact f1, by rw [zuN_at]; congr 1; omega, by rw [zuN_nk (by omega)]; exact f3, ?_⟩, fun c2 => absurd hf c2⟩
      unfold zKd at f4 ⊢
      rw [zuN_nk (by omega), zuN_nk (by omega)]
      exact f4
    apply s142g hF hg2 hw h2
    intro V2 T2 g2 m2
    apply b151_28 hF
    exact k1 p rfl V2 T2 g2 (yFm_tr (yFm_zu (yFm_rfl V) (by omega) _) m2)
  · rw [f2]
    intro c
    simp (disch := omega) only [zI_eq] at c
    have hq0 : q = 0 := by omega
    subst hq0
    apply b151_8 hF
    apply s147 hF hg0
    intro V2 g2 m2
    exact b151_12 hF (k0 rfl V2 g2 m2)
theorem s156 {x : zXs} {F : zF} (hF : zSh F) {d : Nat} {V : Nat → Nat → Int32} {T : Nat → Nat → Int64} {Q : Option Value → zG → Prop} {b : Nat → Nat} {n t q : Nat} {g : yL} (hg : zGr V T b n t q g) (hw : yGw n g) (k1 : g.1 = 3 → Q (some (.int (V 59 (13 + g.2.1)))) (V, T)) (k0 : ¬ g.1 = 3 → ∀ V2, zGr V2 T b n t q (yFail g) → yFm V V2 → Q (some (.int (Int32.ofInt 0))) (V2, T)) : E x F (d + 3) 156 0 [some (.ref 59)] [] (V, T) Q := by
  have w3 := hw.2.2.1
  have key : ∀ i, i < 6 → yIsW i g → g.1 = 3 ∧ g.2.1 = i := fun i hi c => by
    unfold yIsW at c
    rw [if_pos hi] at c
    exact c
  have key2 : g.1 = 3 → yIsW g.2.1 g := fun c => by
    unfold yIsW
    rw [if_pos (w3 c)]
    exact ⟨c, rfl⟩
  have one : ∀ i, i < 6 → yIsW i g → Q (some (.int (V 59 (13 + i)))) (V, T) := fun i hi c => by
    have a := key i hi c
    rw [← a.2]; exact k1 a.1
  apply b156_0 hF
  refine s144 hF (i := 0) (by omega) hg hw ?_ ?_ rfl
  · intro c _
    apply b156_15 hF
    · intro c2; exact absurd c2 (by decide)
    intro _
    exact b156_18 hF (one 0 (by omega) c)
  intro d0
  apply b156_15 hF
  rotate_left
  · intro c2; exact absurd rfl c2
  intro _
  apply b156_23 hF
  refine s144 hF (i := 1) (by omega) hg hw ?_ ?_ rfl
  · intro c _
    apply b156_38 hF
    · intro c2; exact absurd c2 (by decide)
    intro _
    exact b156_41 hF (one 1 (by omega) c)
  intro d1
  apply b156_38 hF
  rotate_left
  · intro c2; exact absurd rfl c2
  intro _
  apply b156_46 hF
  refine s144 hF (i := 2) (by omega) hg hw ?_ ?_ rfl
  · intro c _
    apply b156_64 hF
    · intro c2; exact absurd c2 (by decide)
    intro _
    exact b156_67 hF (one 2 (by omega) c)
  intro d2
  apply b156_64 hF
  rotate_left
  · intro c2; exact absurd rfl c2
  intro _
  apply b156_72 hF
  refine s144 hF (i := 3) (by omega) hg hw ?_ ?_ rfl
  · intro c _
    apply b156_89 hF
    · intro c2; exact absurd c2 (by decide)
    intro _
    exact b156_92 hF (one 3 (by omega) c)
  intro d3
  apply b156_89 hF
  rotate_left
  · intro c2; exact absurd rfl c2
  intro _
  apply b156_97 hF
  refine s144 hF (i := 4) (by omega) hg hw ?_ ?_ rfl
  · intro c _
    apply b156_114 hF
    · intro c2; exact absurd c2 (by decide)
    intro _
    exact b156_117 hF (one 4 (by omega) c)
  intro d4
  apply b156_114 hF
  rotate_left
  · intro c2; exact absurd rfl c2
  intro _
  apply b156_122 hF
  refine s144 hF (i := 5) (by omega) hg hw ?_ ?_ rfl
  · intro c _
    apply b156_137 hF
    · intro c2; exact absurd c2 (by decide)
    intro _
    exact b156_140 hF (one 5 (by omega) c)
  intro d5
  apply b156_137 hF
  rotate_left
  · intro c2; exact absurd rfl c2
  intro _
  apply b156_145 hF
  apply s147 hF hg
  intro V2 g2 m2
  refine b156_149 hF (k0 (fun c => ?_) V2 g2 m2)
  have a := key2 c
  have := w3 c
  rcases (show g.2.1 = 0 ∨ g.2.1 = 1 ∨ g.2.1 = 2 ∨ g.2.1 = 3 ∨ g.2.1 = 4 ∨ g.2.1 = 5 by omega) with q | q | q | q | q | q <;> rw [q] at a <;> contradiction
