/-! orders: the class's methods -/
def zO (V : Nat → Nat → Int32) (c : Nat) (p : Nat → Nat) : Prop := V 43 1 = Int32.ofInt (c : Int) ∧ ∀ j, j < c → V 44 j = Int32.ofInt (p j : Int) ∧ p j < 5
theorem s88l {x : zXs} {F : zF} (hF : zSh F) {d : Nat} {V : Nat → Nat → Int32} {T : Nat → Nat → Int64} {Q : Option Value → zG → Prop} {c : Nat} (hc : c ≤ 5) (h43 : V 43 1 = Int32.ofInt (c : Int)) : ∀ (l : List Nat) (i : Nat) (D : Nat) (P : Int), P = i → i + l.length = c → (∀ k, k < l.length → V 44 (i + k) = Int32.ofInt (l.getD k 0 : Int)) → Q (some (.int (Int32.ofInt (l.foldl (fun d f => 10 * d + f + 1) D : Nat)))) (V, T) → E x F d 88 4 [some (.ref 43), some (.int (Int32.ofInt ((D:Int)))), some (.int (Int32.ofInt (P)))] [] (V, T) Q := by
  intro l
  induction l with
  | nil =>
    intro i D P hP hi h k
    subst hP
    have hic : i = c := by simpa using hi
    subst hic
    apply b88_4 hF
    · intro _
      exact b88_32 hF k
    · rw [h43]
      intro c1
      simp (disch := omega) only [zI_le] at c1
      exfalso; omega
  | cons a l ih =>
    intro i D P hP hi h k
    subst hP
    rw [List.length_cons] at hi
    have h0 : V 44 i = Int32.ofInt (a : Int) := h 0 (by simp)
    apply b88_4 hF
    · rw [h43]
      intro c1
      simp (disch := omega) only [zI_le] at c1
      exfalso; omega
    intro _
    apply b88_12 hF (i1 := i) (zI_nat i) (by omega)
    rw [h0]
    have e : Int32.ofInt (D : Int) * Int32.ofInt 10 + Int32.ofInt (a : Int) + Int32.ofInt 1 = Int32.ofInt ((10 * D + a + 1 : Nat) : Int) := by
      rw [zI_mul, zI_add, zI_add]; congr 1; omega
    rw [e, zI_add]
    apply ih (i + 1) _ _ (by omega) (by omega)
    · intro j hj
      have := h (j + 1) (by rw [List.length_cons]; omega)
      rw [show i + 1 + j = i + (j + 1) by omega, this]
      rfl
    · exact k
theorem s88 {x : zXs} {F : zF} (hF : zSh F) {d : Nat} {V : Nat → Nat → Int32} {T : Nat → Nat → Int64} {Q : Option Value → zG → Prop} {c : Nat} (hc : c ≤ 5) {l : List Nat} (hl : l.length = c) (h : zO V c (fun k => l.getD k 0)) (k : Q (some (.int (Int32.ofInt (yDi l : Int)))) (V, T)) {o1 o2 : Option Value} : E x F d 88 0 [some (.ref 43), o1, o2] [] (V, T) Q := by
  apply b88_0 hF
  refine s88l hF hc h.1 l 0 0 0 rfl (by omega) (fun j hj => ?_) k
  rw [Nat.zero_add]
  exact (h.2 j (by omega)).1
theorem s90 {x : zXs} {F : zF} (hF : zSh F) {d : Nat} {V : Nat → Nat → Int32} {T : Nat → Nat → Int64} {Q : Option Value → zG → Prop} {c : Nat} (hc : c ≤ 5) {p : Nat → Nat} (h : zO V c p) {i j : Nat} (hi : i < c) (hj : j < c) (k : ∀ V2, zO V2 c (ySw p i j) → (∀ a, a ≠ 44 → V2 a = V a) → Q none (V2, T)) {o3 : Option Value} : E x F d 90 0 [some (.ref 43), some (.int (Int32.ofInt ((i:Int)))), some (.int (Int32.ofInt ((j:Int)))), o3] [] (V, T) Q := by
  apply b90_0 hF (i1 := i) (zI_nat i) (by omega) (i2 := j) (zI_nat j) (by omega) (i3 := i) (zI_nat i) (by omega) (i4 := j) (zI_nat j) (by omega)
  apply k
  · refine ⟨by rw [zu_ne (by omega), zu_ne (by omega)]; exact h.1, fun q hq => ?_⟩
    have hq2 := h.2 q hq
    have hi2 := h.2 i hi
    have hj2 := h.2 j hj
    rw [zu_at, zu_at]
    unfold ySw
    by_cases h1 : q = j
    · rw [if_pos h1, if_pos h1]; exact hi2
    · rw [if_neg h1, if_neg h1]
      by_cases h2 : q = i
      · rw [if_pos h2, if_pos h2]; exact hj2
      · rw [if_neg h2, if_neg h2]; exact hq2
  · intro a ha
    rw [zu_ne ha, zu_ne ha]
theorem yTu_le (p : Nat → Nat) : ∀ t, yTu p t ≤ t := by
  intro t
  induction t with
  | zero => exact Nat.le_refl _
  | succ t ih => simp only [yTu]; split <;> omega
theorem yOt_le (p : Nat → Nat) (tu : Nat) : ∀ o, yOt p tu o ≤ o := by
  intro o
  induction o with
  | zero => exact Nat.le_refl _
  | succ o ih => simp only [yOt]; split <;> omega
theorem s89t {x : zXs} {F : zF} (hF : zSh F) {d : Nat} {V : Nat → Nat → Int32} {T : Nat → Nat → Int64} {Q : Option Value → zG → Prop} {c : Nat} (hc : c ≤ 5) {p : Nat → Nat} (h : zO V c p) {o2 o3 o4 : Option Value} : ∀ (t : Nat) (P : Int), P = (t : Int) - 1 → t < c → E x F d 89 34 [some (.ref 43), some (.int (Int32.ofInt ((yTu p t : Int) - 1))), o2, o3, o4] [] (V, T) Q → E x F d 89 7 [some (.ref 43), some (.int (Int32.ofInt (P))), o2, o3, o4] [] (V, T) Q := by
  intro t
  induction t with
  | zero =>
    intro P hP ht k
    subst hP
    apply b89_7 hF
    · intro _; exact k
    · intro c1
      exact absurd (by decide) c1
  | succ t ih =>
    intro P hP ht k
    have eP : P = (t : Int) := by omega
    subst eP
    have h1 := h.2 t (by omega)
    have h2 := h.2 (t + 1) ht
    simp only [yTu] at k
    apply b89_7 hF
    · intro c1
      simp (disch := omega) only [zI_lt, zI_0] at c1
      exfalso; omega
    intro _
    apply b89_11 hF (i1 := t) (zI_nat t) (by omega) (i2 := t + 1) (by rw [zI_add]; exact zI_nat (t + 1)) (by omega)
    · rw [h1.1, h2.1]
      intro c1
      simp (disch := omega) only [zI_le] at c1
      rw [if_pos (by omega), show ((t + 1 : Nat) : Int) - 1 = (t : Int) by omega] at k
      exact k
    · rw [h1.1, h2.1]
      intro c1
      simp (disch := omega) only [zI_le] at c1
      rw [if_neg (by omega)] at k
      apply b89_28 hF
      rw [zI_add]
      exact ih _ (by omega) (by omega) k
theorem s89o {x : zXs} {F : zF} (hF : zSh F) {d : Nat} {V : Nat → Nat → Int32} {T : Nat → Nat → Int64} {Q : Option Value → zG → Prop} {c : Nat} (hc : c ≤ 5) {p : Nat → Nat} (h : zO V c p) {tu : Nat} (htu : tu < c) {o3 o4 : Option Value} : ∀ (o : Nat) (P : Int), P = (o : Int) → o < c → E x F d 89 73 [some (.ref 43), some (.int (Int32.ofInt ((tu:Int)))), some (.int (Int32.ofInt ((yOt p tu o : Int)))), o3, o4] [] (V, T) Q → E x F d 89 47 [some (.ref 43), some (.int (Int32.ofInt ((tu:Int)))), some (.int (Int32.ofInt (P))), o3, o4] [] (V, T) Q := by
  intro o
  induction o with
  | zero =>
    intro P hP ho k
    subst hP
    apply b89_47 hF
    · intro _; exact k
    · intro c1
      simp (disch := omega) only [zI_le] at c1
      exfalso; omega
  | succ o ih =>
    intro P hP ho k
    subst hP
    have h1 := h.2 (o + 1) ho
    have h2 := h.2 tu htu
    simp only [yOt] at k
    apply b89_47 hF
    · intro c1
      simp (disch := omega) only [zI_le] at c1
      rw [if_neg (by omega)] at k
      exact k
    intro c1
    simp (disch := omega) only [zI_le] at c1
    apply b89_52 hF (i1 := o + 1) (zI_nat (o + 1)) (by omega) (i2 := tu) (zI_nat tu) (by omega)
    · rw [h1.1, h2.1]
      intro c2
      simp (disch := omega) only [zI_le] at c2
      rw [if_neg (by omega)] at k
      exact k
    · rw [h1.1, h2.1]
      intro c2
      simp (disch := omega) only [zI_le] at c2
      rw [if_pos (by omega)] at k
      apply b89_67 hF
      rw [zI_add]
      exact ih _ (by omega) (by omega) k
theorem s89r {x : zXs} {F : zF} (hF : zSh F) {d : Nat} {V : Nat → Nat → Int32} {T : Nat → Nat → Int64} {Q : Option Value → zG → Prop} {c : Nat} (hc : c ≤ 5) {o1 o2 : Option Value} : ∀ (m : Nat) (p : Nat → Nat) (i j : Nat) (V1 : Nat → Nat → Int32), zO V1 c p → j ≤ i + 2 * m → i ≤ 20 → j < c → (∀ a, a ≠ 44 → V1 a = V a) → (∀ V2, zO V2 c (yRv m p i j) → (∀ a, a ≠ 44 → V2 a = V a) → Q (some (.int (Int32.ofInt 1))) (V2, T)) → E x F (d + 1) 89 91 [some (.ref 43), o1, o2, some (.int (Int32.ofInt ((i:Int)))), some (.int (Int32.ofInt ((j:Int))))] [] (V1, T) Q := by
  intro m
  induction m with
  | zero =>
    intro p i j V1 h hm hi hj hf k
    apply b89_91 hF
    · intro _
      exact b89_113 hF (k V1 h hf)
    · intro c1
      simp (disch := omega) only [zI_le] at c1
      exfalso; omega
  | succ m ih =>
    intro p i j V1 h hm hi hj hf k
    simp only [yRv] at k
    apply b89_91 hF
    · intro c1
      simp (disch := omega) only [zI_le] at c1
      rw [if_neg (by omega)] at k
      exact b89_113 hF (k V1 h hf)
    · intro c1
      simp (disch := omega) only [zI_le] at c1
      rw [if_pos (by omega)] at k
      apply b89_97 hF
      apply s90 hF hc h (by omega) hj
      intro V2 h2 f2
      apply b89_104 hF
      rw [zI_add, zI_add, show (j : Int) + -1 = ((j - 1 : Nat) : Int) by omega]
      exact ih (ySw p i j) (i + 1) (j - 1) V2 h2 (by omega) (by omega) (by omega) (fun a ha => (f2 a ha).trans (hf a ha)) k
theorem s89 {x : zXs} {F : zF} (hF : zSh F) {d : Nat} {V : Nat → Nat → Int32} {T : Nat → Nat → Int64} {Q : Option Value → zG → Prop} {c : Nat} (hc : c ≤ 5) {p : Nat → Nat} (h : zO V c p) (kn : yAd c p = none → Q (some (.int (Int32.ofInt 0))) (V, T)) (ks : ∀ q, yAd c p = some q → ∀ V2, zO V2 c q → (∀ a, a ≠ 44 → V2 a = V a) → Q (some (.int (Int32.ofInt 1))) (V2, T)) {o1 o2 o3 o4 : Option Value} : E x F (d + 1) 89 0 [some (.ref 43), o1, o2, o3, o4] [] (V, T) Q := by
  unfold yAd at kn ks
  have hT := yTu_le p (c - 1)
  have hO := yOt_le p (yTu p (c - 1) - 1) (c - 1)
  apply b89_0 hF
  rw [h.1, zI_sub]
  cases c with
  | zero =>
    apply b89_7 hF
    · intro _
      apply b89_34 hF
      · intro c1; exact absurd c1 (by decide)
      · intro _
        exact b89_38 hF (kn rfl)
    · intro c1; exact absurd (by decide) c1
  | succ c =>
    refine s89t hF hc h (c + 1 - 1) _ (by omega) (by omega) ?_
    generalize hTu : yTu p (c + 1 - 1) = t at *
    apply b89_34 hF
    · intro c1
      simp (disch := omega) only [zI_le, zI_0] at c1
      have ht : ¬ t = 0 := by omega
      rw [if_neg ht] at ks
      apply b89_40 hF
      rw [h.1, zI_sub, show (t : Int) - 1 = ((t - 1 : Nat) : Int) by omega]
      refine s89o hF hc h (tu := t - 1) (by omega) (c + 1 - 1) _ (by omega) (by omega) ?_
      apply b89_73 hF
      apply s90 hF hc h (by omega) (by omega)
      intro V2 h2 f2
      apply b89_79 hF
      rw [h2.1, zI_sub, zI_add, show ((t - 1 : Nat) : Int) + 1 = (t : Int) by omega, show ((c + 1 : Nat) : Int) - 1 = ((c + 1 - 1 : Nat) : Int) by omega]
      exact s89r hF (V := V) hc 5 _ t (c + 1 - 1) V2 h2 (by omega) (by omega) (by omega) f2 (fun V3 h3 f3 => ks _ rfl V3 h3 f3)
    · intro c1
      simp (disch := omega) only [zI_le, zI_0] at c1
      have ht : t = 0 := by omega
      rw [if_pos ht] at kn
      exact b89_38 hF (kn rfl)
/-- what stands in the slots for the best so far -/
def zBs (b : Option (List Nat × Int)) (D M : Int) : Prop := match b with
  | none => True
  | some (q, v) => D = (yDi q : Int) ∧ M = v
theorem yChn_c {c : Nat} {p q : List Nat} {ps : List (List Nat)} (h : yChn c (p :: q :: ps) = true) : (∃ g, yAd c (fun k => p.getD k 0) = some g ∧ ∀ k, k < c → g k = q.getD k 0) ∧ yChn c (q :: ps) = true := by
  simp only [yChn, Bool.and_eq_true] at h
  refine ⟨?_, h.2⟩
  have h1 := h.1
  unfold yChk at h1
  split at h1
  · exact absurd h1 (by decide)
  · rename_i g hg
    refine ⟨g, hg, fun k hk => ?_⟩
    have := List.all_eq_true.mp h1 k (List.mem_range.mpr hk)
    exact beq_iff_eq.mp this
theorem yAll_e {c : Nat} {l : List (List Nat)} (h : yAll c l = true) : (∀ p, p ∈ l → p.length = c ∧ ∀ f, f ∈ p → f < c) ∧ l.length ≤ 120 ∧ 0 < l.length ∧ l.headD [] = List.range c := by
  unfold yAll at h
  simp only [Bool.and_eq_true, decide_eq_true_eq, beq_iff_eq] at h
  obtain ⟨⟨⟨h1, h2⟩, h3⟩, h4⟩ := h
  refine ⟨fun p hp => ?_, h2, h3, h4⟩
  have := List.all_eq_true.mp h1 p hp
  simp only [Bool.and_eq_true, beq_iff_eq] at this
  refine ⟨this.1, fun f hf => ?_⟩
  have := List.all_eq_true.mp this.2 f hf
  exact decide_eq_true_eq.mp this
theorem yAt_mem {p : List Nat} {c : Nat} (hl : p.length = c) (h : ∀ f, f ∈ p → f < c) {k : Nat} (hk : k < c) : p.getD k 0 < c := by
  have hk2 : k < p.length := by omega
  rw [List.getD_eq_getElem?_getD, List.getElem?_eq_getElem hk2]
  exact h _ (List.getElem_mem hk2)
