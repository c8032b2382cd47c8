/-! All glean; a night passes: the class -/
/-- all glean a row in an order: the state and what that one has taken -/
def yAl (w : Nat → Nat → (Nat → Int32) → Int32) (r : Nat) (one : Int) (at' : Nat → Nat) : Nat → Nat → (Nat → Nat → Nat) × Int → (Nat → Nat → Nat) × Int
  | _, 0, p => p
  | i, n + 1, p => yAl w r one at' (i + 1) n (yGS w p.1 (at' i) r, if (at' i : Int) = one then (yGl w p.1 (at' i) (p.1 0 r) (p.1 1 r)).2.2.2.2.2.2.1 else p.2)
theorem yGS_5 {w : Nat → Nat → (Nat → Int32) → Int32} {S : Nat → Nat → Nat} {one r : Nat} : yGS w S one r 5 = S 5 := by
  unfold yGS
  rw [zu_ne (by omega), zu_ne (by omega), zu_ne (by omega)]
theorem s78l {x : zXs} {F : zF} (hF : zSh F) {d : Nat} {V : Nat → Nat → Int32} {T : Nat → Nat → Int64} {Q : Option Value → zG → Prop} {b : Nat} (hb : zSt b) {n : Nat} {w : Nat → Nat → (Nat → Int32) → Int32} (hR : zRu V n w) {r sz : Nat} {one : Int} (h1 : -1 ≤ one ∧ one ≤ 1000) (hr : r < 4) (hs : sz ≤ 5) {at' : Nat → Nat} (hat : ∀ i, i < sz → V 44 i = Int32.ofInt (at' i : Int) ∧ at' i < 5) (hsz : V 43 1 = Int32.ofInt (sz : Int)) : ∀ (m i : Nat) (p : (Nat → Nat → Nat) × Int) (V1 : Nat → Nat → Int32) (P : Int), P = i → i + m = sz → zCS b V1 p.1 → zWf p.1 → p.1 5 2 < n → (∀ a, (a < b ∨ b + 5 < a) → a ≠ 19 → a ≠ 22 → a ≠ 23 → a ≠ 42 → V1 a = V a) → (∀ V2, zCS b V2 (yAl w r one at' i m p).1 → (∀ a, (a < b ∨ b + 5 < a) → a ≠ 19 → a ≠ 22 → a ≠ 23 → a ≠ 42 → V2 a = V a) → Q (some (.int (Int32.ofInt (yAl w r one at' i m p).2))) (V2, T)) → ∀ o7 o8 : Option Value, E x F (d + 4) 78 6 [some (.ref 19), some (.ref b), some (.int (Int32.ofInt (r : Int))), some (.ref 43), some (.int (Int32.ofInt one)), some (.int (Int32.ofInt p.2)), some (.int (Int32.ofInt P)), o7, o8] [] (V1, T) Q := by
  have hb2 := zSt_lt b hb
  intro m
  induction m with
  | zero =>
    intro i p V1 P hP hi hS hW hru hf K o7 o8
    subst hP
    apply b78_6 hF
    · intro _
      exact b78_51 hF (K V1 hS hf)
    · rw [hf 43 (by omega) (by omega) (by omega) (by omega) (by omega), hsz]
      intro c
      simp (disch := omega) only [zI_le] at c
      exfalso; omega
  | succ m ih =>
    intro i p V1 P hP hi hS hW hru hf K o7 o8
    subst hP
    have h44 := hat i (by omega)
    apply b78_6 hF
    · rw [hf 43 (by omega) (by omega) (by omega) (by omega) (by omega), hsz]
      intro c
      simp (disch := omega) only [zI_le] at c
      exfalso; omega
    · intro _
      apply b78_15 hF hb (i1 := i) (zI_nat i) (by omega)
      rw [hf 44 (by omega) (by omega) (by omega) (by omega) (by omega), h44.1]
      have hR1 : zRu V1 n w := zRu_fr hR (fun a ha => hf a (by omega) (by omega) (by omega) (by omega) (by omega))
      apply s74 hF hb hS hW hR1 hru h44.2 hr
      intro V2 hS2 _ _ hf2
      have hf' : ∀ a, (a < b ∨ b + 5 < a) → a ≠ 19 → a ≠ 22 → a ≠ 23 → a ≠ 42 → V2 a = V a := fun a a1 a2 a3 a4 a5 => (hf2 a a1 a2 a3 a4 a5).trans (hf a a1 a2 a3 a4 a5)
      have hW2 := yGS_wf (w := w) hW h44.2 hr
      have hru2 : yGS w p.1 (at' i) r 5 2 < n := by rw [yGS_5]; exact hru
      apply b78_32 hF
      · intro c
        simp (disch := omega) only [zI_eq] at c
        apply b78_45 hF
        rw [zI_add]
        refine ih (i + 1) (yGS w p.1 (at' i) r, p.2) V2 _ (by omega) (by omega) hS2 hW2 hru2 hf' ?_ _ _
        rw [yAl, if_neg c] at K
        exact K
      · intro c
        simp (disch := omega) only [zI_eq, Decidable.not_not] at c
        apply b78_41 hF
        apply b78_45 hF
        rw [zI_add]
        refine ih (i + 1) (yGS w p.1 (at' i) r, (yGl w p.1 (at' i) (p.1 0 r) (p.1 1 r)).2.2.2.2.2.2.1) V2 _ (by omega) (by omega) hS2 hW2 hru2 hf' ?_ _ _
        rw [yAl, if_pos c] at K
        exact K
theorem s78 {x : zXs} {F : zF} (hF : zSh F) {d : Nat} {V : Nat → Nat → Int32} {T : Nat → Nat → Int64} {Q : Option Value → zG → Prop} {b : Nat} (hb : zSt b) {S : Nat → Nat → Nat} (hS : zCS b V S) (hW : zWf S) {n : Nat} {w : Nat → Nat → (Nat → Int32) → Int32} (hR : zRu V n w) (hru : S 5 2 < n) {r sz : Nat} {one : Int} (h1 : -1 ≤ one ∧ one ≤ 1000) (hr : r < 4) (hs : sz ≤ 5) {at' : Nat → Nat} (hat : ∀ i, i < sz → V 44 i = Int32.ofInt (at' i : Int) ∧ at' i < 5) (hsz : V 43 1 = Int32.ofInt (sz : Int)) (k : ∀ V2, zCS b V2 (yAl w r one at' 0 sz (S, 0)).1 → (∀ a, (a < b ∨ b + 5 < a) → a ≠ 19 → a ≠ 22 → a ≠ 23 → a ≠ 42 → V2 a = V a) → Q (some (.int (Int32.ofInt (yAl w r one at' 0 sz (S, 0)).2))) (V2, T)) {o5 o6 o7 o8 : Option Value} : E x F (d + 4) 78 0 [some (.ref 19), some (.ref b), some (.int (Int32.ofInt (r : Int))), some (.ref 43), some (.int (Int32.ofInt one)), o5, o6, o7, o8] [] (V, T) Q := by
  apply b78_0 hF
  exact s78l hF hb hR h1 hr hs hat hsz sz 0 (S, 0) V 0 rfl (Nat.zero_add _) hS hW hru (fun _ _ _ _ _ _ => rfl) k _ _
theorem yAl_wf {w : Nat → Nat → (Nat → Int32) → Int32} {r : Nat} {one : Int} {at' : Nat → Nat} (hr : r < 4) : ∀ (m i : Nat) (p : (Nat → Nat → Nat) × Int), (∀ j, i ≤ j → j < i + m → at' j < 5) → zWf p.1 → zWf (yAl w r one at' i m p).1 ∧ (yAl w r one at' i m p).1 5 = p.1 5 := by
  intro m
  induction m with
  | zero => intro i p _ h; exact ⟨h, rfl⟩
  | succ m ih =>
    intro i p h1 h2
    rw [yAl]
    have h3 := yGS_wf (w := w) h2 (h1 i (by omega) (by omega)) hr
    obtain ⟨a1, a2⟩ := ih (i + 1) (yGS w p.1 (at' i) r, if (at' i : Int) = one then (yGl w p.1 (at' i) (p.1 0 r) (p.1 1 r)).2.2.2.2.2.2.1 else p.2) (fun j h3 h4 => h1 j (by omega) (by omega)) h3
    exact ⟨a1, a2.trans (yGS_5 (w := w) (S := p.1) (one := at' i) (r := r))⟩
/-- a night: the first gleaners and rows done -/
def yNp (w : Nat → Nat → (Nat → Int32) → Int32) (S : Nat → Nat → Nat) (g r : Nat) : Nat → Nat → Nat := fun f j => if f = 4 ∧ j < g then (yKept w S j).toNat else if f = 0 ∧ j < r then (if (S 0 j : Int) + ySh w S j < 24 then (S 0 j : Int) + ySh w S j else 24).toNat else S f j
def yNi (w : Nat → Nat → (Nat → Int32) → Int32) (S : Nat → Nat → Nat) : Nat → Nat → Nat := zu (yNp w S (S 5 0) 4) 5 1 (S 5 1 + 1)
theorem yKept_in {S : Nat → Nat → Nat} (hW : zWg S) (w : Nat → Nat → (Nat → Int32) → Int32) {one : Nat} (ho : one < 5) : 0 ≤ yKept w S one ∧ yKept w S one ≤ 999 := by
  have h1 := yKpm_in hW w ho
  have ha := (hW one ho).2.2
  have hc : ∀ u : Int, 0 ≤ yCl u 0 999 ∧ yCl u 0 999 ≤ 999 := fun u => yCl_in (by omega)
  have := hc ((S 4 one : Int) * yKp w S one / 100 - S 3 one)
  unfold yKept
  repeat' split
  all_goals omega
theorem yKept_np {w : Nat → Nat → (Nat → Int32) → Int32} {S : Nat → Nat → Nat} {g r i : Nat} (h : g ≤ i) : yKept w (yNp w S g r) i = yKept w S i := by
  have e : ∀ f, f ≠ 0 → yNp w S g r f i = S f i := by
    intro f hf
    unfold yNp
    rw [if_neg (by omega), if_neg (by omega)]
  have e5 : ∀ j, yNp w S g r 5 j = S 5 j := by
    intro j
    unfold yNp
    rw [if_neg (by omega), if_neg (by omega)]
  unfold yKept yKp
  rw [e 2 (by omega), e 4 (by omega), e 3 (by omega), e5, e5]
theorem ySh_np {w : Nat → Nat → (Nat → Int32) → Int32} {S : Nat → Nat → Nat} {g r i : Nat} (h : r ≤ i) : ySh w (yNp w S g r) i = ySh w S i := by
  have e0 : yNp w S g r 0 i = S 0 i := by
    unfold yNp
    rw [if_neg (by omega), if_neg (by omega)]
  have e1 : yNp w S g r 1 i = S 1 i := by
    unfold yNp
    rw [if_neg (by omega), if_neg (by omega)]
  have e5 : ∀ j, yNp w S g r 5 j = S 5 j := by
    intro j
    unfold yNp
    rw [if_neg (by omega), if_neg (by omega)]
  unfold ySh zgb
  rw [e0, e1, e5, e5]
theorem yNp_wf {w : Nat → Nat → (Nat → Int32) → Int32} {S : Nat → Nat → Nat} (hW : zWf S) {g r : Nat} (hg : g ≤ 5) (hr : r ≤ 4) : zWf (yNp w S g r) := by
  obtain ⟨h1, h2, h3, h4, h5⟩ := hW
  refine ⟨?_, ?_, ?_, ?_, ?_⟩
  · intro i hi
    have hs := ySh_in w S i
    have h := h1 i hi
    have e1 : yNp w S g r 1 i = S 1 i := by
      unfold yNp
      rw [if_neg (by omega), if_neg (by omega)]
    rw [e1]
    unfold yNp
    rw [if_neg (by omega)]
    by_cases hc : i < r
    · rw [if_pos ⟨rfl, hc⟩]
      refine ⟨by split <;> omega, ?_⟩
      exact Nat.lt_of_lt_of_le h.2 (Nat.pow_le_pow_right (by omega) (by split <;> omega))
    · rw [if_neg (by omega)]
      exact h
  · intro i hi
    have h := h2 i hi
    have hk := yKept_in h2 w hi
    have e : ∀ f, f ≠ 0 → f ≠ 4 → yNp w S g r f i = S f i := by
      intro f hf hf4
      unfold yNp
      rw [if_neg (by omega), if_neg (by omega)]
    rw [e 2 (by omega) (by omega), e 3 (by omega) (by omega)]
    refine ⟨h.1, h.2.1, ?_⟩
    unfold yNp
    split
    · omega
    · rw [if_neg (by omega)]; exact h.2.2
  all_goals
    have e5 : ∀ j, yNp w S g r 5 j = S 5 j := by
      intro j
      unfold yNp
      rw [if_neg (by omega), if_neg (by omega)]
    rw [e5]
    assumption
theorem yNi_wf {w : Nat → Nat → (Nat → Int32) → Int32} {S : Nat → Nat → Nat} (hW : zWf S) (hn : S 5 1 < 1000000) : zWf (yNi w S) := by
  obtain ⟨h1, h2, h3, h4, h5⟩ := yNp_wf (w := w) hW (g := S 5 0) (r := 4) hW.2.2.1 (Nat.le_refl 4)
  unfold yNi
  refine ⟨?_, ?_, ?_, ?_, ?_⟩
  · rw [zu_ne (by omega), zu_ne (by omega)]; exact h1
  · unfold zWg
    rw [zu_ne (by omega), zu_ne (by omega), zu_ne (by omega)]; exact h2
  · rw [zu_at, if_neg (by omega)]; exact h3
  · rw [zuN_at]; omega
  · rw [zu_at, if_neg (by omega)]; exact h5
theorem zCS_np4 {b : Nat} {V V' : Nat → Nat → Int32} {w : Nat → Nat → (Nat → Int32) → Int32} {S : Nat → Nat → Nat} {g r : Nat} (hk : 0 ≤ yKept w S g) (h : zCS b V (yNp w S g r)) (h5 : ∀ j, V' (b + 5) j = if j = g then Int32.ofInt (yKept w S g) else V (b + 5) j) (hf : ∀ a, a = b ∨ a = b + 1 ∨ a = b + 2 ∨ a = b + 3 ∨ a = b + 4 → V' a = V a) : zCS b V' (yNp w S (g + 1) r) := by
  obtain ⟨g0, g1, g2, g3, g4, g5, g6, g7⟩ := h
  have e : ∀ f j, f ≠ 4 → yNp w S (g + 1) r f j = yNp w S g r f j := by
    intro f j hf
    unfold yNp
    rw [if_neg (by omega), if_neg (c := f = 4 ∧ j < g) (by omega)]
  refine ⟨?_, ?_, ?_, ?_, ?_, ?_, ?_, ?_⟩
  · intro i hi; rw [e _ _ (by omega), hf _ (by omega)]; exact g0 i hi
  · intro i hi; rw [e _ _ (by omega), hf _ (by omega)]; exact g1 i hi
  · intro i hi; rw [e _ _ (by omega), hf _ (by omega)]; exact g2 i hi
  · intro i hi; rw [e _ _ (by omega), hf _ (by omega)]; exact g3 i hi
  · intro i hi
    rw [h5]
    by_cases hg : i = g
    · rw [if_pos hg]
      unfold yNp
      rw [if_pos ⟨rfl, by omega⟩, hg, Int.toNat_of_nonneg hk]
    · rw [if_neg hg, g4 i hi]
      unfold yNp
      by_cases hl : i < g
      · rw [if_pos ⟨rfl, hl⟩, if_pos ⟨rfl, by omega⟩]
      · rw [if_neg (by omega), if_neg (c := 4 = 4 ∧ i < g + 1) (by omega)]
  · rw [e _ _ (by omega), hf _ (by omega)]; exact g5
  · rw [e _ _ (by omega), hf _ (by omega)]; exact g6
  · rw [e _ _ (by omega), hf _ (by omega)]; exact g7
theorem yNp0 {w : Nat → Nat → (Nat → Int32) → Int32} {S : Nat → Nat → Nat} {g r i : Nat} : yNp w S g r 0 i = if i < r then (if (S 0 i : Int) + ySh w S i < 24 then (S 0 i : Int) + ySh w S i else 24).toNat else S 0 i := by
  unfold yNp
  rw [if_neg (by omega)]
  by_cases h : i < r
  · rw [if_pos ⟨rfl, h⟩, if_pos h]
  · rw [if_neg (fun c => h c.2), if_neg h]
theorem zCS_np0 {b : Nat} {V V' : Nat → Nat → Int32} {w : Nat → Nat → (Nat → Int32) → Int32} {S : Nat → Nat → Nat} {g r : Nat} (h : zCS b V (yNp w S g r)) (h5 : ∀ j, V' (b + 1) j = if j = r then Int32.ofInt (if (S 0 r : Int) + ySh w S r < 24 then (S 0 r : Int) + ySh w S r else 24) else V (b + 1) j) (hf : ∀ a, a = b ∨ a = b + 5 ∨ a = b + 2 ∨ a = b + 3 ∨ a = b + 4 → V' a = V a) : zCS b V' (yNp w S g (r + 1)) := by
  obtain ⟨g0, g1, g2, g3, g4, g5, g6, g7⟩ := h
  have hs := ySh_in w S r
  have e : ∀ f j, f ≠ 0 → yNp w S g (r + 1) f j = yNp w S g r f j := by
    intro f j hf
    unfold yNp
    rw [if_neg (c := f = 0 ∧ j < r + 1) (by omega), if_neg (c := f = 0 ∧ j < r) (by omega)]
  refine ⟨?_, ?_, ?_, ?_, ?_, ?_, ?_, ?_⟩
  · intro i hi
    rw [h5]
    by_cases hg : i = r
    · rw [if_pos hg]
      rw [yNp0, if_pos (show i < r + 1 by omega), hg, Int.toNat_of_nonneg (by split <;> omega)]
    · rw [if_neg hg, g0 i hi, yNp0, yNp0]
      by_cases hl : i < r
      · rw [if_pos hl, if_pos (show i < r + 1 by omega)]
      · rw [if_neg hl, if_neg (show ¬ i < r + 1 by omega)]
  · intro i hi; rw [e _ _ (by omega), hf _ (by omega)]; exact g1 i hi
  · intro i hi; rw [e _ _ (by omega), hf _ (by omega)]; exact g2 i hi
  · intro i hi; rw [e _ _ (by omega), hf _ (by omega)]; exact g3 i hi
  · intro i hi; rw [e _ _ (by omega), hf _ (by omega)]; exact g4 i hi
  · rw [e _ _ (by omega), hf _ (by omega)]; exact g5
  · rw [e _ _ (by omega), hf _ (by omega)]; exact g6
  · rw [e _ _ (by omega), hf _ (by omega)]; exact g7
theorem zCS_ni {b : Nat} {V V' : Nat → Nat → Int32} {w : Nat → Nat → (Nat → Int32) → Int32} {S : Nat → Nat → Nat} (h : zCS b V (yNp w S (S 5 0) 4)) : zCS b (zu V b 6 (Int32.ofInt ((S 5 1 : Int) + 1))) (yNi w S) := by
  obtain ⟨g0, g1, g2, g3, g4, g5, g6, g7⟩ := h
  unfold yNi
  refine ⟨?_, ?_, ?_, ?_, ?_, ?_, ?_, ?_⟩
  · rw [zu_ne (by omega), zu_ne (by omega)]; exact g0
  · rw [zu_ne (by omega), zu_ne (by omega)]; exact g1
  · rw [zu_ne (by omega), zu_ne (by omega)]; exact g2
  · rw [zu_ne (by omega), zu_ne (by omega)]; exact g3
  · rw [zu_ne (by omega), zu_ne (by omega)]; exact g4
  · rw [zu_at, zu_at, if_neg (by omega), if_neg (by omega)]; exact g5
  · rw [zuN_at, zuN_at]; rfl
  · rw [zu_at, zu_at, if_neg (by omega), if_neg (by omega)]; exact g7
theorem yNp5 {w : Nat → Nat → (Nat → Int32) → Int32} {S : Nat → Nat → Nat} {g r j : Nat} : yNp w S g r 5 j = S 5 j := by
  unfold yNp
  rw [if_neg (by omega), if_neg (by omega)]
theorem s80m {x : zXs} {F : zF} (hF : zSh F) {d : Nat} {V : Nat → Nat → Int32} {T : Nat → Nat → Int64} {Q : Option Value → zG → Prop} {b : Nat} (hb : zSt b) {n : Nat} {w : Nat → Nat → (Nat → Int32) → Int32} (hR : zRu V n w) {S : Nat → Nat → Nat} (hW : zWf S) (hru : S 5 2 < n) : ∀ (m i : Nat) (V1 : Nat → Nat → Int32) (P : Int), P = i → i + m = 4 → zCS b V1 (yNp w S (S 5 0) i) → (∀ a, (a < b ∨ b + 5 < a) → a ≠ 22 → a ≠ 23 → V1 a = V a) → (∀ V2, zCS b V2 (yNi w S) → (∀ a, (a < b ∨ b + 5 < a) → a ≠ 22 → a ≠ 23 → V2 a = V a) → Q none (V2, T)) → ∀ o3 : Option Value, E x F (d + 4) 80 30 [some (.ref 19), some (.ref b), some (.int (Int32.ofInt P)), o3] [] (V1, T) Q := by
  have hb2 := zSt_lt b hb
  intro m
  induction m with
  | zero =>
    intro i V1 P hP hi hS hf K o3
    subst hP
    have h4 : i = 4 := by omega
    subst h4
    apply b80_30 hF
    · intro _
      apply b80_70 hF hb
      have := hS.2.2.2.2.2.2.1
      rw [yNp5] at this
      rw [this, zI_add]
      exact K _ (zCS_ni (V' := V1) hS) (fun a a1 a2 a3 => by rw [zu_ne (by omega)]; exact hf a a1 a2 a3)
    · intro c
      simp (disch := omega) only [zI_le] at c
      exfalso; omega
  | succ m ih =>
    intro i V1 P hP hi hS hf K o3
    subst hP
    have hs := ySh_in w S i
    have hl := (hW.1 i (by omega)).1
    have hWn := yNp_wf (w := w) hW (g := S 5 0) (r := i) hW.2.2.1 (by omega)
    apply b80_30 hF
    · intro c
      simp (disch := omega) only [zI_le] at c
      exfalso; omega
    · intro _
      apply b80_35 hF hb (i1 := i) (zI_nat i) (by omega)
      rw [hS.1 i (by omega)]
      have hR1 : zRu V1 n w := zRu_fr hR (fun a ha => hf a (by omega) (by omega) (by omega))
      apply s35 hF hb hS hWn hR1 (by rw [yNp5]; exact hru) (by omega)
      intro V2 hV2
      rw [ySh_np (Nat.le_refl i)]
      apply b80_50 hF hb (i1 := i) (zI_nat i) (by omega)
      have e0 : yNp w S (S 5 0) i 0 i = S 0 i := by rw [yNp0, if_neg (by omega)]
      rw [e0]
      simp only [zI_add]
      rw [zI_min (a := 24) (b := (S 0 i : Int) + ySh w S i) (by omega) (by omega)]
      refine ih (i + 1) _ _ (by omega) (by omega) ?_ ?_ K _
      · refine zCS_np0 hS ?_ ?_
        · intro j
          rw [zu_at, hV2 _ (by omega) (by omega)]
        · intro a ha
          rw [zu_ne (by omega), hV2 _ (by omega) (by omega)]
      · intro a a1 a2 a3
        rw [zu_ne (by omega), hV2 _ a2 a3]
        exact hf a a1 a2 a3
theorem s80l {x : zXs} {F : zF} (hF : zSh F) {d : Nat} {V : Nat → Nat → Int32} {T : Nat → Nat → Int64} {Q : Option Value → zG → Prop} {b : Nat} (hb : zSt b) {n : Nat} {w : Nat → Nat → (Nat → Int32) → Int32} (hR : zRu V n w) {S : Nat → Nat → Nat} (hW : zWf S) (hru : S 5 2 < n) : ∀ (m i : Nat) (V1 : Nat → Nat → Int32) (P : Int), P = i → i + m = S 5 0 → zCS b V1 (yNp w S i 0) → (∀ a, (a < b ∨ b + 5 < a) → a ≠ 22 → a ≠ 23 → V1 a = V a) → (∀ V2, zCS b V2 (yNi w S) → (∀ a, (a < b ∨ b + 5 < a) → a ≠ 22 → a ≠ 23 → V2 a = V a) → Q none (V2, T)) → ∀ o3 : Option Value, E x F (d + 4) 80 2 [some (.ref 19), some (.ref b), some (.int (Int32.ofInt P)), o3] [] (V1, T) Q := by
  have hb2 := zSt_lt b hb
  have h5 := hW.2.2.1
  intro m
  induction m with
  | zero =>
    intro i V1 P hP hi hS hf K o3
    subst hP
    have h4 : i = S 5 0 := by omega
    subst h4
    have hcr := hS.2.2.2.2.2.1
    rw [yNp5] at hcr
    apply b80_2 hF hb
    · intro _
      apply b80_28 hF
      exact s80m hF hb hR hW hru 4 0 V1 0 rfl rfl hS hf K _
    · rw [hcr]
      intro c
      simp (disch := omega) only [zI_le] at c
      exfalso; omega
  | succ m ih =>
    intro i V1 P hP hi hS hf K o3
    subst hP
    have hWn := yNp_wf (w := w) hW (g := i) (r := 0) (by omega) (by omega)
    have hcr := hS.2.2.2.2.2.1
    rw [yNp5] at hcr
    apply b80_2 hF hb
    · rw [hcr]
      intro c
      simp (disch := omega) only [zI_le] at c
      exfalso; omega
    · intro _
      apply b80_10 hF hb
      have hR1 : zRu V1 n w := zRu_fr hR (fun a ha => hf a (by omega) (by omega) (by omega))
      apply s24 hF hb hS hWn.2.1 hR1 (by rw [yNp5]; exact hru) (by omega)
      intro V2 hV2
      rw [yKept_np (Nat.le_refl i)]
      apply b80_21 hF (zSt_a4 hF hb) (by omega) (i1 := i) (zI_nat i) (by omega)
      rw [zI_add]
      refine ih (i + 1) _ _ (by omega) (by omega) ?_ ?_ K _
      · refine zCS_np4 (yKept_in hW.2.1 w (by omega)).1 hS ?_ ?_
        · intro j
          rw [zu_at, hV2 _ (by omega) (by omega)]
        · intro a ha
          rw [zu_ne (by omega), hV2 _ (by omega) (by omega)]
      · intro a a1 a2 a3
        rw [zu_ne (by omega), hV2 _ a2 a3]
        exact hf a a1 a2 a3
theorem yNp_z {w : Nat → Nat → (Nat → Int32) → Int32} {S : Nat → Nat → Nat} : yNp w S 0 0 = S := by
  funext f j
  unfold yNp
  rw [if_neg (by omega), if_neg (by omega)]
theorem s80 {x : zXs} {F : zF} (hF : zSh F) {d : Nat} {V : Nat → Nat → Int32} {T : Nat → Nat → Int64} {Q : Option Value → zG → Prop} {b : Nat} (hb : zSt b) {S : Nat → Nat → Nat} (hS : zCS b V S) (hW : zWf S) {n : Nat} {w : Nat → Nat → (Nat → Int32) → Int32} (hR : zRu V n w) (hru : S 5 2 < n) (k : ∀ V2, zCS b V2 (yNi w S) → (∀ a, (a < b ∨ b + 5 < a) → a ≠ 22 → a ≠ 23 → V2 a = V a) → Q none (V2, T)) {o2 o3 : Option Value} : E x F (d + 4) 80 0 [some (.ref 19), some (.ref b), o2, o3] [] (V, T) Q := by
  apply b80_0 hF
  exact s80l hF hb hR hW hru (S 5 0) 0 V 0 rfl (Nat.zero_add _) (by rw [yNp_z]; exact hS) (fun _ _ _ _ => rfl) k _
