/-! Days and nights: the reference -/
def yOr (w : Nat → Nat → (Nat → Int32) → Int32) (r : Nat) (at' : Nat → Nat) : Nat → Nat → (Nat → Nat → Nat) → Nat → Nat → Nat
  | _, 0, S => S
  | i, n + 1, S => yOr w r at' (i + 1) n (yGS w S (at' i) r)
theorem yAl_or {w : Nat → Nat → (Nat → Int32) → Int32} {r : Nat} {one : Int} {at' : Nat → Nat} : ∀ (m i : Nat) (p : (Nat → Nat → Nat) × Int), (yAl w r one at' i m p).1 = yOr w r at' i m p.1 := by
  intro m
  induction m with
  | zero => intro i p; rfl
  | succ m ih => intro i p; rw [yAl, ih]; rfl
theorem yOr_wf {w : Nat → Nat → (Nat → Int32) → Int32} {r : Nat} {at' : Nat → Nat} (hr : r < 4) : ∀ (m i : Nat) (S : Nat → Nat → Nat), (∀ j, i ≤ j → j < i + m → at' j < 5) → zWf S → zWf (yOr w r at' i m S) ∧ yOr w r at' i m S 5 = S 5 := by
  intro m
  induction m with
  | zero => intro i S _ h; exact ⟨h, rfl⟩
  | succ m ih =>
    intro i S h1 h2
    rw [yOr]
    obtain ⟨a1, a2⟩ := ih (i + 1) (yGS w S (at' i) r) (fun j h3 h4 => h1 j (by omega) (by omega)) (yGS_wf h2 (h1 i (by omega) (by omega)) hr)
    exact ⟨a1, a2.trans yGS_5⟩
def yDay (w : Nat → Nat → (Nat → Int32) → Int32) (r : Nat) (S : Nat → Nat → Nat) : Nat → Nat → Nat := yNi w (yOr w r (fun i => i) 0 (S 5 0) S)
def yDays (w : Nat → Nat → (Nat → Int32) → Int32) (r : Nat) : Nat → (Nat → Nat → Nat) → Nat → Nat → Nat
  | 0, S => S
  | n + 1, S => yDays w r n (yDay w r S)
theorem yNi_5 {w : Nat → Nat → (Nat → Int32) → Int32} {S : Nat → Nat → Nat} : yNi w S 5 0 = S 5 0 ∧ yNi w S 5 1 = S 5 1 + 1 ∧ yNi w S 5 2 = S 5 2 := by
  unfold yNi
  refine ⟨?_, ?_, ?_⟩
  · rw [zuN_nk (by omega), yNp5]
  · rw [zuN_at]
  · rw [zuN_nk (by omega), yNp5]
theorem yDay_wf {w : Nat → Nat → (Nat → Int32) → Int32} {r : Nat} {S : Nat → Nat → Nat} (hr : r < 4) (hW : zWf S) (hn : S 5 1 < 1000000) : zWf (yDay w r S) ∧ yDay w r S 5 0 = S 5 0 ∧ yDay w r S 5 1 = S 5 1 + 1 ∧ yDay w r S 5 2 = S 5 2 := by
  have h5 := hW.2.2.1
  obtain ⟨a1, a2⟩ := yOr_wf (w := w) hr (S 5 0) 0 S (at' := fun i => i) (fun j _ h => by omega) hW
  obtain ⟨b1, b2, b3⟩ := yNi_5 (w := w) (S := yOr w r (fun i => i) 0 (S 5 0) S)
  unfold yDay
  refine ⟨yNi_wf a1 (by rw [a2]; exact hn), ?_, ?_, ?_⟩
  · rw [b1, a2]
  · rw [b2, a2]
  · rw [b3, a2]
/-- what the reference leaves alone in days and nights -/
def zFd (V V2 : Nat → Nat → Int32) : Prop := (∀ a, a ≠ 59 → a ≠ 63 → a ≠ 64 → a ≠ 66 → a ≠ 67 → a ≠ 68 → a ≠ 69 → a ≠ 71 → a ≠ 72 → V2 a = V a) ∧ (∀ j, (j < 7 ∨ 7 < j ∧ j < 13 ∨ 27 < j) → V2 59 j = V 59 j)
theorem s183i {x : zXs} {F : zF} (hF : zSh F) {d : Nat} {V : Nat → Nat → Int32} {T : Nat → Nat → Int64} {Q : Option Value → zG → Prop} {n : Nat} {w : Nat → Nat → (Nat → Int32) → Int32} (hR : zRd x F V n w) {r c : Nat} (hr : r < 4) (hc : c ≤ 5) {o2 o3 : Option Value} : ∀ (m i : Nat) (S : Nat → Nat → Nat) (V1 : Nat → Nat → Int32) (T1 : Nat → Nat → Int64) (P : Int), P = i → i + m = c → zMS V1 S → zWf S → S 5 2 < n → S 5 0 = c → zFd V V1 → (∀ V2 T2, zMS V2 (yOr w r (fun i => i) i m S) → zFd V V2 → E x F (d + 54) 183 33 [some (.ref 59), some (.int (Int32.ofInt (r : Int))), o2, o3, some (.int (Int32.ofInt (c : Int)))] [] (V2, T2) Q) → E x F (d + 54) 183 10 [some (.ref 59), some (.int (Int32.ofInt (r : Int))), o2, o3, some (.int (Int32.ofInt P))] [] (V1, T1) Q := by
  intro m
  induction m with
  | zero =>
    intro i S V1 T1 P hP hi hS hW hru h5 hf K
    subst hP
    have hic : i = c := by omega
    subst hic
    apply b183_10 hF
    · intro _
      exact K V1 T1 hS hf
    · rw [hS.2.2.2.2.2.1, h5]
      intro c
      simp (disch := omega) only [zI_le] at c
      exfalso; omega
  | succ m ih =>
    intro i S V1 T1 P hP hi hS hW hru h5 hf K
    subst hP
    apply b183_10 hF
    · rw [hS.2.2.2.2.2.1, h5]
      intro c
      simp (disch := omega) only [zI_le] at c
      exfalso; omega
    · intro _
      apply b183_19 hF
      have hR1 : zRd x F V1 n w := zRd_fr hR (hf.1 60 (by omega) (by omega) (by omega) (by omega) (by omega) (by omega) (by omega) (by omega) (by omega)) (hf.1 61 (by omega) (by omega) (by omega) (by omega) (by omega) (by omega) (by omega) (by omega) (by omega))
      apply s171 hF hR1 hS hW.2.1 hru (by omega) (by omega) (hW.1 r hr).1 (hW.1 r hr).2
      intro V2 T2 hS2 _ _ f1 f2
      apply b183_26 hF
      rw [zI_add]
      apply ih (i + 1) (yGS w S i r) V2 T2 _ (by omega) (by omega) hS2 (yGS_wf hW (by omega) hr) (by rw [yGS_5]; exact hru) (by rw [yGS_5]; exact h5)
      · refine ⟨?_, ?_⟩
        · intro a a1 a2 a3 a4 a5 a6 a7 a8 a9
          rw [f1 a a1 a2 a3 a4 a5 a6 a7]; exact hf.1 a a1 a2 a3 a4 a5 a6 a7 a8 a9
        · intro j hj
          rw [f2 j (by omega)]; exact hf.2 j hj
      · exact K
theorem s183l {x : zXs} {F : zF} (hF : zSh F) {d : Nat} {V : Nat → Nat → Int32} {T : Nat → Nat → Int64} {Q : Option Value → zG → Prop} {n : Nat} {w : Nat → Nat → (Nat → Int32) → Int32} (hR : zRd x F V n w) {r N : Nat} (hr : r < 4) (hN : N ≤ 1000) : ∀ (m i : Nat) (S : Nat → Nat → Nat) (V1 : Nat → Nat → Int32) (T1 : Nat → Nat → Int64) (P : Int), P = i → i + m = N → zMS V1 S → zWf S → S 5 2 < n → S 5 1 + m ≤ 1000000 → zFd V V1 → (∀ V2 T2, zMS V2 (yDays w r m S) → zFd V V2 → Q none (V2, T2)) → ∀ o4 : Option Value, E x F (d + 54) 183 2 [some (.ref 59), some (.int (Int32.ofInt (r : Int))), some (.int (Int32.ofInt (N : Int))), some (.int (Int32.ofInt P)), o4] [] (V1, T1) Q := by
  intro m
  induction m with
  | zero =>
    intro i S V1 T1 P hP hi hS hW hru hn hf K o4
    subst hP
    apply b183_2 hF
    · intro _
      exact b183_43 hF (K V1 T1 hS hf)
    · intro c
      simp (disch := omega) only [zI_le] at c
      exfalso; omega
  | succ m ih =>
    intro i S V1 T1 P hP hi hS hW hru hn hf K o4
    subst hP
    obtain ⟨d1, d2, d3, d4⟩ := yDay_wf (w := w) hr hW (by omega)
    obtain ⟨a1, a2⟩ := yOr_wf (w := w) hr (S 5 0) 0 S (at' := fun i => i) (fun j _ h => by have := hW.2.2.1; omega) hW
    apply b183_2 hF
    · intro c
      simp (disch := omega) only [zI_le] at c
      exfalso; omega
    · intro _
      apply b183_7 hF
      refine s183i hF (T := T) hR hr hW.2.2.1 (S 5 0) 0 S V1 T1 0 rfl (Nat.zero_add _) hS hW hru rfl hf ?_
      intro V2 T2 hS2 hf2
      apply b183_33 hF
      have hR2 : zRd x F V2 n w := zRd_fr hR (hf2.1 60 (by omega) (by omega) (by omega) (by omega) (by omega) (by omega) (by omega) (by omega) (by omega)) (hf2.1 61 (by omega) (by omega) (by omega) (by omega) (by omega) (by omega) (by omega) (by omega) (by omega))
      apply s176 hF hR2 hS2 a1 (by rw [a2]; exact hru)
      intro V3 T3 hS3 f1 f2
      apply b183_37 hF
      rw [zI_add]
      apply ih (i + 1) (yDay w r S) V3 T3 _ (by omega) (by omega) hS3 d1 (by rw [d4]; exact hru) (by omega)
      · refine ⟨?_, ?_⟩
        · intro a a1 a2 a3 a4 a5 a6 a7 a8 a9
          rw [f1 a a1 a3 a4 a8 a9]; exact hf2.1 a a1 a2 a3 a4 a5 a6 a7 a8 a9
        · intro j hj
          rw [f2 j hj]; exact hf2.2 j hj
      · exact K
theorem s183 {x : zXs} {F : zF} (hF : zSh F) {d : Nat} {V : Nat → Nat → Int32} {T : Nat → Nat → Int64} {Q : Option Value → zG → Prop} {n : Nat} {w : Nat → Nat → (Nat → Int32) → Int32} (hR : zRd x F V n w) {S : Nat → Nat → Nat} (hS : zMS V S) (hW : zWf S) (hru : S 5 2 < n) {r N : Nat} (hr : r < 4) (hN : N ≤ 1000) (hn : S 5 1 + N ≤ 1000000) (k : ∀ V2 T2, zMS V2 (yDays w r N S) → zFd V V2 → Q none (V2, T2)) {o3 o4 : Option Value} : E x F (d + 54) 183 0 [some (.ref 59), some (.int (Int32.ofInt (r : Int))), some (.int (Int32.ofInt (N : Int))), o3, o4] [] (V, T) Q := by
  apply b183_0 hF
  exact s183l hF (T := T) hR hr hN N 0 S V T 0 rfl (Nat.zero_add _) hS hW hru hn ⟨fun _ _ _ _ _ _ _ _ _ _ => rfl, fun _ _ => rfl⟩ k _
