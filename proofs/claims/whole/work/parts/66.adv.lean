/-! Tokens: the class reads on -/
theorem yLt_s (b : Nat → Nat) (n m i : Nat) : yLt b n (m + 1) i = if i < n ∧ (97 ≤ b i ∧ b i ≤ 122) then yLt b n m (i + 1) else i := rfl
theorem yDg_s (b : Nat → Nat) (n m i : Nat) : yDg b n (m + 1) i = if i < n ∧ (48 ≤ b i ∧ b i ≤ 57) then yDg b n m (i + 1) else i := rfl
theorem yWs_s (b : Nat → Nat) (n m i : Nat) : yWs b n (m + 1) i = if i < n ∧ (b i = 32 ∨ b i = 10) then yWs b n m (i + 1) else i := rfl
theorem yLt_0 (b : Nat → Nat) (n i : Nat) : yLt b n 0 i = i := rfl
theorem yDg_0 (b : Nat → Nat) (n i : Nat) : yDg b n 0 i = i := rfl
theorem yWs_0 (b : Nat → Nat) (n i : Nat) : yWs b n 0 i = i := rfl
theorem yLt_1 {b : Nat → Nat} {n i m : Nat} (h : i < n) (c : 97 ≤ b i ∧ b i ≤ 122) : i < yLt b n (m + 1) i := by
  rw [yLt_s, if_pos ⟨h, c⟩]
  have := (yLt_in b n m (i + 1)).1
  omega
theorem yDg_1 {b : Nat → Nat} {n i m : Nat} (h : i < n) (c : 48 ≤ b i ∧ b i ≤ 57) : i < yDg b n (m + 1) i := by
  rw [yDg_s, if_pos ⟨h, c⟩]
  have := (yDg_in b n m (i + 1)).1
  omega
def yGw (n : Nat) (g : yL) : Prop := g.1 ≤ 255 ∧ (g.1 = 2 → g.2.1 < 10000) ∧ (g.1 = 3 → g.2.1 < 6) ∧ g.2.2.1 ≤ n ∧ g.2.2.2.1 ≤ n ∧ g.2.2.2.2 ≤ n + 1 ∧ (g.2.2.2.2 ≠ 0 → g.1 = 1) ∧ (g.2.2.2.2 = 0 → 2 ≤ g.1 → g.2.2.1 < g.2.2.2.1)
theorem yWf_in (b : Nat → Nat) (s e : Nat) : ∀ i, i ≤ 12 → (yWf b s e i).1 ≤ 9 ∧ 1 ≤ (yWf b s e i).1 ∧ (yWf b s e i).1 ≠ 2 ∧ ((yWf b s e i).1 = 3 → (yWf b s e i).2 < 6) := by
  intro i
  induction i with
  | zero => intro _; simp [yWf]
  | succ i ih =>
    intro hi
    have := ih (by omega)
    simp only [yWf]
    split
    · split
      · exact ⟨by omega, by omega, by omega, fun _ => by assumption⟩
      · exact ⟨by omega, by omega, by omega, fun h => by omega⟩
    · exact this
theorem yDg_all (b : Nat → Nat) (n : Nat) : ∀ m i j, i ≤ j → j < yDg b n m i → 48 ≤ b j ∧ b j ≤ 57 := by
  intro m
  induction m with
  | zero => intro i j h1 h2; simp only [yDg] at h2; omega
  | succ m ih =>
    intro i j h1 h2
    simp only [yDg] at h2
    split at h2
    · rename_i c
      by_cases hj : j = i
      · subst hj; exact c.2
      · exact ih (i + 1) j (by omega) h2
    · omega
theorem yTok_w {b : Nat → Nat} {n h : Nat} (hh : h ≤ n) (hb : ∀ i, i < n → b i ≤ 255) : yGw n (yTok b n h) ∧ h ≤ (yTok b n h).2.2.1 ∧ (yTok b n h).2.2.2.2 = 0 := by
  have h1 := yWs_in b n 200 h
  unfold yTok
  by_cases c1 : n ≤ yWs b n 200 h
  · rw [if_pos c1]
    exact ⟨⟨by dsimp only; omega, fun c => by dsimp only at c; omega, fun c => by dsimp only at c; omega, h1.2 hh, Nat.le_refl _, by dsimp only; omega, fun c => absurd rfl c, fun _ c => by dsimp only at c; omega⟩, h1.1, rfl⟩
  · rw [if_neg c1]
    have h2 := yLt_in b n 200 (yWs b n 200 h)
    have h3 := yDg_in b n 200 (yWs b n 200 h)
    have hw := h1.2 hh
    have hbs := hb (yWs b n 200 h) (by omega)
    by_cases c2 : 97 ≤ b (yWs b n 200 h) ∧ b (yWs b n 200 h) ≤ 122
    · rw [if_pos c2]
      have h4 := yWf_in b (yWs b n 200 h) (yLt b n 200 (yWs b n 200 h)) 12 (by omega)
      have h5 : yWs b n 200 h < yLt b n 200 (yWs b n 200 h) := yLt_1 (m := 199) (by omega) c2
      exact ⟨⟨by dsimp only; omega, fun c => absurd c h4.2.2.1, h4.2.2.2, hw, h2.2 hw, by dsimp only; omega, fun c => absurd rfl c, fun _ _ => h5⟩, h1.1, rfl⟩
    · rw [if_neg c2]
      by_cases c3 : 48 ≤ b (yWs b n 200 h) ∧ b (yWs b n 200 h) ≤ 57
      · rw [if_pos c3]
        have h5 : yWs b n 200 h < yDg b n 200 (yWs b n 200 h) := yDg_1 (m := 199) (by omega) c3
        have h6 := yNu_lt b (yWs b n 200 h) (yDg b n 200 (yWs b n 200 h) - yWs b n 200 h) (fun j hj => yDg_all b n 200 (yWs b n 200 h) (yWs b n 200 h + j) (by omega) (by omega))
        refine ⟨⟨?_, ?_, ?_, hw, h3.2 hw, by dsimp only; omega, fun c => absurd rfl c, fun _ _ => h5⟩, h1.1, rfl⟩
        · dsimp only; split <;> omega
        · dsimp only
          intro c
          have hk : yDg b n 200 (yWs b n 200 h) - yWs b n 200 h ≤ 4 := by
            split at c
            · assumption
            · omega
          have := Nat.pow_le_pow_right (n := 10) (by omega) hk
          omega
        · dsimp only
          intro c
          split at c <;> omega
      · rw [if_neg c3]
        have hs := ySg_i (b (yWs b n 200 h))
        refine ⟨⟨?_, ?_, ?_, hw, by dsimp only; omega, by dsimp only; omega, fun c => absurd rfl c, fun _ _ => by dsimp only; omega⟩, h1.1, rfl⟩
        · dsimp only; split <;> omega
        · dsimp only
          intro c
          split at c
          · rename_i c4; have := hs.mp c4; omega
          · omega
        · dsimp only
          intro c
          split at c
          · rename_i c4; have := hs.mp c4; omega
          · omega
def zGc (V : Nat → Nat → Int32) (b : Nat → Nat) (n k : Nat) (g : yL) : Prop := V 45 1 = Int32.ofInt (n : Int) ∧ n ≤ 160 ∧ (∀ i, i < n → V 46 i = Int32.ofInt (b i : Int) ∧ b i ≤ 255) ∧ V 45 3 = Int32.ofInt (g.1 : Int) ∧ (g.1 = 2 ∨ g.1 = 3 → V 45 4 = Int32.ofInt (g.2.1 : Int)) ∧ V 45 5 = Int32.ofInt (g.2.2.1 : Int) ∧ V 45 6 = Int32.ofInt (g.2.2.2.1 : Int) ∧ V 45 7 = Int32.ofInt (5 - (k : Int)) ∧ V 45 8 = Int32.ofInt ((g.2.2.2.2 : Int) - 1)
theorem yWm_i {b : Nat → Nat} {s e : Nat} {l : List Nat} : yWm b s e l = true ↔ e - s = l.length ∧ ∀ k, k < l.length → b (s + k) = l.getD k 0 := by
  unfold yWm
  simp only [Bool.and_eq_true, beq_iff_eq, List.all_eq_true, List.mem_range]
theorem s50 {x : zXs} {F : zF} (hF : zSh F) {d : Nat} {V : Nat → Nat → Int32} {T : Nat → Nat → Int64} {Q : Option Value → zG → Prop} {b : Nat → Nat} {n s e i : Nat} (hi : i < 12) (hn : n ≤ 160) (h1 : V 45 1 = Int32.ofInt (n : Int)) (hbt : ∀ i, i < n → V 46 i = Int32.ofInt (b i : Int) ∧ b i ≤ 255) (h5 : V 45 5 = Int32.ofInt (s : Int)) (h6 : V 45 6 = Int32.ofInt (e : Int)) (hse : s ≤ e ∧ e ≤ n) (k : Q (some (.int (Int32.ofInt (if yWm b s e (yWl i) = true then 1 else 0)))) (V, T)) {o2 : Option Value} : E x F (d + 4) 50 0 [some (.ref 45), some (.float (UInt32.ofNat i)), o2] [] (V, T) Q := by
  have hl := yWl_b i hi
  have hm := yWm_i (b := b) (s := s) (e := e) (l := yWl i)
  apply b50_0 hF (yU12 hi)
  apply s51 hF hi
  apply b50_4 hF
  rotate_left
  · rw [h6, h5, zI_sub]
    intro c
    simp (disch := omega) only [zI_eq] at c
    rw [if_neg (fun g => by have := (hm.mp g).1; omega)] at k
    exact b50_16 hF k
  rw [h6, h5, zI_sub]
  intro c
  simp (disch := omega) only [zI_eq] at c
  have hlen : e - s = (yWl i).length := by omega
  apply b50_18 hF
  have loop : ∀ (m j : Nat) (P : Int), P = j → j + m = (yWl i).length → (∀ q, q < j → b (s + q) = (yWl i).getD q 0) → E x F (d + 4) 50 20 [some (.ref 45), some (.float (UInt32.ofNat i)), some (.int (Int32.ofInt (P)))] [] (V, T) Q := by
    intro m
    induction m with
    | zero =>
      intro j P hP hj hq
      subst hP
      apply b50_20 hF (yU12 hi)
      apply s51 hF hi
      apply b50_25 hF
      · intro _
        rw [if_pos (hm.mpr ⟨hlen, fun q hq2 => hq q (by omega)⟩)] at k
        exact b50_68 hF k
      · intro c1
        simp (disch := omega) only [zI_le] at c1
        exfalso; omega
    | succ m ih =>
      intro j P hP hj hq
      subst hP
      have hlb := hl.2 j (by omega)
      have hbs := hbt (s + j) (by omega)
      apply b50_20 hF (yU12 hi)
      apply s51 hF hi
      apply b50_25 hF
      · intro c1
        simp (disch := omega) only [zI_le] at c1
        exfalso; omega
      intro _
      apply b50_28 hF
      · rw [h1, h5, zI_add]
        intro c1
        simp (disch := omega) only [zI_le] at c1
        exfalso; omega
      intro _
      apply b50_41 hF (yU12 hi) (i1 := s + j) (by rw [h5, zI_add]; exact zI_nat (s + j)) (by omega)
      apply s53 hF hi (by omega)
      rw [hbs.1]
      apply b50_57 hF
      · intro c1
        simp (disch := omega) only [zI_eq] at c1
        apply b50_62 hF
        rw [zI_add]
        apply ih (j + 1) _ (by omega) (by omega)
        intro q hq2
        by_cases hqj : q = j
        · subst hqj; omega
        · exact hq q (by omega)
      · intro c1
        simp (disch := omega) only [zI_eq] at c1
        rw [if_neg (fun g => by have := (hm.mp g).2 j (by omega); omega)] at k
        exact b50_60 hF k
  exact loop _ 0 0 rfl (Nat.zero_add _) (fun q hq => absurd hq (Nat.not_lt_zero _))
theorem s49 {x : zXs} {F : zF} (hF : zSh F) {d : Nat} {V : Nat → Nat → Int32} {T : Nat → Nat → Int64} {Q : Option Value → zG → Prop} {i : Nat} (hi : i < 12) (k : Q (some (.float (UInt32.ofNat i))) (V, T)) : E x F d 49 0 [some (.int (Int32.ofInt ((i:Int))))] [] (V, T) Q := by
  rcases (show i = 0 ∨ i = 1 ∨ i = 2 ∨ i = 3 ∨ i = 4 ∨ i = 5 ∨ i = 6 ∨ i = 7 ∨ i = 8 ∨ i = 9 ∨ i = 10 ∨ i = 11 by omega) with rfl | rfl | rfl | rfl | rfl | rfl | rfl | rfl | rfl | rfl | rfl | rfl <;> (apply b49_0 hF <;> first | (intro _; first | exact b49_60 hF k | exact b49_63 hF k | exact b49_66 hF k | exact b49_69 hF k | exact b49_72 hF k | exact b49_75 hF k | exact b49_78 hF k | exact b49_81 hF k | exact b49_84 hF k | exact b49_87 hF k | exact b49_90 hF k | exact b49_93 hF k) | (intro c; exfalso; revert c; decide +kernel))
/-- what the lexer of the class leaves alone -/
def zFl (V V2 : Nat → Nat → Int32) : Prop := ∀ a, a ≠ 45 → V2 a = V a
theorem s48 {x : zXs} {F : zF} (hF : zSh F) {d : Nat} {V : Nat → Nat → Int32} {T : Nat → Nat → Int64} {Q : Option Value → zG → Prop} {b : Nat → Nat} {n s : Nat} (hn : n ≤ 160) (h1 : V 45 1 = Int32.ofInt (n : Int)) (hbt : ∀ i, i < n → V 46 i = Int32.ofInt (b i : Int) ∧ b i ≤ 255) (h5 : V 45 5 = Int32.ofInt (s : Int)) (hs : s ≤ n) (k : ∀ V2, zFl V V2 → V2 45 6 = Int32.ofInt (yLt b n 200 s : Int) → V2 45 3 = Int32.ofInt ((yWf b s (yLt b n 200 s) 12).1 : Int) → ((yWf b s (yLt b n 200 s) 12).1 = 3 → V2 45 4 = Int32.ofInt ((yWf b s (yLt b n 200 s) 12).2 : Int)) → (∀ j, j ≠ 3 → j ≠ 4 → j ≠ 6 → V2 45 j = V 45 j) → Q none (V2, T)) {o1 : Option Value} : E x F (d + 5) 48 0 [some (.ref 45), o1] [] (V, T) Q := by
  have hL := yLt_in b n 200 s
  apply b48_0 hF
  rw [h5]
  -- the words, one by one
  have words : ∀ (V0 : Nat → Nat → Int32), zFl V V0 → V0 45 6 = Int32.ofInt (yLt b n 200 s : Int) → (∀ j, j ≠ 6 → V0 45 j = V 45 j) → E x F (d + 5) 48 47 [some (.ref 45), o1] [] (V0, T) Q := by
    intro V0 hf0 h60 hj0
    apply b48_47 hF
    have loop : ∀ (m i : Nat) (V1 : Nat → Nat → Int32) (P : Int), P = i → i + m = 12 → zFl V V1 → V1 45 6 = Int32.ofInt (yLt b n 200 s : Int) → V1 45 3 = Int32.ofInt ((yWf b s (yLt b n 200 s) i).1 : Int) → ((yWf b s (yLt b n 200 s) i).1 = 3 → V1 45 4 = Int32.ofInt ((yWf b s (yLt b n 200 s) i).2 : Int)) → (∀ j, j ≠ 3 → j ≠ 4 → j ≠ 6 → V1 45 j = V 45 j) → E x F (d + 5) 48 54 [some (.ref 45), some (.int (Int32.ofInt (P)))] [] (V1, T) Q := by
      intro m
      induction m with
      | zero =>
        intro i V1 P hP hi hf h6 h3 h4 hj
        subst hP
        have hi12 : i = 12 := by omega
        subst hi12
        apply b48_54 hF
        · intro _
          exact b48_102 hF (k V1 hf h6 h3 h4 hj)
        · intro c
          simp (disch := omega) only [zI_le] at c
          exfalso; omega
      | succ m ih =>
        intro i V1 P hP hi hf h6 h3 h4 hj
        subst hP
        have hi12 : i < 12 := by omega
        have hn2 : yWf b s (yLt b n 200 s) (i + 1) = if yWm b s (yLt b n 200 s) (yWl i) = true then (if i < 6 then 3 else i - 2, i) else yWf b s (yLt b n 200 s) i := rfl
        apply b48_54 hF
        · intro c
          simp (disch := omega) only [zI_le] at c
          exfalso; omega
        intro _
        apply b48_60 hF
        apply s49 hF hi12
        apply b48_65 hF (yU12 hi12)
        apply s50 hF hi12 hn (by rw [hj 1 (by omega) (by omega) (by omega)]; exact h1) (fun q hq => by rw [hf 46 (by omega)]; exact hbt q hq) (by rw [hj 5 (by omega) (by omega) (by omega)]; exact h5) h6 ⟨hL.1, hL.2 hs⟩
        by_cases hm : yWm b s (yLt b n 200 s) (yWl i) = true
        · rw [if_pos hm] at hn2 ⊢
          apply b48_68 hF
          · intro c; exact absurd c (by decide)
          intro _
          have go : ∀ z : Nat, z = (if i < 6 then 3 else i - 2) → E x F (d + 5) 48 88 [some (.ref 45), some (.int (Int32.ofInt ((i:Int))))] [.int (Int32.ofInt ((z:Int))), .ref 45] (V1, T) Q := by
            intro z hz
            apply b48_88 hF
            apply b48_96 hF
            rw [zI_add]
            apply ih (i + 1) _ _ (by omega) (by omega)
            · intro a ha
              rw [zu_ne ha, zu_ne ha]; exact hf a ha
            · rw [zuN_nk (by omega), zuN_nk (by omega)]; exact h6
            · rw [zuN_nk (by omega), zuN_at, hn2, hz]
            · intro _
              rw [zuN_at, hn2]
            · intro j q3 q4 q6
              rw [zuN_nk q4, zuN_nk q3]; exact hj j q3 q4 q6
          apply b48_71 hF
          · intro c
            simp (disch := omega) only [zI_le] at c
            apply b48_82 hF
            rw [zI_add, zI_sub, show (4 : Int) + (i : Int) - 6 = ((i - 2 : Nat) : Int) by omega]
            exact go (i - 2) (by rw [if_neg (by omega)])
          · intro c
            simp (disch := omega) only [zI_le] at c
            apply b48_78 hF
            exact go 3 (by rw [if_pos (by omega)])
        · rw [if_neg hm] at hn2 ⊢
          apply b48_68 hF
          · intro _
            apply b48_96 hF
            rw [zI_add]
            exact ih (i + 1) V1 _ (by omega) (by omega) hf h6 (by rw [hn2]; exact h3) (by rw [hn2]; exact h4) hj
          · intro c; exact absurd rfl c
    apply loop 12 0 _ 0 rfl rfl
    · intro a ha
      rw [zu_ne ha]; exact hf0 a ha
    · rw [zuN_nk (by omega)]; exact h60
    · rw [zuN_at]; rfl
    · intro c; exact absurd c (by simp [yWf])
    · intro j q3 q4 q6
      rw [zuN_nk q3]; exact hj0 j q6
  -- behind the letters
  have scan : ∀ (m i : Nat) (V1 : Nat → Nat → Int32), n ≤ i + m → s ≤ i → i ≤ n → yLt b n m i = yLt b n 200 s → zFl V V1 → V1 45 6 = Int32.ofInt (i : Int) → (∀ j, j ≠ 6 → V1 45 j = V 45 j) → E x F (d + 5) 48 8 [some (.ref 45), o1] [] (V1, T) Q := by
    intro m
    induction m with
    | zero =>
      intro i V1 hm hsi hin he hf h6 hj
      rw [yLt_0 b n i] at he
      apply b48_8 hF
      · intro _
        exact words V1 hf (by rw [h6, he]) hj
      · rw [hj 1 (by omega), h1, h6]
        intro c
        simp (disch := omega) only [zI_le] at c
        exfalso; omega
    | succ m ih =>
      intro i V1 hm hsi hin he hf h6 hj
      rw [yLt_s b n m i] at he
      apply b48_8 hF
      · rw [hj 1 (by omega), h1, h6]
        intro c
        simp (disch := omega) only [zI_le] at c
        rw [if_neg (fun g => by omega)] at he
        exact words V1 hf (by rw [h6, he]) hj
      · rw [hj 1 (by omega), h1, h6]
        intro c
        simp (disch := omega) only [zI_le] at c
        have hb := hbt i (by omega)
        apply b48_19 hF (i1 := i) (by rw [h6]; exact zI_nat i) (by omega)
        rw [hf 46 (by omega), hb.1]
        refine s47 hF hb.2 ?_ ?_
        · intro c1
          rw [if_pos ⟨by omega, c1⟩] at he
          apply b48_31 hF
          · intro c2; exact absurd c2 (by decide)
          intro _
          apply b48_34 hF
          rw [h6, zI_add]
          apply ih (i + 1) _ (by omega) (by omega) (by omega) he
          · intro a ha
            rw [zu_ne ha]; exact hf a ha
          · rw [zuN_at]; congr 1
          · intro j q
            rw [zuN_nk q]; exact hj j q
        · intro c1
          rw [if_neg (fun g => c1 g.2)] at he
          apply b48_31 hF
          · intro _
            exact words V1 hf (by rw [h6, he]) hj
          · intro c2; exact absurd rfl c2
  apply scan 200 s _ (by omega) (Nat.le_refl _) hs rfl
  · intro a ha
    rw [zu_ne ha]
  · rw [zuN_at]
  · intro j q
    rw [zuN_nk q]
