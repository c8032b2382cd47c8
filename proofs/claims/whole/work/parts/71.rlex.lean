/-! Tokens: the reference -/
/-- what reading leaves alone in the reference -/
def yFm (V V2 : Nat → Nat → Int32) : Prop := (∀ a, a ≠ 59 → V2 a = V a) ∧ (∀ j, (j < 19 ∨ 27 < j) → V2 59 j = V 59 j)
theorem yFm_rfl (V : Nat → Nat → Int32) : yFm V V := ⟨fun _ _ => rfl, fun _ _ => rfl⟩
theorem yFm_tr {V V1 V2 : Nat → Nat → Int32} (h1 : yFm V V1) (h2 : yFm V1 V2) : yFm V V2 := ⟨fun a h => (h2.1 a h).trans (h1.1 a h), fun j h => (h2.2 j h).trans (h1.2 j h)⟩
theorem yFm_zu {V V1 : Nat → Nat → Int32} (h : yFm V V1) {j : Nat} (hj : 19 ≤ j ∧ j ≤ 27) (v : Int32) : yFm V (zu V1 59 j v) := ⟨fun a ha => by rw [zu_ne ha]; exact h.1 a ha, fun i hi => by rw [zuN_nk (by omega)]; exact h.2 i hi⟩
/-- the text that is read -/
def zGt (V : Nat → Nat → Int32) (b : Nat → Nat) (n t : Nat) : Prop := V 59 19 = Int32.ofInt ((160 * t : Nat) : Int) ∧ V 59 20 = Int32.ofInt (n : Int) ∧ t < 6 ∧ n ≤ 160 ∧ ∀ i, i < n → V 60 (160 * t + i) = Int32.ofInt (b i : Int) ∧ b i ≤ 255
theorem zGt_zu {V : Nat → Nat → Int32} {b : Nat → Nat} {n t : Nat} (h : zGt V b n t) {j : Nat} (hj : 21 ≤ j) (v : Int32) : zGt (zu V 59 j v) b n t := by
  obtain ⟨h1, h2, h3, h4, h5⟩ := h
  exact ⟨by rw [zuN_nk (by omega)]; exact h1, by rw [zuN_nk (by omega)]; exact h2, h3, h4, fun i hi => by rw [zu_ne (by omega)]; exact h5 i hi⟩
/-- the token as the reference keeps it -/
def zKd (V : Nat → Nat → Int32) (T : Nat → Nat → Int64) (b : Nat → Nat) (g : yL) : Prop :=
  (V 59 22 = Int32.ofInt 0 ∧ g.1 = 0 ∧ V 59 21 = Int32.ofInt (g.2.2.2.1 : Int)) ∨
  (V 59 22 = Int32.ofInt 2 ∧ g.1 = 2 ∧ V 59 21 = Int32.ofInt (g.2.2.2.1 : Int) ∧ T 59 24 = Int64.ofInt (g.2.1 : Int)) ∨
  (V 59 22 = Int32.ofInt 3 ∧ (40 ≤ g.1 ∧ g.1 ≤ 61) ∧ V 59 21 = Int32.ofInt (g.2.2.2.1 : Int) ∧ T 59 24 = Int64.ofInt (g.1 : Int)) ∨
  (V 59 22 = Int32.ofInt 1 ∧ (g.1 = (yWf b g.2.2.1 g.2.2.2.1 12).1 ∧ g.2.1 = (yWf b g.2.2.1 g.2.2.2.1 12).2) ∧ V 59 21 = Int32.ofInt (g.2.2.2.1 : Int) ∧ g.2.2.1 ≤ g.2.2.2.1 ∧ ∀ j, g.2.2.1 ≤ j → j < g.2.2.2.1 → 97 ≤ b j ∧ b j ≤ 122) ∨
  (V 59 22 = Int32.ofInt 4 ∧ g.1 = 1)
def zGr (V : Nat → Nat → Int32) (T : Nat → Nat → Int64) (b : Nat → Nat) (n t k : Nat) (g : yL) : Prop := zGt V b n t ∧ (g.2.2.2.2 = 0 → V 59 26 = Int32.ofInt 0 ∧ V 59 25 = Int32.ofInt (5 - (k : Int)) ∧ V 59 23 = Int32.ofInt (g.2.2.1 : Int) ∧ zKd V T b g) ∧ (g.2.2.2.2 ≠ 0 → V 59 26 = Int32.ofInt 1 ∧ V 59 27 = Int32.ofInt ((g.2.2.2.2 : Int) - 1))
theorem s143 {x : zXs} {F : zF} (hF : zSh F) {d : Nat} {V : Nat → Nat → Int32} {T : Nat → Nat → Int64} {Q : Option Value → zG → Prop} {b : Nat → Nat} {n t : Nat} (hg : zGt V b n t) {i : Nat} (hi : i ≤ 400) (k : Q (some (.int (Int32.ofInt (if i < n then (b i : Int) else -1)))) (V, T)) : E x F d 143 0 [some (.ref 59), some (.int (Int32.ofInt ((i:Int))))] [] (V, T) Q := by
  obtain ⟨h1, h2, h3, h4, h5⟩ := hg
  apply b143_0 hF
  · rw [h2]
    intro c
    simp (disch := omega) only [zI_le] at c
    rw [if_neg (by omega)] at k
    exact b143_22 hF (b143_23 hF k)
  · rw [h2]
    intro c
    simp (disch := omega) only [zI_le] at c
    rw [if_pos (by omega)] at k
    apply b143_8 hF (i1 := 160 * t + i) (by rw [h1, zI_add]; exact zI_nat (160 * t + i)) (by omega)
    rw [(h5 i (by omega)).1]
    exact b143_23 hF k
/-- between two tokens -/
def yRi (V : Nat → Nat → Int32) (b : Nat → Nat) (n t q : Nat) (V1 : Nat → Nat → Int32) : Prop := zGt V1 b n t ∧ V1 59 26 = Int32.ofInt 0 ∧ V1 59 25 = Int32.ofInt (5 - (q : Int)) ∧ yFm V V1
theorem yRi_zu {V V1 : Nat → Nat → Int32} {b : Nat → Nat} {n t q : Nat} (h : yRi V b n t q V1) {j : Nat} (hj : 21 ≤ j ∧ j ≤ 23) (v : Int32) : yRi V b n t q (zu V1 59 j v) := by
  obtain ⟨h1, h2, h3, h4⟩ := h
  exact ⟨zGt_zu h1 hj.1 v, by rw [zuN_nk (by omega)]; exact h2, by rw [zuN_nk (by omega)]; exact h3, yFm_zu h4 (by omega) v⟩
theorem yLt_all (b : Nat → Nat) (n : Nat) : ∀ m i j, i ≤ j → j < yLt b n m i → 97 ≤ b j ∧ b j ≤ 122 := by
  intro m
  induction m with
  | zero => intro i j h1 h2; rw [yLt_0] at h2; omega
  | succ m ih =>
    intro i j h1 h2
    rw [yLt_s] at h2
    split at h2
    · rename_i c
      by_cases hj : j = i
      · subst hj; exact c.2
      · exact ih (i + 1) j (by omega) h2
    · omega
theorem s142 {x : zXs} {F : zF} (hF : zSh F) {d : Nat} {V : Nat → Nat → Int32} {T : Nat → Nat → Int64} {Q : Option Value → zG → Prop} {b : Nat → Nat} {n t q h : Nat} (hi : yRi V b n t q V) (hh : h ≤ n) (h21 : V 59 21 = Int32.ofInt (h : Int)) (k : ∀ V2 T2, zGr V2 T2 b n t q (yTok b n h) → yFm V V2 → Q none (V2, T2)) {o1 o2 : Option Value} : E x F (d + 1) 142 0 [some (.ref 59), o1, o2] [] (V, T) Q := by
  have hS := yWs_in b n 200 h
  have hn := hi.1.2.2.2.1
  have hbt := hi.1.2.2.2.2
  have KK := k
  unfold yTok at k
  have hle := hS.2 hh
  have fin : ∀ (V1 : Nat → Nat → Int32) (o1 o2 : Option Value), yRi V b n t q V1 → V1 59 21 = Int32.ofInt ((yWs b n 200 h : Nat) : Int) → E x F (d + 1) 142 39 [some (.ref 59), o1, o2] [] (V1, T) Q := by
    intro V1 o1 o2 hr h1
    clear KK
    generalize yWs b n 200 h = s at *
    have done : ∀ (V2 : Nat → Nat → Int32) (T2 : Nat → Nat → Int64) (g : yL), g.2.2.2.2 = 0 → g.2.2.1 = s → yRi V b n t q V2 → V2 59 23 = Int32.ofInt (s : Int) → zKd V2 T2 b g → zGr V2 T2 b n t q g := by
      intro V2 T2 g hf hat hr2 h23 hkd
      exact ⟨hr2.1, fun _ => ⟨hr2.2.1, hr2.2.2.1, by rw [hat]; exact h23, hkd⟩, fun c => absurd hf c⟩
    apply b142_39 hF
    rw [zuN_nk (by omega), h1]
    have hrs := yRi_zu hr (j := 23) (by omega) (Int32.ofInt (s : Int))
    have hx21 : (zu V1 59 23 (Int32.ofInt (s : Int))) 59 21 = Int32.ofInt (s : Int) := by rw [zuN_nk (by omega)]; exact h1
    have hx23 : (zu V1 59 23 (Int32.ofInt (s : Int))) 59 23 = Int32.ofInt (s : Int) := by rw [zuN_at]
    generalize zu V1 59 23 (Int32.ofInt (s : Int)) = V2 at *
    apply s143 hF hrs.1 (by omega)
    by_cases hsn : n ≤ s
    · rw [if_pos hsn] at k
      rw [if_neg (by omega)]
      apply b142_55 hF
      · intro c
        exact absurd c (by decide)
      intro _
      apply b142_65 hF
      apply b142_321 hF
      have hr3 := yRi_zu (yRi_zu (yRi_zu hrs (j := 22) (by omega) (Int32.ofInt 4)) (j := 22) (by omega) (Int32.ofInt 0)) (j := 23) (by omega) (zu (zu V2 59 22 (Int32.ofInt 4)) 59 22 (Int32.ofInt 0) 59 20)
      refine k _ _ (done _ _ _ rfl rfl hr3 ?_ (Or.inl ⟨?_, rfl, ?_⟩)) hr3.2.2.2
      · rw [zuN_at, zuN_nk (by omega), zuN_nk (by omega), hrs.1.2.1]
        congr 2; omega
      · rw [zuN_nk (by omega), zuN_at]
      · rw [zuN_nk (by omega), zuN_nk (by omega), zuN_nk (by omega), hx21]
        dsimp only
        congr 2; omega
    rw [if_neg hsn] at k
    rw [if_pos (by omega)]
    have hb := hbt s (by omega)
    apply b142_55 hF
    rotate_left
    · intro c
      have c : ¬ Int32.ofInt 0 ≤ Int32.ofInt (b s : Int) := c
      simp (disch := omega) only [zI_le] at c
      exfalso; omega
    intro _
    have hr3 := yRi_zu hrs (j := 22) (by omega) (Int32.ofInt 4)
    have h321 : (zu V2 59 22 (Int32.ofInt 4)) 59 21 = Int32.ofInt (s : Int) := by rw [zuN_nk (by omega)]; exact hx21
    have h323 : (zu V2 59 22 (Int32.ofInt 4)) 59 23 = Int32.ofInt (s : Int) := by rw [zuN_nk (by omega)]; exact hx23
    have h322 : (zu V2 59 22 (Int32.ofInt 4)) 59 22 = Int32.ofInt 4 := by rw [zuN_at]
    generalize zu V2 59 22 (Int32.ofInt 4) = V3 at *
    apply b142_81 hF
    refine s132v hF (lo := 97) (hi := 122) (by omega) (by omega) (by omega) ?_ ?_
    · -- letters
      intro c1
      rw [if_pos (by omega)] at k
      apply b142_92 hF
      · intro c; exact absurd c (by decide)
      intro _
      apply b142_95 hF
      have loop : ∀ (m i : Nat) (V4 : Nat → Nat → Int32) (o : Option Value), n ≤ i + m → s ≤ i → i ≤ n → yLt b n m i = yLt b n 200 s → yRi V b n t q V4 → V4 59 21 = Int32.ofInt (i : Int) → V4 59 22 = Int32.ofInt 1 → V4 59 23 = Int32.ofInt (s : Int) → E x F (d + 1) 142 100 [some (.ref 59), o, o2] [] (V4, T) Q := by
        intro m
        induction m with
        | zero =>
          intro i V4 o hm hsi hin he hr4 h1 h2 h3
          rw [yLt_0 b n i] at he
          apply b142_100 hF
          rw [h1]
          apply s143 hF hr4.1 (by omega)
          rw [if_neg (by omega)]
          apply b142_108 hF
          refine s132v hF (lo := 97) (hi := 122) (by omega) (by omega) (by omega) ?_ ?_
          · intro c; exfalso; omega
          intro _
          apply b142_118 hF
          · intro _
            apply b142_321 hF
            refine k _ _ (done _ _ _ rfl rfl hr4 h3 (Or.inr (Or.inr (Or.inr (Or.inl ⟨h2, ⟨rfl, rfl⟩, ?_, (yLt_in b n 200 s).1, ?_⟩))))) hr4.2.2.2
            · rw [h1, he]
            · exact fun j j1 j2 => yLt_all b n 200 s j j1 j2
          · intro c; exact absurd rfl c
        | succ m ih =>
          intro i V4 o hm hsi hin he hr4 h1 h2 h3
          rw [yLt_s b n m i] at he
          apply b142_100 hF
          rw [h1]
          apply s143 hF hr4.1 (by omega)
          apply b142_108 hF
          have stop : ¬ (i < n ∧ (97 ≤ b i ∧ b i ≤ 122)) → E x F (d + 1) 142 118 [some (.ref 59), o, o2] [.int (Int32.ofInt (0))] (V4, T) Q := by
            intro c
            rw [if_neg c] at he
            apply b142_118 hF
            · intro _
              apply b142_321 hF
              refine k _ _ (done _ _ _ rfl rfl hr4 h3 (Or.inr (Or.inr (Or.inr (Or.inl ⟨h2, ⟨rfl, rfl⟩, ?_, (yLt_in b n 200 s).1, ?_⟩))))) hr4.2.2.2
              · rw [h1, he]
              · exact fun j j1 j2 => yLt_all b n 200 s j j1 j2
            · intro c; exact absurd rfl c
          by_cases hin2 : i < n
          · rw [if_pos hin2]
            have hbi := hbt i hin2
            refine s132v hF (lo := 97) (hi := 122) (by omega) (by omega) (by omega) ?_ ?_
            · intro c
              rw [if_pos ⟨hin2, by omega⟩] at he
              apply b142_118 hF
              · intro c2; exact absurd c2 (by decide)
              intro _
              apply b142_121 hF
              rw [h1, zI_add]
              exact ih (i + 1) _ _ (by omega) (by omega) (by omega) he (yRi_zu hr4 (by omega) _) (by rw [zuN_at]; rfl) (by rw [zuN_nk (by omega)]; exact h2) (by rw [zuN_nk (by omega)]; exact h3)
            · intro c
              exact stop (by omega)
          · rw [if_neg hin2]
            refine s132v hF (lo := 97) (hi := 122) (by omega) (by omega) (by omega) ?_ ?_
            · intro c; exfalso; omega
            · intro _
              exact stop (by omega)
      exact loop 200 s _ _ (by omega) (Nat.le_refl _) (by omega) rfl (yRi_zu hr3 (by omega) _) (by rw [zuN_nk (by omega)]; exact h321) (by rw [zuN_at]) (by rw [zuN_nk (by omega)]; exact h323)
    intro c1
    rw [if_neg (by omega)] at k
    apply b142_92 hF
    rotate_left
    · intro c; exact absurd rfl c
    intro _
    apply b142_134 hF
    refine s132v hF (lo := 48) (hi := 57) (by omega) (by omega) (by omega) ?_ ?_
    · -- digits
      intro c2
      rw [if_pos (by omega)] at k
      apply b142_145 hF
      · intro c; exact absurd c (by decide)
      intro _
      apply b142_148 hF
      have out : ∀ (i : Nat) (V4 : Nat → Nat → Int32) (T4 : Nat → Nat → Int64) (o : Option Value), s ≤ i → i ≤ n → yDg b n 200 s = i → yRi V b n t q V4 → V4 59 21 = Int32.ofInt (i : Int) → V4 59 23 = Int32.ofInt (s : Int) → (i - s ≤ 4 → T4 59 24 = Int64.ofInt (yNu b s (i - s) : Int)) → E x F (d + 1) 142 235 [some (.ref 59), o, some (.int (Int32.ofInt (((i - s : Nat) : Int))))] [] (V4, T4) Q := by
        intro i V4 T4 o hsi hin he hr4 h1 h3 ht
        rw [he] at k
        apply b142_235 hF
        · intro c
          simp (disch := omega) only [zI_le] at c
          apply b142_245 hF
          apply b142_246 hF
          apply b142_321 hF
          have hr5 := yRi_zu hr4 (j := 22) (by omega) (Int32.ofInt 2)
          refine k _ _ (done _ _ _ rfl rfl hr5 ?_ (Or.inr (Or.inl ⟨?_, ?_, ?_, ?_⟩))) hr5.2.2.2
          · rw [zuN_nk (by omega)]; exact h3
          · rw [zuN_at]
          · exact if_pos (by omega)
          · rw [zuN_nk (by omega)]; exact h1
          · exact ht (by omega)
        · intro c
          simp (disch := omega) only [zI_le] at c
          apply b142_241 hF
          apply b142_246 hF
          apply b142_321 hF
          have hr5 := yRi_zu hr4 (j := 22) (by omega) (Int32.ofInt 4)
          refine k _ _ (done _ _ _ rfl rfl hr5 ?_ (Or.inr (Or.inr (Or.inr (Or.inr ⟨?_, ?_⟩))))) hr5.2.2.2
          · rw [zuN_nk (by omega)]; exact h3
          · rw [zuN_at]
          · exact if_neg (by omega)
      have loop : ∀ (m i : Nat) (V4 : Nat → Nat → Int32) (T4 : Nat → Nat → Int64) (o : Option Value) (P : Int), P = ((i - s : Nat) : Int) → n ≤ i + m → s ≤ i → i ≤ n → yDg b n m i = yDg b n 200 s → (∀ j, j < i - s → 48 ≤ b (s + j) ∧ b (s + j) ≤ 57) → yRi V b n t q V4 → V4 59 21 = Int32.ofInt (i : Int) → V4 59 23 = Int32.ofInt (s : Int) → (i - s ≤ 4 → T4 59 24 = Int64.ofInt (yNu b s (i - s) : Int)) → E x F (d + 1) 142 160 [some (.ref 59), o, some (.int (Int32.ofInt (P)))] [] (V4, T4) Q := by
        intro m
        induction m with
        | zero =>
          intro i V4 T4 o P hP hm hsi hin he hdg hr4 h1 h3 ht
          subst hP
          rw [yDg_0 b n i] at he
          apply b142_160 hF
          rw [h1]
          apply s143 hF hr4.1 (by omega)
          rw [if_neg (by omega)]
          apply b142_168 hF
          refine s132v hF (lo := 48) (hi := 57) (by omega) (by omega) (by omega) ?_ ?_
          · intro c; exfalso; omega
          intro _
          apply b142_178 hF
          · intro _
            exact out i V4 T4 o hsi hin he.symm hr4 h1 h3 ht
          · intro c; exact absurd rfl c
        | succ m ih =>
          intro i V4 T4 o P hP hm hsi hin he hdg hr4 h1 h3 ht
          subst hP
          rw [yDg_s b n m i] at he
          apply b142_160 hF
          rw [h1]
          apply s143 hF hr4.1 (by omega)
          apply b142_168 hF
          have stop : ¬ (i < n ∧ (48 ≤ b i ∧ b i ≤ 57)) → E x F (d + 1) 142 178 [some (.ref 59), o, some (.int (Int32.ofInt (((i - s : Nat) : Int))))] [.int (Int32.ofInt (0))] (V4, T4) Q := by
            intro c
            rw [if_neg c] at he
            apply b142_178 hF
            · intro _
              exact out i V4 T4 o hsi hin he.symm hr4 h1 h3 ht
            · intro c; exact absurd rfl c
          by_cases hin2 : i < n
          · rw [if_pos hin2]
            have hbi := hbt i hin2
            refine s132v hF (lo := 48) (hi := 57) (by omega) (by omega) (by omega) ?_ ?_
            · intro c
              rw [if_pos ⟨hin2, by omega⟩] at he
              apply b142_178 hF
              · intro c2; exact absurd c2 (by decide)
              intro _
              have hdg2 : ∀ j, j < i + 1 - s → 48 ≤ b (s + j) ∧ b (s + j) ≤ 57 := by
                intro j hj2
                by_cases hji : j = i - s
                · rw [hji, show s + (i - s) = i by omega]; omega
                · exact hdg j (by omega)
              have next : ∀ v : Int64, (i + 1 - s ≤ 4 → v = Int64.ofInt (yNu b s (i + 1 - s) : Int)) → E x F (d + 1) 142 216 [some (.ref 59), o, some (.int (Int32.ofInt (((i - s : Nat) : Int))))] [.long v, .ref 59] (V4, T4) Q := by
                intro v hv
                apply b142_216 hF
                rw [h1, zI_add, zI_add]
                refine ih (i + 1) _ _ _ _ (by omega) (by omega) (by omega) (by omega) he hdg2 (yRi_zu hr4 (by omega) _) (by rw [zuN_at]; rfl) (by rw [zuN_nk (by omega)]; exact h3) ?_
                intro c4
                rw [zuN_at]; exact hv c4
              apply b142_181 hF
              · intro c3
                simp (disch := omega) only [zI_le] at c3
                apply b142_212 hF
                exact next _ (fun c4 => by exfalso; omega)
              · intro c3
                simp (disch := omega) only [zI_le] at c3
                apply b142_187 hF
                rw [h1]
                apply s143 hF hr4.1 (by omega)
                rw [if_pos hin2]
                apply b142_203 hF
                refine next _ (fun c4 => ?_)
                have e : i + 1 - s = (i - s) + 1 := by omega
                have hlt := yNu_lt b s (i - s) hdg
                have hpw := Nat.pow_le_pow_right (n := 10) (by omega) (show i - s ≤ 3 by omega)
                rw [e, yNu, show s + (i - s) = i by omega, ht (by omega), zJ_of (by omega)]
                show Int64.ofInt 10 * _ + _ - Int64.ofInt 48 = _
                rw [← Int64.ofInt_mul, ← Int64.ofInt_add, ← Int64.ofInt_sub]
                congr 1
                omega
            · intro c
              exact stop (by omega)
          · rw [if_neg hin2]
            refine s132v hF (lo := 48) (hi := 57) (by omega) (by omega) (by omega) ?_ ?_
            · intro c; exfalso; omega
            · intro _
              exact stop (by omega)
      refine loop 200 s _ _ _ 0 (by omega) (by omega) (Nat.le_refl _) (by omega) rfl (fun j hj => by omega) (yRi_zu hr3 (by omega) _) (by rw [zuN_nk (by omega)]; exact h321) (by rw [zuN_nk (by omega)]; exact h323) ?_
      intro _
      rw [zuN_at, Nat.sub_self]; rfl
    -- signs
    intro c2
    rw [if_neg (by omega)] at k
    apply b142_145 hF
    rotate_left
    · intro c; exact absurd rfl c
    intro _
    have hsg := ySg_i (b s)
    have sign : ySg (b s) = true → E x F (d + 1) 142 300 [some (.ref 59), some (.int (Int32.ofInt ((b s:Int)))), o2] [] (V3, T) Q := by
      intro c3
      rw [if_pos c3] at k
      apply b142_300 hF
      apply b142_321 hF
      have hr5 := yRi_zu (yRi_zu hr3 (j := 22) (by omega) (Int32.ofInt 3)) (j := 21) (by omega) (zu V3 59 22 (Int32.ofInt 3) 59 21 + Int32.ofInt 1)
      have hss := hsg.mp c3
      refine k _ _ (done _ _ _ rfl rfl hr5 ?_ (Or.inr (Or.inr (Or.inl ⟨?_, ?_, ?_, ?_⟩)))) hr5.2.2.2
      · rw [zuN_nk (by omega), zuN_nk (by omega)]; exact h323
      · rw [zuN_nk (by omega), zuN_at]
      · dsimp only; omega
      · rw [zuN_at, zuN_nk (by omega), h321, zI_add]; rfl
      · rw [zuN_at, zJ_of (by omega)]
    have wrong : ¬ ySg (b s) = true → E x F (d + 1) 142 321 [some (.ref 59), some (.int (Int32.ofInt ((b s:Int)))), o2] [] (V3, T) Q := by
      intro c3
      rw [if_neg c3] at k
      apply b142_321 hF
      exact k _ _ (done _ _ _ rfl rfl hr3 h323 (Or.inr (Or.inr (Or.inr (Or.inr ⟨h322, rfl⟩))))) hr3.2.2.2
    have eq : ∀ z : Nat, z ≤ 255 → (Int32.ofInt (b s : Int) = Int32.ofInt (z : Int) ↔ b s = z) := fun z hz => by
      rw [zI_eq (by omega) (by omega)]; omega
    apply b142_252 hF
    · intro c; exact sign (hsg.mpr (by have := (eq 40 (by omega)).mp c; omega))
    intro d1
    apply b142_258 hF
    · intro c; exact sign (hsg.mpr (by have := (eq 41 (by omega)).mp c; omega))
    intro d2
    apply b142_264 hF
    · intro c; exact sign (hsg.mpr (by have := (eq 59 (by omega)).mp c; omega))
    intro d3
    apply b142_270 hF
    · intro c; exact sign (hsg.mpr (by have := (eq 43 (by omega)).mp c; omega))
    intro d4
    apply b142_276 hF
    · intro c; exact sign (hsg.mpr (by have := (eq 45 (by omega)).mp c; omega))
    intro d5
    apply b142_282 hF
    · intro c; exact sign (hsg.mpr (by have := (eq 42 (by omega)).mp c; omega))
    intro d6
    apply b142_288 hF
    · intro c; exact sign (hsg.mpr (by have := (eq 60 (by omega)).mp c; omega))
    intro d7
    apply b142_294 hF
    · intro d8
      refine wrong (fun c => ?_)
      rcases hsg.mp c with c | c | c | c | c | c | c | c
      · exact d1 ((eq 40 (by omega)).mpr c)
      · exact d2 ((eq 41 (by omega)).mpr c)
      · exact d3 ((eq 59 (by omega)).mpr c)
      · exact d4 ((eq 43 (by omega)).mpr c)
      · exact d5 ((eq 45 (by omega)).mpr c)
      · exact d6 ((eq 42 (by omega)).mpr c)
      · exact d7 ((eq 60 (by omega)).mpr c)
      · exact d8 ((eq 61 (by omega)).mpr c)
    · intro c; exact sign (hsg.mpr (by have := (eq 61 (by omega)).mp (Decidable.not_not.mp c); omega))
  have scan : ∀ (m i : Nat) (V1 : Nat → Nat → Int32) (o1 o2 : Option Value), n ≤ i + m → i ≤ n → yWs b n m i = yWs b n 200 h → yRi V b n t q V1 → V1 59 21 = Int32.ofInt (i : Int) → E x F (d + 1) 142 0 [some (.ref 59), o1, o2] [] (V1, T) Q := by
    intro m
    induction m with
    | zero =>
      intro i V1 o1 o2 hm hin he hr h1
      rw [yWs_0 b n i] at he
      apply b142_0 hF
      rw [h1]
      apply s143 hF hr.1 (by omega)
      rw [if_neg (by omega)]
      apply b142_8 hF
      · intro c; exact absurd c (by decide)
      intro _
      apply b142_13 hF
      rw [h1]
      apply s143 hF hr.1 (by omega)
      rw [if_neg (by omega)]
      apply b142_21 hF
      · intro _
        exact fin V1 o1 o2 hr (by rw [h1, he])
      · intro c; exfalso; exact c (by decide)
    | succ m ih =>
      intro i V1 o1 o2 hm hin he hr h1
      rw [yWs_s b n m i] at he
      apply b142_0 hF
      rw [h1]
      apply s143 hF hr.1 (by omega)
      have more : i < n ∧ (b i = 32 ∨ b i = 10) → E x F (d + 1) 142 26 [some (.ref 59), o1, o2] [] (V1, T) Q := by
        intro c
        rw [if_pos c] at he
        apply b142_26 hF
        rw [h1, zI_add]
        exact ih (i + 1) _ _ _ (by omega) (by omega) he (yRi_zu hr (by omega) _) (by rw [zuN_at]; rfl)
      have stop : ¬ (i < n ∧ (b i = 32 ∨ b i = 10)) → E x F (d + 1) 142 39 [some (.ref 59), o1, o2] [] (V1, T) Q := by
        intro c
        rw [if_neg c] at he
        exact fin V1 o1 o2 hr (by rw [h1, he])
      have hv : ∀ z : Int, z = 32 ∨ z = 10 → ((Int32.ofInt (if i < n then (b i : Int) else -1) = Int32.ofInt z) ↔ (i < n ∧ (b i : Int) = z)) := by
        intro z hz
        by_cases hin2 : i < n
        · have := (hbt i hin2).2
          rw [if_pos hin2, zI_eq (by omega) (by omega)]
          omega
        · rw [if_neg hin2, zI_eq (by omega) (by omega)]
          omega
      apply b142_8 hF
      · intro c
        have := (hv 32 (by omega)).mp c
        exact more (by omega)
      intro c1
      apply b142_13 hF
      rw [h1]
      apply s143 hF hr.1 (by omega)
      apply b142_21 hF
      · intro c2
        refine stop (fun c => ?_)
        rcases c.2 with c3 | c3
        · exact c1 ((hv 32 (by omega)).mpr ⟨c.1, by omega⟩)
        · exact c2 ((hv 10 (by omega)).mpr ⟨c.1, by omega⟩)
      · intro c2
        have := (hv 10 (by omega)).mp (Decidable.not_not.mp c2)
        exact more (by omega)
  exact scan 200 h V o1 o2 (by omega) hh rfl hi h21
