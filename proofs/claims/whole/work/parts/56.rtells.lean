/-! tells: the reference, its top -/
theorem yLd_yLd {S : Nat → Nat → Nat} {sort who a b : Nat} : yLd (yLd S sort who a) sort who b = yLd S sort who b := by
  have e : ∀ (f i : Nat), zu (zu S f i a) f i b = zu S f i b := by
    intro f i
    funext g j
    rw [zu_if, zu_if, zu_if]
    split <;> rfl
  unfold yLd
  by_cases h0 : sort = 0
  · simp only [if_pos h0, e]
  · by_cases h1 : sort = 1
    · simp only [if_neg h0, if_pos h1, e]
    · by_cases h2 : sort = 2
      · simp only [if_neg h0, if_neg h1, if_pos h2, e]
      · by_cases h3 : sort = 3
        · simp only [if_neg h0, if_neg h1, if_neg h2, if_pos h3, e]
        · simp only [if_neg h0, if_neg h1, if_neg h2, if_neg h3, e]
/-- what a state holds of a sort -/
def yCur (S : Nat → Nat → Nat) (sort who : Nat) : Nat := if sort = 0 then S 5 1 else if sort = 1 then S 3 who else if sort = 2 then S 4 who else if sort = 3 then S 2 who else S 5 2
theorem yLd_cur {S : Nat → Nat → Nat} {sort who : Nat} : yLd S sort who (yCur S sort who) = S := by
  have e : ∀ (f i : Nat), zu S f i (S f i) = S := by
    intro f i
    funext g j
    rw [zu_if]
    split
    · rename_i h; rw [h.1, h.2]
    · rfl
  unfold yLd yCur
  by_cases h0 : sort = 0
  · simp only [if_pos h0, e]
  · by_cases h1 : sort = 1
    · simp only [if_neg h0, if_pos h1, e]
    · by_cases h2 : sort = 2
      · simp only [if_neg h0, if_neg h1, if_pos h2, e]
      · by_cases h3 : sort = 3
        · simp only [if_neg h0, if_neg h1, if_neg h2, if_pos h3, e]
        · simp only [if_neg h0, if_neg h1, if_neg h2, if_neg h3, e]
theorem yFq_fr {V V2 : Nat → Nat → Int32} {S : Nat → Nat → Nat} (h1 : zMS V S) (h2 : zMS V2 S) (h : yFq V V2) : yFr V V2 := by
  refine ⟨h.1, ?_⟩
  intro j hj
  by_cases h4 : j = 4
  · rw [h4, h1.2.2.2.2.2.2.2, h2.2.2.2.2.2.2.2]
  · by_cases h12 : j = 12
    · rw [h12, h1.2.2.2.2.2.1, h2.2.2.2.2.2.1]
    · exact h.2 j (by omega)
theorem yFr_q {V V2 : Nat → Nat → Int32} (h : yFr V V2) : yFq V V2 := ⟨h.1, fun j hj => h.2 j (by omega)⟩
theorem s193l {x : zXs} {F : zF} (hF : zSh F) {d : Nat} {V : Nat → Nat → Int32} {T : Nat → Nat → Int64} {Q : Option Value → zG → Prop} {S : Nat → Nat → Nat} (hS : zMS V S) (hW : zWf S) {n : Nat} {w : Nat → Nat → (Nat → Int32) → Int32} (hR : zRd x F V n w) (hru : S 5 2 < n) {t : Nat} (ht : t < 4) {X : Int × Nat × (Nat → Int32)} (hX : zXm V t X) {one r : Nat} (ho : one < 5) (hr : r < 4) (hz : X.2.1 ≤ zrn (zgb S r) 24) {sort N : Nat} (hs : 1 ≤ sort ∧ sort ≤ 4) (hN : (sort = 1 ∧ N = 10) ∨ (sort = 2 ∧ N = 100) ∨ (sort = 3 ∧ N = 6) ∨ (sort = 4 ∧ N = n)) (hn6 : n ≤ 6) {o4 o6 o7 : Option Value} (K : ∀ V2 T2 S2, zMS V2 S2 → (∀ v, yLd S2 sort one v = yLd S sort one v) → yFq V V2 → ∀ o11 : Option Value, E x F (d + 56) 193 275 [some (.ref 59), some (.int (Int32.ofInt ((t:Int)))), some (.int (Int32.ofInt ((one:Int)))), some (.int (Int32.ofInt ((r:Int)))), o4, some (.int (Int32.ofInt ((sort:Int)))), o6, o7, some (.int (Int32.ofInt ((ySB (yQ w S X one r sort) N 0 : Int)))), some (.int (Int32.ofInt ((ySC (yQ w S X one r sort) N 0 : Int)))), some (.int (Int32.ofInt ((ySL (yQ w S X one r sort) N 0)))), o11] [] (V2, T2) Q) : ∀ (j m : Nat) (V1 : Nat → Nat → Int32) (T1 : Nat → Nat → Int64) (S1 : Nat → Nat → Nat) (P B C L : Int), P = (j : Int) - 1 → j + m = N → B = (ySB (yQ w S X one r sort) m j : Int) → C = (ySC (yQ w S X one r sort) m j : Int) → L = ySL (yQ w S X one r sort) m j → zMS V1 S1 → (∀ v, yLd S1 sort one v = yLd S sort one v) → yFq V V1 → E x F (d + 56) 193 217 [some (.ref 59), some (.int (Int32.ofInt ((t:Int)))), some (.int (Int32.ofInt ((one:Int)))), some (.int (Int32.ofInt ((r:Int)))), o4, some (.int (Int32.ofInt ((sort:Int)))), o6, o7, some (.int (Int32.ofInt (B))), some (.int (Int32.ofInt (C))), some (.int (Int32.ofInt (L))), some (.int (Int32.ofInt (P)))] [] (V1, T1) Q := by
  have hz24 := zrn_le (zgb S r) 24
  intro j
  induction j with
  | zero =>
    intro m V1 T1 S1 P B C L hP hj hB hC hL hS1 hS1v hf
    subst hP
    subst hB
    subst hC
    subst hL
    have hm : m = N := by omega
    rw [hm]
    apply b193_217 hF
    · intro _
      exact K V1 T1 S1 hS1 hS1v hf _
    · intro c
      exact absurd (by decide) c
  | succ j ih =>
    intro m V1 T1 S1 P B C L hP hj hB hC hL hS1 hS1v hf
    have eP : P = (j : Int) := by omega
    subst eP
    subst hB
    subst hC
    subst hL
    apply b193_217 hF
    · intro c
      simp (disch := omega) only [zI_lt, zI_0] at c
      exfalso; omega
    intro _
    apply b193_222 hF
    refine s162 hF hS1 (sort := sort) (v := j) (by omega) (fun _ _ => by omega) ?_
    intro V2 hS2 f2 f3
    rw [Int.toNat_natCast, hS1v j] at hS2
    have hf2 : yFq V V2 := yFq_tr hf ⟨fun a h1 h2 => f2 a h1 (by omega) (by omega), fun q hq => f3 q (by omega) (by omega)⟩
    apply b193_231 hF
    have hR2 : zRd x F V2 n w := zRd_fr hR (hf2.1 60 (by omega) (by omega)) (hf2.1 61 (by omega) (by omega))
    apply s195 hF hS2 (yLd_wf hW (by omega)) hR2 (yLd_52 hru (by omega)) ht (zXm_fr hX (fun a ha => hf2.1 a (by omega) (by omega))) ho hr (by rw [yLd_gb]; exact hz)
    intro V4 T4 hS4 f4
    have hf4 := yFq_tr hf2 (yFr_q f4)
    have hin2 := yFo_in (w := w) (S := yLd S sort one j) (X := X) (one := one) (r := r) (by omega)
    have hq : yQ w S X one r sort j = decide (yFo w (yLd S sort one j) X one r = -1) := rfl
    have hnB : ySB (yQ w S X one r sort) (m + 1) j = ySB (yQ w S X one r sort) m (j + 1) ||| (if yQ w S X one r sort j = true ∧ j < 10 then 2 ^ j else 0) := rfl
    have hnC : ySC (yQ w S X one r sort) (m + 1) j = ySC (yQ w S X one r sort) m (j + 1) + (if yQ w S X one r sort j = true then 1 else 0) := rfl
    have hnL : ySL (yQ w S X one r sort) (m + 1) j = if yQ w S X one r sort j = true then (j : Int) else ySL (yQ w S X one r sort) m (j + 1) := rfl
    have I := fun (B C L : Int) (hB : B = (ySB (yQ w S X one r sort) (m + 1) j : Int)) (hC : C = (ySC (yQ w S X one r sort) (m + 1) j : Int)) (hL : L = ySL (yQ w S X one r sort) (m + 1) j) => ih (m + 1) V4 T4 (yLd S sort one j) ((j : Int) + -1) B C L (by omega) (by omega) hB hC hL hS4 (fun v => yLd_yLd) hf4
    generalize yFo w (yLd S sort one j) X one r = z at *
    apply b193_238 hF
    · intro c
      simp (disch := omega) only [zI_eq] at c
      have hqf : ¬ yQ w S X one r sort j = true := by rw [hq]; simp only [decide_eq_true_eq]; exact c
      rw [if_neg (fun g => hqf g.1), Nat.or_zero] at hnB
      rw [if_neg hqf] at hnC hnL
      apply b193_269 hF
      rw [zI_add]
      exact I _ _ _ (by rw [hnB]) (by omega) (by rw [hnL])
    · intro c
      simp (disch := omega) only [zI_eq, Decidable.not_not] at c
      have hqt : yQ w S X one r sort j = true := by rw [hq]; simp only [decide_eq_true_eq]; exact c
      rw [if_pos hqt] at hnC hnL
      have es : Int32.ofInt 1 <<< (Int32.ofInt (j : Int) &&& 31) = Int32.ofInt ((1 <<< (j % 32) : Nat) : Int) ∨ True := Or.inr trivial
      have tail : ∀ b : Nat, b = (if yQ w S X one r sort j = true ∧ j < 10 then 2 ^ j else 0) → E x F (d + 56) 193 259 [some (.ref 59), some (.int (Int32.ofInt ((t:Int)))), some (.int (Int32.ofInt ((one:Int)))), some (.int (Int32.ofInt ((r:Int)))), o4, some (.int (Int32.ofInt ((sort:Int)))), o6, o7, some (.int (Int32.ofInt ((ySB (yQ w S X one r sort) m (j + 1) : Int)))), some (.int (Int32.ofInt ((ySC (yQ w S X one r sort) m (j + 1) : Int)))), some (.int (Int32.ofInt ((ySL (yQ w S X one r sort) m (j + 1))))), some (.int (Int32.ofInt ((j:Int))))] [.int (Int32.ofInt ((b:Int))), .int (Int32.ofInt ((ySB (yQ w S X one r sort) m (j + 1) : Int)))] (V4, T4) Q := by
        intro b hb
        apply b193_259 hF
        apply b193_269 hF
        rw [zB_or, zI_add, zI_add]
        exact I _ _ _ (by rw [hnB, hb]) (by rw [hnC]; omega) (by rw [hnL])
      apply b193_242 hF
      · intro c1
        simp (disch := omega) only [zI_le] at c1
        apply b193_258 hF
        exact tail 0 (by rw [if_neg (fun g => by omega)])
      · intro c1
        simp (disch := omega) only [zI_le] at c1
        apply b193_251 hF
        have := zB_shl 1 (show j < 32 by omega)
        rw [Nat.shiftLeft_eq, Nat.one_mul] at this
        have e1 : Int32.ofInt 1 <<< (Int32.ofInt (j : Int) &&& 31) = Int32.ofInt ((2 ^ j : Nat) : Int) := this
        rw [e1]
        exact tail _ (by rw [if_pos ⟨hqt, by omega⟩])
theorem s193 {x : zXs} {F : zF} (hF : zSh F) {d : Nat} {V : Nat → Nat → Int32} {T : Nat → Nat → Int64} {Q : Option Value → zG → Prop} {S : Nat → Nat → Nat} (hS : zMS V S) (hW : zWf S) {n : Nat} {w : Nat → Nat → (Nat → Int32) → Int32} (hR : zRd x F V n w) (hru : S 5 2 < n) (h3n : V 59 3 = Int32.ofInt (n : Int)) (hn6 : n ≤ 6) {H : Nat → Int × Nat × (Nat → Int32)} (hw : zHw H) (hH : zHm V H) {s one row what : Int} (h_s : -2147483648 ≤ s ∧ s ≤ 2147483647) (h_one : -2147483648 ≤ one ∧ one ≤ 2147483647) (h_row : -2147483648 ≤ row ∧ row ≤ 2147483647) (h_what : -2147483648 ≤ what ∧ what ≤ 2147483647) (k : ∀ V2 T2, zMS V2 S → yFr V V2 → Q (some (.int (Int32.ofInt (yTells w H S n s one row what)))) (V2, T2)) {o5 o6 o7 o8 o9 o10 o11 : Option Value} : E x F (d + 56) 193 0 [some (.ref 59), some (.int (Int32.ofInt (s))), some (.int (Int32.ofInt (one))), some (.int (Int32.ofInt (row))), some (.int (Int32.ofInt (what))), o5, o6, o7, o8, o9, o10, o11] [] (V, T) Q := by
  have h5 := hW.2.2.1
  unfold yTells yTlOk at k
  have kb : ¬ ((0 ≤ s ∧ s ≤ 3) ∧ (0 ≤ one ∧ one < S 5 0) ∧ (0 ≤ row ∧ row ≤ 3) ∧ (0 ≤ what ∧ what ≤ 7)) → Q (some (.int (Int32.ofInt (-2)))) (V, T) := by
    intro c
    rw [if_neg c] at k
    exact k V T hS (yFr_rfl V)
  repeat' (first
    | (intro c; (try simp (disch := omega) only [zI_lt, zI_le, zI_eq, zI_0, zI_add, zI_sub, zI_mul, zI_neg, Int.reduceNeg, Int.reduceAdd, Int.reduceSub, Int.reduceMul, Decidable.not_not, Int.not_lt, Int.not_le, not_true_eq_false, not_false_eq_true] at c); (try (exfalso; omega)))
    | simp only [zI_add, zI_sub, zI_mul, zI_neg]
    | apply s194 hF h_s
    | apply s136 hF hS h5 h_one
    | apply s131 hF h_row
    | apply s132v hF h_what (lo := 0) (hi := 7) (by omega) (by omega)
    | apply b193_0 hF
    | apply b193_4 hF
    | apply b193_7 hF
    | apply b193_12 hF
    | apply b193_15 hF
    | apply b193_19 hF
    | apply b193_22 hF
    | apply b193_32 hF
    | apply b193_35 hF
    | apply b193_47 hF
    | apply b193_50 hF
    | apply b193_61 hF
    | apply b193_64 hF
    | apply b193_67 hF
    | apply b193_72 hF
    | apply b193_79 hF
    | apply b193_80 hF
    | apply b193_86 hF
    | apply b193_93 hF
    | apply b193_99 hF
    | apply b193_102 hF
    | apply b193_108 hF
    | apply b193_109 hF
    | apply b193_115 hF
    | apply b193_119 hF
    | apply b193_125 hF
    | apply b193_129 hF
    | apply b193_135 hF
    | apply b193_139 hF
    | apply b193_140 hF
    | apply b193_148 hF
    | apply b193_155 hF
    | apply b193_162 hF
    | apply b193_170 hF
    | apply b193_179 hF
    | apply b193_185 hF
    | apply b193_189 hF
    | apply b193_195 hF
    | apply b193_200 hF
    | apply b193_202 hF
    | apply b193_217 hF
    | apply b193_222 hF
    | apply b193_231 hF
    | apply b193_238 hF
    | apply b193_242 hF
    | apply b193_251 hF
    | apply b193_258 hF
    | apply b193_259 hF
    | apply b193_269 hF
    | apply b193_275 hF
    | apply b193_284 hF
    | apply b193_290 hF
    | apply b193_295 hF
    | apply b193_301 hF
    | apply b193_306 hF
    | apply b193_308 hF
    | exact kb (by omega)
    | with_reducible assumption
    | exact zI_nat _
    | exact zNb1
    | exact zNb0
    | omega
    | with_reducible rfl
    | exact zI_nI (by omega))
  have c : (0 ≤ s ∧ s ≤ 3) ∧ (0 ≤ one ∧ one < S 5 0) ∧ (0 ≤ row ∧ row ≤ 3) ∧ (0 ≤ what ∧ what ≤ 7) := by omega
  rw [if_pos c] at k
  obtain ⟨t, rfl⟩ : ∃ t : Nat, s = t := ⟨s.toNat, by omega⟩
  obtain ⟨i, rfl⟩ : ∃ i : Nat, one = i := ⟨one.toNat, by omega⟩
  obtain ⟨r, rfl⟩ : ∃ r : Nat, row = r := ⟨row.toNat, by omega⟩
  simp only [Int.toNat_natCast] at k
  have hr : r < 4 := by omega
  have ho : i < 5 := by omega
  have ht : t < 4 := by omega
  have hz24 := zrn_le (zgb S r) 24
  have hWi := hW.2.1 i ho
  have h52 := hW.2.2.2.2
  obtain ⟨w1, w2⟩ := hw t ht
  obtain ⟨g1, g2⟩ := hH t ht
  generalize H t = X at *
  apply b193_38 hF (i1 := t) (zI_nat t) ht
  rotate_left
  · rw [g1, yM01]
    intro c1
    have c1 := Decidable.not_not.mp c1
    rw [if_pos c1] at k
    exact b193_47 hF (k V T hS (yFr_rfl V))
  rw [g1, yM01]
  intro c1
  rw [if_neg c1] at k
  obtain ⟨_, hX⟩ := g2 c1
  have hX : zXm V t X := hX
  apply b193_50 hF (i1 := t) (zI_nat t) ht
  apply s158m hF hS hW hr
  intro V1 _ f1
  have hS1 := zMS_67 hS f1
  have hf1 := yFr_67 f1
  have hX1 := zXm_fr hX (V2 := V1) (fun a ha => f1 a (by omega) (by omega))
  have hR1 : zRd x F V1 n w := zRd_fr hR (f1 60 (by omega) (by omega)) (f1 61 (by omega) (by omega))
  have k := fun V2 T2 (h1 : zMS V2 S) (h2 : yFr V1 V2) => k V2 T2 h1 (yFr_tr hf1 h2)
  rw [hX.1]
  apply b193_61 hF
  rotate_left
  · intro c2
    simp (disch := omega) only [zI_le] at c2
    rw [if_pos (by omega)] at k
    exact b193_64 hF (k V1 T hS1 (yFr_rfl V1))
  intro c2
  simp (disch := omega) only [zI_le] at c2
  have hz : X.2.1 ≤ zrn (zgb S r) 24 := by omega
  rw [if_neg (by omega)] at k
  unfold yTell at k
  -- the four that are tried from the last down
  have go202 : ∀ (sort N : Nat) (b : Nat) (T1 : Nat → Nat → Int64) (V2 : Nat → Nat → Int32) (o7 o8 o9 o10 o11 : Option Value), zMS V2 S → yFr V1 V2 → b = yCur S sort i → (what = 1 ∧ sort = 3 ∧ N = 6) ∨ (what = 2 ∧ sort = 1 ∧ N = 10) ∨ ((what = 3 ∨ what = 4) ∧ sort = 2 ∧ N = 100) ∨ (what = 5 ∧ sort = 4 ∧ N = n) → E x F (d + 56) 193 202 [some (.ref 59), some (.int (Int32.ofInt ((t:Int)))), some (.int (Int32.ofInt ((i:Int)))), some (.int (Int32.ofInt ((r:Int)))), some (.int (Int32.ofInt (what))), some (.int (Int32.ofInt ((sort:Int)))), some (.int (Int32.ofInt ((b:Int)))), o7, o8, o9, o10, o11] [.int (Int32.ofInt ((N:Int) - 1))] (V2, T1) Q := by
    intro sort N b T1 V2 o7 o8 o9 o10 o11 hS2 hf2 hb hsw
    have hX2 := zXm_fr hX1 (V2 := V2) (fun a ha => hf2.1 a (by omega) (by omega))
    have hR2 : zRd x F V2 n w := zRd_fr hR1 (hf2.1 60 (by omega) (by omega)) (hf2.1 61 (by omega) (by omega))
    apply b193_202 hF
    refine s193l hF (T := T1) hS2 hW hR2 hru ht hX2 ho hr hz (sort := sort) (N := N) (by omega) (by omega) hn6 ?_ N 0 V2 T1 S _ 0 0 (-1) rfl (Nat.add_zero _) rfl rfl rfl hS2 (fun _ => rfl) (yFq_rfl V2)
    intro V3 T3 S3 hS3 hS3v hf3 o11
    have eB : N ≤ 10 → yPB (yQ w S X i r sort) N = ySB (yQ w S X i r sort) N 0 := by
      intro h
      have := yPB_s (yQ w S X i r sort) N 0 (by omega)
      rw [Nat.zero_add] at this
      rw [this]
      exact Nat.zero_or _
    have eC : yPC (yQ w S X i r sort) N = ySC (yQ w S X i r sort) N 0 := by
      have := yPC_s (yQ w S X i r sort) N 0
      rw [Nat.zero_add] at this
      rw [this]
      exact Nat.zero_add _
    have eL : yPL (yQ w S X i r sort) N = ySL (yQ w S X i r sort) N 0 := by
      have := yPL_s (yQ w S X i r sort) N 0
      rw [Nat.zero_add] at this
      rw [this]
      exact if_pos rfl
    apply b193_275 hF
    refine s162 hF hS3 (sort := sort) (v := b) (by omega) (fun _ _ => by omega) ?_
    intro V4 hS4 f4 f5
    rw [Int.toNat_natCast, hS3v b, hb, yLd_cur] at hS4
    have hf4 : yFr V2 V4 := yFq_fr hS2 hS4 (yFq_tr hf3 ⟨fun a h1 h2 => f4 a h1 (by omega) (by omega), fun q hq => f5 q (by omega) (by omega)⟩)
    have K := k V4 T3 hS4 (yFr_tr hf2 hf4)
    rw [if_neg (by omega)] at K
    apply b193_284 hF
    · intro c3
      simp (disch := omega) only [zI_eq] at c3
      apply b193_295 hF
      · intro c4
        simp (disch := omega) only [zI_eq] at c4
        apply b193_306 hF
        apply b193_308 hF
        rcases hsw with ⟨q1, q2, q3⟩ | ⟨q1, q2, q3⟩ | ⟨q1, q2, q3⟩ | ⟨q1, q2, q3⟩
        · rw [if_pos q1] at K
          subst q2; subst q3
          rw [eB (by omega)] at K
          exact K
        · rw [if_neg (by omega), if_pos q1] at K
          subst q2; subst q3
          rw [eB (by omega)] at K
          exact K
        · exfalso; omega
        · rw [if_neg (by omega), if_neg (by omega), if_neg (by omega), if_neg (by omega), if_pos q1] at K
          subst q2; subst q3
          rw [eB (by omega)] at K
          exact K
      · intro c4
        simp (disch := omega) only [zI_eq, Decidable.not_not] at c4
        have q2 : sort = 2 := by omega
        have q3 : N = 100 := by omega
        subst q2; subst q3
        rw [if_neg (by omega), if_neg (by omega), if_neg (by omega), if_pos c4, eL] at K
        apply b193_301 hF
        exact b193_308 hF K
    · intro c3
      simp (disch := omega) only [zI_eq, Decidable.not_not] at c3
      have q2 : sort = 2 := by omega
      have q3 : N = 100 := by omega
      subst q2; subst q3
      rw [if_neg (by omega), if_neg (by omega), if_pos c3, eC] at K
      apply b193_290 hF
      exact b193_308 hF K
  have go140 : ∀ (sort N : Nat) (o5 o6 o7 o8 o9 o10 o11 : Option Value), (what = 1 ∧ sort = 3 ∧ N = 6) ∨ (what = 2 ∧ sort = 1 ∧ N = 10) ∨ ((what = 3 ∨ what = 4) ∧ sort = 2 ∧ N = 100) ∨ (what = 5 ∧ sort = 4 ∧ N = n) → E x F (d + 56) 193 140 [some (.ref 59), some (.int (Int32.ofInt ((t:Int)))), some (.int (Int32.ofInt ((i:Int)))), some (.int (Int32.ofInt ((r:Int)))), some (.int (Int32.ofInt (what))), o5, o6, o7, o8, o9, o10, o11] [.int (Int32.ofInt ((sort:Int)))] (V1, T) Q := by
    intro sort N o5 o6 o7 o8 o9 o10 o11 hsw
    apply b193_140 hF
    · intro c3
      simp (disch := omega) only [zI_eq] at c3
      apply b193_155 hF
      refine s138 hF hS1 hW hR1 hru (who := (i : Int)) (what := (sort : Int)) (by omega) (by omega) ?_
      intro V2 T2 hS2 hf2
      have ey : yTold w S (i : Int) (sort : Int) = (yCur S sort i : Int) := by
        unfold yTold yCur
        rw [if_neg (by omega), if_pos (by omega), if_pos (by omega), Int.toNat_natCast]
        rcases (show sort = 1 ∨ sort = 2 ∨ sort = 3 by omega) with rfl | rfl | rfl
        · rfl
        · rfl
        · rfl
      have hcur : yCur S sort i ≤ 1000 := by
        unfold yCur
        rcases (show sort = 1 ∨ sort = 2 ∨ sort = 3 by omega) with rfl | rfl | rfl
        · rw [if_neg (by omega), if_pos rfl]; omega
        · rw [if_neg (by omega), if_neg (by omega), if_pos rfl]; omega
        · rw [if_neg (by omega), if_neg (by omega), if_neg (by omega), if_pos rfl]; omega
      rw [ey]
      have G := fun o7 o8 o9 o10 o11 => go202 sort N (yCur S sort i) T2 V2 o7 o8 o9 o10 o11 hS2 hf2 rfl hsw
      apply b193_162 hF
      rotate_left
      · intro c
        simp (disch := omega) only [zI_eq, Decidable.not_not] at c
        exfalso; omega
      intro _
      apply b193_179 hF
      · intro c4
        simp (disch := omega) only [zI_eq] at c4
        apply b193_189 hF
        · intro c5
          simp (disch := omega) only [zI_eq] at c5
          apply b193_200 hF
          have q3 : N = 100 := by omega
          subst q3
          exact G _ _ _ _ _
        · intro c5
          simp (disch := omega) only [zI_eq, Decidable.not_not] at c5
          apply b193_195 hF
          have q3 : N = 10 := by omega
          subst q3
          exact G _ _ _ _ _
      · intro c4
        simp (disch := omega) only [zI_eq, Decidable.not_not] at c4
        apply b193_185 hF
        have q3 : N = 6 := by omega
        subst q3
        exact G _ _ _ _ _
    · intro c3
      simp (disch := omega) only [zI_eq, Decidable.not_not] at c3
      have q2 : sort = 4 := by omega
      subst q2
      apply b193_148 hF
      rw [hS1.2.2.2.2.2.2.2]
      apply b193_162 hF
      · intro c; exact absurd rfl c
      intro _
      apply b193_170 hF
      have q3 : N = n := by omega
      subst q3
      rw [hf1.2 3 (by omega), h3n, zI_sub]
      exact go202 4 N (S 5 2) T V1 _ _ _ _ _ hS1 (yFr_rfl V1) rfl hsw
  apply b193_67 hF
  rotate_left
  · intro c3
    simp (disch := omega) only [zI_eq, zI_0, Decidable.not_not] at c3
    simp only [if_pos c3] at k
    apply b193_72 hF
    apply s195 hF hS1 hW hR1 hru ht hX1 ho hr hz
    intro V2 T2 hS2 hf2
    exact b193_79 hF (k V2 T2 hS2 hf2)
  intro c3
  simp (disch := omega) only [zI_eq, zI_0] at c3
  apply b193_80 hF
  · intro c4
    simp (disch := omega) only [zI_le] at c4
    apply b193_109 hF
    · intro c5
      simp (disch := omega) only [zI_eq] at c5
      apply b193_119 hF
      · intro c6
        simp (disch := omega) only [zI_eq] at c6
        apply b193_129 hF
        · intro c7
          simp (disch := omega) only [zI_eq] at c7
          apply b193_139 hF
          exact go140 2 100 _ _ _ _ _ _ _ (by omega)
        · intro c7
          simp (disch := omega) only [zI_eq, Decidable.not_not] at c7
          apply b193_135 hF
          exact go140 4 n _ _ _ _ _ _ _ (by omega)
      · intro c6
        simp (disch := omega) only [zI_eq, Decidable.not_not] at c6
        apply b193_125 hF
        exact go140 1 10 _ _ _ _ _ _ _ (by omega)
    · intro c5
      simp (disch := omega) only [zI_eq, Decidable.not_not] at c5
      apply b193_115 hF
      exact go140 3 6 _ _ _ _ _ _ _ (by omega)
  · intro c4
    simp (disch := omega) only [zI_le] at c4
    rw [if_neg (by omega), if_neg (by omega), if_neg (by omega), if_neg (by omega), if_neg (by omega), if_neg (by omega)] at k
    apply b193_86 hF
    · intro c5
      simp (disch := omega) only [zI_eq] at c5
      rw [if_neg (by omega)] at k
      apply b193_102 hF
      apply b197_0 hF
      refine s197l hF (T := T) hS1 hW hR1 hru ht hX1 w2 ho ?_ 4 0 V1 T 0 0 rfl rfl rfl hS1 (yFr_rfl V1)
      intro V2 T2 hS2 hf2
      exact b193_108 hF (k V2 T2 hS2 hf2)
    · intro c5
      simp (disch := omega) only [zI_eq, Decidable.not_not] at c5
      rw [if_pos c5] at k
      apply b193_93 hF
      apply b196_0 hF
      refine s196l hF (T := T) hS1 hW hR1 hru ht hX1 hr hz ?_ (S 5 0) 0 V1 T 0 0 rfl rfl (Nat.zero_add _) hS1 (yFr_rfl V1)
      intro V2 T2 hS2 hf2
      exact b193_99 hF (b193_108 hF (k V2 T2 hS2 hf2))
