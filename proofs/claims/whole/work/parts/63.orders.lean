/-! orders: the reference -/
theorem yDl_mem {c m : Nat} {g : List Nat → List (List Nat)} {pre : List Nat} (hg : ∀ f, f < c → ∀ q, q ∈ g (pre ++ [f]) → q.length = c ∧ ∀ f, f ∈ q → f < c) : ∀ k f, f + k = c → ∀ q, q ∈ yDl g pre k f → q.length = c ∧ ∀ f, f ∈ q → f < c := by
  intro k
  induction k with
  | zero => intro f _ q hq; simp only [yDl] at hq; exact absurd hq (by simp)
  | succ k ih =>
    intro f hf q hq
    simp only [yDl, List.mem_append] at hq
    rcases hq with hq | hq
    · split at hq
      · exact absurd hq (by simp)
      · exact hg f (by omega) q hq
    · exact ih (f + 1) (by omega) q hq
theorem yDf_mem {c : Nat} : ∀ (m : Nat) (pre : List Nat), pre.length + m = c → (∀ f, f ∈ pre → f < c) → ∀ q, q ∈ yDf c m pre → q.length = c ∧ ∀ f, f ∈ q → f < c := by
  intro m
  induction m with
  | zero =>
    intro pre hl hp q hq
    simp only [yDf, List.mem_singleton] at hq
    rw [hq]
    exact ⟨by omega, hp⟩
  | succ m ih =>
    intro pre hl hp q hq
    rw [yDf] at hq
    refine yDl_mem (m := m) (fun f hf q hq => ih (pre ++ [f]) (by rw [List.length_append]; simp; omega) (fun a ha => ?_) q hq) c 0 (Nat.zero_add _) q hq
    rcases List.mem_append.mp ha with h | h
    · exact hp a h
    · rw [List.mem_singleton] at h; omega
/-- the reference holds the best so far -/
def zBr (V : Nat → Nat → Int32) (b : Option (List Nat × Int)) : Prop := match b with
  | none => V 59 35 = Int32.ofInt (-1)
  | some (q, v) => V 59 35 = Int32.ofInt (yDi q : Int) ∧ V 59 36 = Int32.ofInt v
theorem zBr_fr {V V2 : Nat → Nat → Int32} {b : Option (List Nat × Int)} (h : zBr V b) (h1 : V2 59 35 = V 59 35) (h2 : V2 59 36 = V 59 36) : zBr V2 b := by
  cases b with
  | none => unfold zBr at h ⊢; dsimp only at h ⊢; rw [h1]; exact h
  | some q => obtain ⟨q, v⟩ := q; unfold zBr at h ⊢; dsimp only at h ⊢; rw [h1, h2]; exact h
theorem yGS_back {w : Nat → Nat → (Nat → Int32) → Int32} {S : Nat → Nat → Nat} {f r : Nat} : zu (zu (zu (yGS w S f r) 1 r (S 1 r)) 0 r (S 0 r)) 4 f (S 4 f) = S := by
  funext g j
  unfold yGS
  simp only [zu_if]
  by_cases h4 : g = 4 ∧ j = f
  · rw [if_pos h4, h4.1, h4.2]
  · rw [if_neg h4]
    by_cases h0 : g = 0 ∧ j = r
    · rw [if_pos h0, h0.1, h0.2]
    · rw [if_neg h0]
      by_cases h1 : g = 1 ∧ j = r
      · rw [if_pos h1, h1.1, h1.2]
      · rw [if_neg h1, if_neg h1, if_neg h4, if_neg h0]
theorem s185 {x : zXs} {F : zF} (hF : zSh F) {Vb : Nat → Nat → Int32} {n : Nat} {w : Nat → Nat → (Nat → Int32) → Int32} (hR : zRd x F Vb n w) {S : Nat → Nat → Nat} (hW : zWf S) (hru : S 5 2 < n) {r c : Nat} (hr : r < 4) (hc : c ≤ 5) (hcr : S 5 0 = c) {who : Int} (hwho : -1 ≤ who ∧ who ≤ 5) : ∀ (m : Nat) (d : Nat) (pre : List Nat) (U : Nat) (V1 : Nat → Nat → Int32) (T1 : Nat → Nat → Int64) (b : Option (List Nat × Int)) (Q : Option Value → zG → Prop), pre.length + m = c → (∀ f, f ∈ pre → f < c) → U < 2 ^ c → (∀ f, f < c → U.testBit f = decide (f ∈ pre)) → zpc c U + m = c → zMS V1 (pre.foldl (ySp w r who) (S, 0)).1 → yFr Vb V1 → zBr V1 b → (∀ q v, b = some (q, v) → (q.length = c ∧ ∀ f, f ∈ q → f < c) ∧ -24 ≤ v ∧ v ≤ 24) → (∀ V2 T2, zMS V2 (pre.foldl (ySp w r who) (S, 0)).1 → yFr Vb V2 → zBr V2 (yBst (yVal w S r who) (yDf c m pre) b) → Q none (V2, T2)) → ∀ o6 o7 o8 o9 o10 : Option Value, E x F (d + 54 + m) 185 0 [some (.ref 59), some (.int (Int32.ofInt ((r:Int)))), some (.int (Int32.ofInt (who))), some (.int (Int32.ofInt ((U:Int)))), some (.int (Int32.ofInt ((yDi pre : Int)))), some (.int (Int32.ofInt ((pre.foldl (ySp w r who) (S, 0)).2))), o6, o7, o8, o9, o10] [] (V1, T1) Q := by
  have hp5 : 2 ^ c ≤ 2 ^ 5 := Nat.pow_le_pow_right (by omega) hc
  intro m
  induction m with
  | zero =>
    intro d pre U V1 T1 b Q hl hp hU hUb hz hS1 hf hB hb K o6 o7 o8 o9 o10
    have hUf : U = 2 ^ c - 1 := (zpc_full hU).mp (by omega)
    have g := ySp_wf (w := w) (who := who) hr pre (S, 0) (fun f hf => by have := hp f hf; omega) hW (by dsimp only; omega)
    have g5 : (pre.foldl (ySp w r who) (S, 0)).1 5 = S 5 := g.2.1
    have hv : yVal w S r who pre = if who = -1 then -(zpc 24 (zgb (pre.foldl (ySp w r who) (S, 0)).1 r) : Int) else (pre.foldl (ySp w r who) (S, 0)).2 := rfl
    have hvb := yVal_in (w := w) (who := who) hW hr (p := pre) (fun f hf => by have := hp f hf; omega)
    simp only [yDf] at K
    apply b185_0 hF
    · rw [hS1.2.2.2.2.2.1, g5, hcr, zI_one (by omega)]
      intro c1
      simp (disch := omega) only [zI_eq] at c1
      exfalso; omega
    intro _
    have tail : ∀ z : Int, z = yVal w S r who pre → ∀ o6 : Option Value, E x F (d + 54 + 0) 185 28 [some (.ref 59), some (.int (Int32.ofInt ((r:Int)))), some (.int (Int32.ofInt (who))), some (.int (Int32.ofInt ((U:Int)))), some (.int (Int32.ofInt ((yDi pre : Int)))), some (.int (Int32.ofInt ((pre.foldl (ySp w r who) (S, 0)).2))), o6, o7, o8, o9, o10] [.int (Int32.ofInt (z))] (V1, T1) Q := by
      intro z hz2 o6
      subst hz2
      have hSn : zMS (zu (zu V1 59 35 (Int32.ofInt (yDi pre : Int))) 59 36 (Int32.ofInt (yVal w S r who pre))) (pre.foldl (ySp w r who) (S, 0)).1 := zMS_fr hS1 (by rw [zu_ne (by omega), zu_ne (by omega)]) (by rw [zu_ne (by omega), zu_ne (by omega)]) (by rw [zu_ne (by omega), zu_ne (by omega)]) (by rw [zu_ne (by omega), zu_ne (by omega)]) (fun j hj => by rw [zuN_nk (by omega), zuN_nk (by omega)])
      have hfn : yFr Vb (zu (zu V1 59 35 (Int32.ofInt (yDi pre : Int))) 59 36 (Int32.ofInt (yVal w S r who pre))) := yFr_tr hf ⟨fun a h1 _ => by rw [zu_ne h1, zu_ne h1], fun j hj => by rw [zuN_nk (by omega), zuN_nk (by omega)]⟩
      have hBn : zBr (zu (zu V1 59 35 (Int32.ofInt (yDi pre : Int))) 59 36 (Int32.ofInt (yVal w S r who pre))) (some (pre, yVal w S r who pre)) := ⟨by rw [zuN_nk (by omega), zuN_at], zuN_at⟩
      apply b185_28 hF
      · intro c1
        apply b185_47 hF
        apply b185_59 hF
        cases b with
        | none => exact K _ T1 hSn hfn hBn
        | some q =>
          obtain ⟨q, v⟩ := q
          have h1 := hb q v rfl
          have hd := yDi_in (p := q) (by rw [h1.1.1]; exact hc) (fun f hf => by have := h1.1.2 f hf; omega)
          rw [hB.1] at c1
          simp (disch := omega) only [zI_eq] at c1
          exfalso; omega
      · intro c1
        cases b with
        | none => exact absurd hB c1
        | some q =>
          obtain ⟨q, v⟩ := q
          have h1 := hb q v rfl
          simp only [yBst] at K
          apply b185_38 hF
          · rw [hB.2]
            intro c2
            simp (disch := omega) only [zI_le] at c2
            rw [if_neg (by omega)] at K
            exact b185_59 hF (K V1 T1 hS1 hf hB)
          · rw [hB.2]
            intro c2
            simp (disch := omega) only [zI_le] at c2
            rw [if_pos (by omega)] at K
            apply b185_47 hF
            apply b185_59 hF
            exact K _ T1 hSn hfn hBn
    apply b185_12 hF
    · intro c1
      simp (disch := omega) only [zI_eq] at c1
      rw [if_neg c1] at hv
      apply b185_26 hF
      exact tail _ hv.symm _
    · intro c1
      simp (disch := omega) only [zI_eq, Decidable.not_not] at c1
      rw [if_pos c1] at hv
      apply b185_17 hF
      apply s133 hF (L := (pre.foldl (ySp w r who) (S, 0)).1 0 r) (B := (pre.foldl (ySp w r who) (S, 0)).1 1 r) (by omega) (hS1.1 r (by omega)) (hS1.2.1 r (by omega)) (g.1.1 r hr).1 (g.1.1 r hr).2
      apply b185_22 hF
      rw [zI_neg]
      exact tail _ hv.symm _
  | succ m ih =>
    intro d pre U V1 T1 b Q hl hp hU hUb hz hS1 hf hB hb K o6 o7 o8 o9 o10
    have hUf : ¬ U = 2 ^ c - 1 := fun h => by have := (zpc_full hU).mpr h; omega
    have g := ySp_wf (w := w) (who := who) hr pre (S, 0) (fun f hf => by have := hp f hf; omega) hW (by dsimp only; omega)
    have g5 : (pre.foldl (ySp w r who) (S, 0)).1 5 = S 5 := g.2.1
    have hdp := yDi_in (p := pre) (by omega) (fun f hf => by have := hp f hf; omega)
    rw [yDf] at K
    have step : ∀ f, (pre ++ [f]).foldl (ySp w r who) (S, 0) = ySp w r who (pre.foldl (ySp w r who) (S, 0)) f := fun f => by rw [List.foldl_append]; rfl
    -- the loop over who may go next
    have loop : ∀ (k f : Nat) (V1 : Nat → Nat → Int32) (T1 : Nat → Nat → Int64) (b : Option (List Nat × Int)) (P : Int), P = f → f + k = c → zMS V1 (pre.foldl (ySp w r who) (S, 0)).1 → yFr Vb V1 → zBr V1 b → (∀ q v, b = some (q, v) → (q.length = c ∧ ∀ f, f ∈ q → f < c) ∧ -24 ≤ v ∧ v ≤ 24) → (∀ V2 T2, zMS V2 (pre.foldl (ySp w r who) (S, 0)).1 → yFr Vb V2 → zBr V2 (yBst (yVal w S r who) (yDl (yDf c m) pre k f) b) → Q none (V2, T2)) → ∀ o6 o9 o10 : Option Value, E x F (d + 54 + (m + 1)) 185 79 [some (.ref 59), some (.int (Int32.ofInt ((r:Int)))), some (.int (Int32.ofInt (who))), some (.int (Int32.ofInt ((U:Int)))), some (.int (Int32.ofInt ((yDi pre : Int)))), some (.int (Int32.ofInt ((pre.foldl (ySp w r who) (S, 0)).2))), some (.int (Int32.ofInt (((pre.foldl (ySp w r who) (S, 0)).1 1 r : Int)))), some (.int (Int32.ofInt (((pre.foldl (ySp w r who) (S, 0)).1 0 r : Int)))), some (.int (Int32.ofInt (P))), o9, o10] [] (V1, T1) Q := by
      intro k
      induction k with
      | zero =>
        intro f V1 T1 b P hP hfc hS1 hf hB hb K o6 o9 o10
        subst hP
        have hfc2 : f = c := by omega
        apply b185_79 hF
        · intro _
          apply b185_189 hF
          refine K V1 T1 hS1 hf ?_
          rw [show yBst (yVal w S r who) (yDl (yDf c m) pre 0 f) b = b by simp only [yDl]; cases b <;> rfl]
          exact hB
        · rw [hS1.2.2.2.2.2.1, g5, hcr]
          intro c1
          simp (disch := omega) only [zI_le] at c1
          exfalso; omega
      | succ k ihk =>
        intro f V1 T1 b P hP hfc hS1 hf hB hb K o6 o9 o10
        subst hP
        simp only [yDl, yBst_app] at K
        apply b185_79 hF
        · rw [hS1.2.2.2.2.2.1, g5, hcr]
          intro c1
          simp (disch := omega) only [zI_le] at c1
          exfalso; omega
        intro _
        have hbit := hUb f (by omega)
        apply b185_88 hF
        · rw [zbit_eq (by omega) (by omega), hbit]
          intro c1
          have hin : f ∈ pre := by
            apply Decidable.byContradiction
            intro h
            rw [decide_eq_false h] at c1
            exact c1 rfl
          rw [if_pos hin, show yBst (yVal w S r who) [] b = b by cases b <;> rfl] at K
          apply b185_183 hF
          rw [zI_add]
          exact ihk (f + 1) V1 T1 b _ (by omega) (by omega) hS1 hf hB hb K o6 _ _
        · rw [zbit_eq (by omega) (by omega), hbit]
          intro c1
          have hin : ¬ f ∈ pre := by
            intro h
            rw [decide_eq_true h] at c1
            exact c1 (by decide)
          rw [if_neg hin] at K
          rw [decide_eq_false hin] at hbit
          have e21 : Int32.ofInt 2 * Int32.ofInt (f : Int) + Int32.ofInt 1 = Int32.ofInt ((2 * f + 1 : Nat) : Int) := by
            rw [zI_mul, zI_add]; congr 1
          apply b185_97 hF (d := d + 54 + m) (i1 := 2 * f + 1) (e21.trans (zI_nat _)) (by omega)
          rw [hS1.2.2.2.2.1 f (by omega)]
          have hR1 : zRd x F V1 n w := zRd_fr hR (hf.1 60 (by omega) (by omega)) (hf.1 61 (by omega) (by omega))
          rw [show d + 54 + m = (d + 1 + m) + 53 by omega]
          apply s171 hF hR1 hS1 g.1.2.1 (by rw [g5]; exact hru) (by omega) (by omega) (g.1.1 r hr).1 (g.1.1 r hr).2
          rw [show (d + 1 + m) + 53 = d + 54 + m by omega]
          intro V2 T2 hS2 _ _ f1 f2
          have hsp : ySp w r who (pre.foldl (ySp w r who) (S, 0)) f = (yGS w (pre.foldl (ySp w r who) (S, 0)).1 f r, if (f : Int) = who then (yGl w (pre.foldl (ySp w r who) (S, 0)).1 f ((pre.foldl (ySp w r who) (S, 0)).1 0 r) ((pre.foldl (ySp w r who) (S, 0)).1 1 r)).2.2.2.2.2.2.1 else (pre.foldl (ySp w r who) (S, 0)).2) := rfl
          have hst := step f
          rw [hsp] at hst
          have hf2 : yFr Vb V2 := yFr_tr hf ⟨fun a h1 h2 => f1 a h1 (by omega) (by omega) (by omega) (by omega) (by omega) (by omega), fun j hj => f2 j (by omega)⟩
          have hB2 : zBr V2 b := zBr_fr hB (f2 35 (by omega)) (f2 36 (by omega))
          have hz2 := zpc_set (s := U) (d := f) c
          rw [if_pos ⟨by omega, hbit⟩] at hz2
          have hU2 : U ||| 2 ^ f < 2 ^ c := Nat.or_lt_two_pow hU (Nat.pow_lt_pow_right (by omega) (by omega))
          -- the call
          have call : ∀ (t : Int) (o10 : Option Value), t = ((pre ++ [f]).foldl (ySp w r who) (S, 0)).2 → E x F (d + 54 + (m + 1)) 185 151 [some (.ref 59), some (.int (Int32.ofInt ((r:Int)))), some (.int (Int32.ofInt (who))), some (.int (Int32.ofInt ((U:Int)))), some (.int (Int32.ofInt ((yDi pre : Int)))), some (.int (Int32.ofInt ((pre.foldl (ySp w r who) (S, 0)).2))), some (.int (Int32.ofInt (((pre.foldl (ySp w r who) (S, 0)).1 1 r : Int)))), some (.int (Int32.ofInt (((pre.foldl (ySp w r who) (S, 0)).1 0 r : Int)))), some (.int (Int32.ofInt ((f:Int)))), some (.int (Int32.ofInt (((pre.foldl (ySp w r who) (S, 0)).1 4 f : Int)))), o10] [.int (Int32.ofInt (t)), .int (Int32.ofInt 10 * Int32.ofInt (yDi pre : Int) + Int32.ofInt (f : Int) + Int32.ofInt 1), .int (Int32.ofInt (U : Int) ||| (Int32.ofInt 1 <<< (Int32.ofInt (f : Int) &&& 31))), .int (Int32.ofInt (who)), .int (Int32.ofInt ((r:Int))), .ref 59] (V2, T2) Q := by
            intro t o10 ht
            subst ht
            have e1 : Int32.ofInt 10 * Int32.ofInt (yDi pre : Int) + Int32.ofInt (f : Int) + Int32.ofInt 1 = Int32.ofInt (yDi (pre ++ [f]) : Int) := by
              rw [zI_mul, zI_add, zI_add, yDi_snoc]; congr 1
            have e2 : Int32.ofInt (U : Int) ||| (Int32.ofInt 1 <<< (Int32.ofInt (f : Int) &&& 31)) = Int32.ofInt ((U ||| 2 ^ f : Nat) : Int) := by
              rw [zB_put (by omega), Nat.shiftLeft_eq, Nat.one_mul]
            apply b185_151 hF (d := d + 54 + m)
            rw [e1, e2]
            refine ih d (pre ++ [f]) (U ||| 2 ^ f) V2 T2 b _ (by rw [List.length_append]; simp; omega) ?_ hU2 ?_ (by omega) (by rw [hst]; exact hS2) hf2 hB2 hb ?_ _ _ _ _ _
            · intro a ha
              rcases List.mem_append.mp ha with h | h
              · exact hp a h
              · rw [List.mem_singleton] at h; omega
            · intro a ha
              rw [Nat.testBit_or, Nat.testBit_two_pow, hUb a ha]
              by_cases h1 : a ∈ pre
              · simp [h1]
              · by_cases h2 : f = a
                · simp [h2]
                · have h3 : ¬ a = f := fun h => h2 h.symm
                  simp [h1, h2, h3]
            · intro V3 T3 hS3 hf3 hB3
              rw [hst] at hS3
              dsimp only at hS3
              apply b185_154 hF (i1 := r) (zI_nat r) (by omega) (i2 := r) (zI_nat r) (by omega) (i3 := 2 * f + 1) (e21.trans (zI_nat _)) (by omega)
              apply b185_183 hF
              rw [zI_add]
              have hS4 := zMS_z34 (f := 1) (i := f) (v := (pre.foldl (ySp w r who) (S, 0)).1 4 f) (by omega) (zMS_z0 (i := r) (v := (pre.foldl (ySp w r who) (S, 0)).1 0 r) (zMS_z1 (i := r) (v := (pre.foldl (ySp w r who) (S, 0)).1 1 r) hS3))
              rw [yGS_back] at hS4
              refine ihk (f + 1) _ T3 (yBst (yVal w S r who) (yDf c m (pre ++ [f])) b) _ (by omega) (by omega) hS4 ?_ ?_ ?_ K o6 _ _
              · exact yFr_tr hf3 ⟨fun a h1 h2 => by rw [zu_ne (by omega), zu_ne (by omega), zu_ne (by omega)], fun j _ => by rw [zu_ne (by omega), zu_ne (by omega), zu_ne (by omega)]⟩
              · exact zBr_fr hB3 (by rw [zu_ne (by omega), zu_ne (by omega), zu_ne (by omega)]) (by rw [zu_ne (by omega), zu_ne (by omega), zu_ne (by omega)])
              · refine yBst_b (c := 0) (P := fun q => q.length = c ∧ ∀ f, f ∈ q → f < c) (fun q hq => yVal_in hW hr (fun f hf => by have := hq.2 f hf; omega)) _ b (yDf_mem m (pre ++ [f]) (by rw [List.length_append]; simp; omega) ?_) hb
                intro a ha
                rcases List.mem_append.mp ha with h | h
                · exact hp a h
                · rw [List.mem_singleton] at h; omega
          have ht := yGl_tot (w := w) (B := (pre.foldl (ySp w r who) (S, 0)).1 1 r) g.1.2.1 (show f < 5 by omega) (g.1.1 r hr).1
          apply b185_117 hF
          · intro c2
            simp (disch := omega) only [zI_eq] at c2
            apply b185_149 hF
            exact call _ _ (by rw [hst]; dsimp only; rw [if_neg c2])
          · intro c2
            simp (disch := omega) only [zI_eq, Decidable.not_not] at c2
            apply b185_144 hF
            exact call _ _ (by rw [hst]; dsimp only; rw [if_pos c2])
    apply b185_0 hF
    rotate_left
    · rw [hS1.2.2.2.2.2.1, g5, hcr, zI_one (by omega)]
      intro c1
      simp (disch := omega) only [zI_eq, Decidable.not_not] at c1
      exfalso; omega
    intro _
    apply b185_60 hF (i1 := r) (zI_nat r) (by omega) (i2 := r) (zI_nat r) (by omega)
    rw [hS1.2.1 r (by omega), hS1.1 r (by omega)]
    exact loop c 0 V1 T1 b 0 rfl (Nat.zero_add _) hS1 hf hB hb K none _ _
