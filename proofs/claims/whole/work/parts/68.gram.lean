/-! The grammar: the pure side -/
abbrev yS := (Nat → Int32) → Int32
abbrev yP := yL → yL × List Nat × yS
def yOneF (b : Nat → Nat) (n : Nat) (sub : Option (yP × yP × yP)) : yP := fun g =>
  if g.1 = 2 then (yAdv b n g, [100 + g.2.1], fun _ => Int32.ofInt (g.2.1 : Int))
  else if g.1 = 3 then (yAdv b n g, [g.2.1], fun e => e g.2.1)
  else if g.1 = 45 then (match sub with
    | none => (yFail g, [], fun _ => Int32.ofInt 0)
    | some s => ((s.1 (yAdv b n g)).1, (s.1 (yAdv b n g)).2.1 ++ [6], fun e => yOne 6 ((s.1 (yAdv b n g)).2.2 e)))
  else if g.1 = 40 then (match sub with
    | none => (yFail g, [], fun _ => Int32.ofInt 0)
    | some s => (yExp b n 41 (s.2.2 (yAdv b n g)).1, (s.2.2 (yAdv b n g)).2.1, (s.2.2 (yAdv b n g)).2.2))
  else (yFail g, [], fun _ => Int32.ofInt 0)
/-- what one or another joins, one behind the other -/
def yLp (b : Nat → Nat) (n : Nat) (op : Nat → Bool) (code : Nat → Nat) (p : yP) : Nat → yL × List Nat × yS → yL × List Nat × yS
  | 0, r => r
  | m + 1, r => if op r.1.1 = true then yLp b n op code p m ((p (yAdv b n r.1)).1, r.2.1 ++ (p (yAdv b n r.1)).2.1 ++ [code r.1.1], fun e => yTwo (code r.1.1) (r.2.2 e) ((p (yAdv b n r.1)).2.2 e)) else r
def yTermF (b : Nat → Nat) (n : Nat) (one : yP) : yP := fun g => yLp b n (fun t => t == 42) (fun _ => 14) one 160 (one g)
def ySumF (b : Nat → Nat) (n : Nat) (term : yP) : yP := fun g => yLp b n (fun t => t == 43 || t == 45) (fun t => if t = 43 then 12 else 13) term 160 (term g)
def yDenF (b : Nat → Nat) (n : Nat) (sub : Option (yP × yP × yP)) (sum : yP) : yP := fun g =>
  if g.1 = 9 then (match sub with
    | none => (yFail g, [], fun _ => Int32.ofInt 0)
    | some s => ((s.2.1 (yAdv b n g)).1, (s.2.1 (yAdv b n g)).2.1 ++ [7], fun e => yOne 7 ((s.2.1 (yAdv b n g)).2.2 e)))
  else if (sum g).1.1 = 60 ∨ (sum g).1.1 = 61 then ((sum (yAdv b n (sum g).1)).1, (sum g).2.1 ++ (sum (yAdv b n (sum g).1)).2.1 ++ [if (sum g).1.1 = 60 then 10 else 11], fun e => yTwo (if (sum g).1.1 = 60 then 10 else 11) ((sum g).2.2 e) ((sum (yAdv b n (sum g).1)).2.2 e))
  else sum g
def yBothF (b : Nat → Nat) (n : Nat) (den : yP) : yP := fun g => yLp b n (fun t => t == 8) (fun _ => 9) den 160 (den g)
def yEithF (b : Nat → Nat) (n : Nat) (both : yP) : yP := fun g => yLp b n (fun t => t == 7) (fun _ => 8) both 160 (both g)
def yMk (b : Nat → Nat) (n : Nat) (sub : Option (yP × yP × yP)) : yP × yP × yP := (yOneF b n sub, yDenF b n sub (ySumF b n (yTermF b n (yOneF b n sub))), yEithF b n (yBothF b n (yDenF b n sub (ySumF b n (yTermF b n (yOneF b n sub))))))
def yLv (b : Nat → Nat) (n : Nat) : Nat → yP × yP × yP
  | 0 => yMk b n none
  | k + 1 => yMk b n (some (yLv b n k))
/-- the stack run over a list -/
def yStl (e : Nat → Int32) (cs : List Nat) (q : Nat × (Nat → Int32)) : Nat × (Nat → Int32) := cs.foldl (fun q c => yStep e c q) q
/-- codes that put one number upon the stack -/
def yPu (cs : List Nat) (v : yS) : Prop := ∀ (e : Nat → Int32) (top : Nat) (s : Nat → Int32), top + cs.length ≤ 160 → ∃ s2, yStl e cs (top, s) = (top + 1, s2) ∧ s2 top = v e ∧ ∀ j, j < top → s2 j = s j
theorem yPu_num (v : Nat) : yPu [100 + v] (fun _ => Int32.ofInt (v : Int)) := by
  intro e top s h
  simp only [List.length_singleton] at h
  refine ⟨fun j => if j = top then Int32.ofInt (v : Int) else s j, ?_, if_pos rfl, fun j hj => if_neg (by omega)⟩
  simp only [yStl, List.foldl_cons, List.foldl_nil]
  unfold yStep
  rw [if_pos ⟨by omega, by dsimp only; omega⟩, if_neg (by omega)]
  dsimp only
  rw [show ((100 + v : Nat) : Int) - 100 = (v : Int) by omega]
theorem yPu_name {i : Nat} (hi : i < 6) : yPu [i] (fun e => e i) := by
  intro e top s h
  simp only [List.length_singleton] at h
  refine ⟨fun j => if j = top then e i else s j, ?_, if_pos rfl, fun j hj => if_neg (by omega)⟩
  simp only [yStl, List.foldl_cons, List.foldl_nil]
  unfold yStep
  rw [if_pos ⟨by omega, by dsimp only; omega⟩, if_pos (by omega)]
theorem yPu_one {cs : List Nat} {v : yS} (h : yPu cs v) {c : Nat} (hc : c = 6 ∨ c = 7) : yPu (cs ++ [c]) (fun e => yOne c (v e)) := by
  intro e top s hl
  rw [List.length_append, List.length_singleton] at hl
  obtain ⟨s2, h1, h2, h3⟩ := h e top s (by omega)
  refine ⟨fun j => if j = top then yOne c (v e) else s2 j, ?_, if_pos rfl, fun j hj => by dsimp only; rw [if_neg (by omega)]; exact h3 j hj⟩
  unfold yStl at h1 ⊢
  rw [List.foldl_append, h1, List.foldl_cons, List.foldl_nil]
  unfold yStep
  dsimp only
  rw [if_neg (by omega), if_pos ⟨hc, by omega⟩, Nat.add_sub_cancel, h2]
theorem yPu_two {cs1 cs2 : List Nat} {v1 v2 : yS} (h1 : yPu cs1 v1) (h2 : yPu cs2 v2) {c : Nat} (hc : 8 ≤ c ∧ c ≤ 14) : yPu (cs1 ++ cs2 ++ [c]) (fun e => yTwo c (v1 e) (v2 e)) := by
  intro e top s hl
  rw [List.length_append, List.length_append, List.length_singleton] at hl
  obtain ⟨s2, a1, a2, a3⟩ := h1 e top s (by omega)
  obtain ⟨s3, b1, b2, b3⟩ := h2 e (top + 1) s2 (by omega)
  refine ⟨fun j => if j = top then yTwo c (v1 e) (v2 e) else s3 j, ?_, if_pos rfl, fun j hj => by dsimp only; rw [if_neg (by omega), b3 j (by omega)]; exact a3 j hj⟩
  unfold yStl at a1 b1 ⊢
  rw [List.foldl_append, List.foldl_append, a1, b1, List.foldl_cons, List.foldl_nil]
  unfold yStep
  dsimp only
  rw [if_neg (by omega), if_neg (by omega), if_pos ⟨hc, by omega⟩, show top + 1 + 1 - 2 = top by omega, show top + 1 + 1 - 1 = top + 1 by omega, b2, b3 top (by omega), a2]
/-- what holds of a reader -/
def yOkP (n : Nat) (P : yP) : Prop := ∀ g, yGw n g → yGw n (P g).1 ∧ (P g).2.1.length + g.2.2.1 ≤ (P g).1.2.2.1 ∧ (∀ c, c ∈ (P g).2.1 → c < 20000) ∧ ((P g).1.2.2.2.2 = 0 → yPu (P g).2.1 (P g).2.2) ∧ (g.2.2.2.2 ≠ 0 → (P g).1.2.2.2.2 ≠ 0)
theorem yAdv_p {b : Nat → Nat} {n : Nat} (hb : ∀ i, i < n → b i ≤ 255) {g : yL} (h : yGw n g) (h2 : 2 ≤ g.1) : yGw n (yAdv b n g) ∧ g.2.2.1 + 1 ≤ (yAdv b n g).2.2.1 ∧ (yAdv b n g).2.2.2.2 = 0 ∧ g.2.2.2.2 = 0 := by
  obtain ⟨w1, w2, w3, w4, w5, w6, w7, w8⟩ := h
  have hf : g.2.2.2.2 = 0 := by
    apply Decidable.byContradiction
    intro c
    have := w7 c
    omega
  have g1 := yTok_w (b := b) w5 hb
  have g2 := w8 hf h2
  unfold yAdv
  rw [if_pos hf]
  exact ⟨g1.1, by omega, g1.2.2, hf⟩
theorem yFail_p {n : Nat} {g : yL} (h : yGw n g) : yGw n (yFail g) ∧ (yFail g).2.2.1 = g.2.2.1 ∧ (yFail g).2.2.2.2 ≠ 0 := by
  obtain ⟨w1, w2, w3, w4, w5, w6, w7, w8⟩ := h
  unfold yFail
  refine ⟨⟨by dsimp only; omega, fun c => by dsimp only at c; omega, fun c => by dsimp only at c; omega, w4, w5, ?_, fun _ => rfl, fun _ c => by dsimp only at c; omega⟩, rfl, ?_⟩
  · dsimp only; split <;> omega
  · dsimp only; split <;> omega
theorem yExp_p {b : Nat → Nat} {n : Nat} (hb : ∀ i, i < n → b i ≤ 255) {g : yL} (h : yGw n g) {due : Nat} (hd : 2 ≤ due) : yGw n (yExp b n due g) ∧ g.2.2.1 ≤ (yExp b n due g).2.2.1 ∧ ((yExp b n due g).2.2.2.2 = 0 → g.2.2.2.2 = 0 ∧ g.1 = due ∧ g.2.2.1 + 1 ≤ (yExp b n due g).2.2.1) := by
  unfold yExp
  by_cases c : g.1 = due
  · rw [if_pos c]
    have a := yAdv_p hb h (by omega)
    exact ⟨a.1, by omega, fun _ => ⟨a.2.2.2, c, a.2.1⟩⟩
  · rw [if_neg c]
    have a := yFail_p h
    exact ⟨a.1, by omega, fun q => absurd q a.2.2⟩
theorem yFail_ok {n : Nat} {g : yL} (h : yGw n g) (v : yS) : yGw n (yFail g) ∧ ([] : List Nat).length + g.2.2.1 ≤ (yFail g).2.2.1 ∧ (∀ c, c ∈ ([] : List Nat) → c < 20000) ∧ ((yFail g).2.2.2.2 = 0 → yPu [] v) ∧ (g.2.2.2.2 ≠ 0 → (yFail g).2.2.2.2 ≠ 0) := by
  have a := yFail_p h
  exact ⟨a.1, by rw [a.2.1]; simp, fun c hc => absurd hc (by simp), fun q => absurd q a.2.2, fun _ => a.2.2⟩
def yOkS (n : Nat) : Option (yP × yP × yP) → Prop
  | none => True
  | some s => yOkP n s.1 ∧ yOkP n s.2.1 ∧ yOkP n s.2.2
theorem yOneF_ok {b : Nat → Nat} {n : Nat} (hb : ∀ i, i < n → b i ≤ 255) {sub : Option (yP × yP × yP)} (hs : yOkS n sub) : yOkP n (yOneF b n sub) := by
  intro g h
  have w2 := h.2.1
  have w3 := h.2.2.1
  have w7 := h.2.2.2.2.2.2.1
  unfold yOneF
  by_cases c1 : g.1 = 2
  · rw [if_pos c1]
    have a := yAdv_p hb h (by omega)
    have := w2 c1
    refine ⟨a.1, ?_, ?_, fun _ => yPu_num _, fun q => absurd a.2.2.2 q⟩
    · dsimp only; simp only [List.length_singleton]; omega
    · intro c hc
      rw [List.mem_singleton] at hc
      omega
  · rw [if_neg c1]
    by_cases c2 : g.1 = 3
    · rw [if_pos c2]
      have a := yAdv_p hb h (by omega)
      have := w3 c2
      refine ⟨a.1, ?_, ?_, fun _ => yPu_name this, fun q => absurd a.2.2.2 q⟩
      · dsimp only; simp only [List.length_singleton]; omega
      · intro c hc
        rw [List.mem_singleton] at hc
        omega
    · rw [if_neg c2]
      by_cases c3 : g.1 = 45
      · rw [if_pos c3]
        cases sub with
        | none => exact yFail_ok h _
        | some s =>
          have a := yAdv_p hb h (by omega)
          obtain ⟨p1, p2, p3, p4, p5⟩ := hs.1 _ a.1
          refine ⟨p1, ?_, ?_, fun q => yPu_one (p4 q) (Or.inl rfl), fun q => absurd a.2.2.2 q⟩
          · dsimp only; rw [List.length_append, List.length_singleton]; omega
          · intro c hc
            rcases List.mem_append.mp hc with q | q
            · exact p3 c q
            · rw [List.mem_singleton] at q; omega
      · rw [if_neg c3]
        by_cases c4 : g.1 = 40
        · rw [if_pos c4]
          cases sub with
          | none => exact yFail_ok h _
          | some s =>
            have a := yAdv_p hb h (by omega)
            obtain ⟨p1, p2, p3, p4, p5⟩ := hs.2.2 _ a.1
            have e := yExp_p hb p1 (due := 41) (by omega)
            refine ⟨e.1, ?_, p3, fun q => p4 (e.2.2 q).1, fun q => absurd a.2.2.2 q⟩
            dsimp only
            omega
        · rw [if_neg c4]
          exact yFail_ok h _
theorem yLp_ok {b : Nat → Nat} {n : Nat} (hb : ∀ i, i < n → b i ≤ 255) {op : Nat → Bool} {code : Nat → Nat} {p : yP} (hp : yOkP n p) (hop : ∀ t, op t = true → 2 ≤ t) (hcode : ∀ t, 8 ≤ code t ∧ code t ≤ 14) {a0 : Nat} : ∀ (m : Nat) (r : yL × List Nat × yS), yGw n r.1 → r.2.1.length + a0 ≤ r.1.2.2.1 → (∀ c, c ∈ r.2.1 → c < 20000) → (r.1.2.2.2.2 = 0 → yPu r.2.1 r.2.2) → yGw n (yLp b n op code p m r).1 ∧ (yLp b n op code p m r).2.1.length + a0 ≤ (yLp b n op code p m r).1.2.2.1 ∧ (∀ c, c ∈ (yLp b n op code p m r).2.1 → c < 20000) ∧ ((yLp b n op code p m r).1.2.2.2.2 = 0 → yPu (yLp b n op code p m r).2.1 (yLp b n op code p m r).2.2) ∧ (r.1.2.2.2.2 ≠ 0 → (yLp b n op code p m r).1.2.2.2.2 ≠ 0) := by
  intro m
  induction m with
  | zero => intro r h1 h2 h3 h4; exact ⟨h1, h2, h3, h4, fun q => q⟩
  | succ m ih =>
    intro r h1 h2 h3 h4
    rw [yLp]
    by_cases c : op r.1.1 = true
    · rw [if_pos c]
      have a := yAdv_p hb h1 (hop _ c)
      obtain ⟨p1, p2, p3, p4, p5⟩ := hp _ a.1
      have hc := hcode r.1.1
      obtain ⟨q1, q2, q3, q4, q5⟩ := ih ((p (yAdv b n r.1)).1, r.2.1 ++ (p (yAdv b n r.1)).2.1 ++ [code r.1.1], fun e => yTwo (code r.1.1) (r.2.2 e) ((p (yAdv b n r.1)).2.2 e)) p1 (by
        dsimp only
        rw [List.length_append, List.length_append, List.length_singleton]
        omega) (by
        intro c hc2
        rcases List.mem_append.mp hc2 with q | q
        · rcases List.mem_append.mp q with q | q
          · exact h3 c q
          · exact p3 c q
        · rw [List.mem_singleton] at q; omega) (fun q => yPu_two (h4 a.2.2.2) (p4 q) hc)
      exact ⟨q1, q2, q3, q4, fun q => absurd a.2.2.2 q⟩
    · rw [if_neg c]
      exact ⟨h1, h2, h3, h4, fun q => q⟩
theorem yLpF_ok {b : Nat → Nat} {n : Nat} (hb : ∀ i, i < n → b i ≤ 255) {op : Nat → Bool} {code : Nat → Nat} {p : yP} (hp : yOkP n p) (hop : ∀ t, op t = true → 2 ≤ t) (hcode : ∀ t, 8 ≤ code t ∧ code t ≤ 14) : yOkP n (fun g => yLp b n op code p 160 (p g)) := by
  intro g h
  obtain ⟨p1, p2, p3, p4, p5⟩ := hp g h
  obtain ⟨q1, q2, q3, q4, q5⟩ := yLp_ok hb hp hop hcode (a0 := g.2.2.1) 160 (p g) p1 p2 p3 p4
  exact ⟨q1, q2, q3, q4, fun q => q5 (p5 q)⟩
theorem yTermF_ok {b : Nat → Nat} {n : Nat} (hb : ∀ i, i < n → b i ≤ 255) {p : yP} (hp : yOkP n p) : yOkP n (yTermF b n p) := yLpF_ok hb hp (fun t h => by rw [beq_iff_eq] at h; omega) (fun t => by omega)
theorem ySumF_ok {b : Nat → Nat} {n : Nat} (hb : ∀ i, i < n → b i ≤ 255) {p : yP} (hp : yOkP n p) : yOkP n (ySumF b n p) := yLpF_ok hb hp (fun t h => by simp only [Bool.or_eq_true, beq_iff_eq] at h; omega) (fun t => by split <;> omega)
theorem yBothF_ok {b : Nat → Nat} {n : Nat} (hb : ∀ i, i < n → b i ≤ 255) {p : yP} (hp : yOkP n p) : yOkP n (yBothF b n p) := yLpF_ok hb hp (fun t h => by rw [beq_iff_eq] at h; omega) (fun t => by omega)
theorem yEithF_ok {b : Nat → Nat} {n : Nat} (hb : ∀ i, i < n → b i ≤ 255) {p : yP} (hp : yOkP n p) : yOkP n (yEithF b n p) := yLpF_ok hb hp (fun t h => by rw [beq_iff_eq] at h; omega) (fun t => by omega)
theorem yDenF_ok {b : Nat → Nat} {n : Nat} (hb : ∀ i, i < n → b i ≤ 255) {sub : Option (yP × yP × yP)} (hs : yOkS n sub) {p : yP} (hp : yOkP n p) : yOkP n (yDenF b n sub p) := by
  intro g h
  unfold yDenF
  by_cases c1 : g.1 = 9
  · rw [if_pos c1]
    cases sub with
    | none => exact yFail_ok h _
    | some s =>
      have a := yAdv_p hb h (by omega)
      obtain ⟨p1, p2, p3, p4, p5⟩ := hs.2.1 _ a.1
      refine ⟨p1, ?_, ?_, fun q => yPu_one (p4 q) (Or.inr rfl), fun q => absurd a.2.2.2 q⟩
      · dsimp only; rw [List.length_append, List.length_singleton]; omega
      · intro c hc
        rcases List.mem_append.mp hc with q | q
        · exact p3 c q
        · rw [List.mem_singleton] at q; omega
  · rw [if_neg c1]
    obtain ⟨p1, p2, p3, p4, p5⟩ := hp g h
    by_cases c2 : (p g).1.1 = 60 ∨ (p g).1.1 = 61
    · rw [if_pos c2]
      have a := yAdv_p hb p1 (by omega)
      obtain ⟨r1, r2, r3, r4, r5⟩ := hp _ a.1
      refine ⟨r1, ?_, ?_, fun q => yPu_two (p4 a.2.2.2) (r4 q) (by split <;> omega), fun q => absurd a.2.2.2 (p5 q)⟩
      · dsimp only; rw [List.length_append, List.length_append, List.length_singleton]; omega
      · intro c hc
        rcases List.mem_append.mp hc with q | q
        · rcases List.mem_append.mp q with q | q
          · exact p3 c q
          · exact r3 c q
        · rw [List.mem_singleton] at q; split at q <;> omega
    · rw [if_neg c2]
      exact ⟨p1, p2, p3, p4, p5⟩
theorem yLv_ok {b : Nat → Nat} {n : Nat} (hb : ∀ i, i < n → b i ≤ 255) : ∀ k, yOkP n (yLv b n k).1 ∧ yOkP n (yLv b n k).2.1 ∧ yOkP n (yLv b n k).2.2 := by
  have mk : ∀ sub, yOkS n sub → yOkP n (yMk b n sub).1 ∧ yOkP n (yMk b n sub).2.1 ∧ yOkP n (yMk b n sub).2.2 := by
    intro sub hs
    have h1 := yOneF_ok hb hs
    have h2 := yDenF_ok hb hs (ySumF_ok hb (yTermF_ok hb h1))
    exact ⟨h1, h2, yEithF_ok hb (yBothF_ok hb h2)⟩
  intro k
  induction k with
  | zero => exact mk none trivial
  | succ k ih => exact mk (some (yLv b n k)) ih
