/-! orders: the pure side -/
/-- one more goes: the state, what that one took -/
def ySp (w : Nat → Nat → (Nat → Int32) → Int32) (r : Nat) (who : Int) (q : (Nat → Nat → Nat) × Int) (f : Nat) : (Nat → Nat → Nat) × Int := (yGS w q.1 f r, if (f : Int) = who then (yGl w q.1 f (q.1 0 r) (q.1 1 r)).2.2.2.2.2.2.1 else q.2)
theorem yAl_l {w : Nat → Nat → (Nat → Int32) → Int32} {r : Nat} {who : Int} {at' : Nat → Nat} : ∀ (l : List Nat) (i : Nat) (q : (Nat → Nat → Nat) × Int), (∀ k, k < l.length → at' (i + k) = l.getD k 0) → yAl w r who at' i l.length q = l.foldl (ySp w r who) q := by
  intro l
  induction l with
  | nil => intro i q _; rfl
  | cons a l ih =>
    intro i q h
    have h0 := h 0 (by simp)
    have h0 : at' i = a := h0
    rw [List.length_cons, yAl, List.foldl_cons]
    rw [ih (i + 1) _ (fun k hk => by
      have := h (k + 1) (by rw [List.length_cons]; omega)
      rw [show i + 1 + k = i + (k + 1) by omega, this]
      rfl)]
    unfold ySp
    rw [h0]
/-- how good an order is -/
def yVal (w : Nat → Nat → (Nat → Int32) → Int32) (S : Nat → Nat → Nat) (r : Nat) (who : Int) (p : List Nat) : Int := if who = -1 then -(zpc 24 (zgb (p.foldl (ySp w r who) (S, 0)).1 r) : Int) else (p.foldl (ySp w r who) (S, 0)).2
def yDi (p : List Nat) : Nat := p.foldl (fun d f => 10 * d + f + 1) 0
theorem yDi_snoc (p : List Nat) (f : Nat) : yDi (p ++ [f]) = 10 * yDi p + f + 1 := by
  unfold yDi
  rw [List.foldl_append]
  rfl
theorem yDi_lt : ∀ (p : List Nat) (d : Nat), (∀ f, f ∈ p → f < 5) → p.foldl (fun d f => 10 * d + f + 1) d < (d + 1) * 10 ^ p.length := by
  intro p
  induction p with
  | nil => intro d _; simp
  | cons a p ih =>
    intro d h
    have h1 := ih (10 * d + a + 1) (fun f hf => h f (List.mem_cons_of_mem _ hf))
    have h2 := h a List.mem_cons_self
    rw [List.foldl_cons, List.length_cons, Nat.pow_succ]
    refine Nat.lt_of_lt_of_le h1 ?_
    have : 10 * d + a + 1 + 1 ≤ (d + 1) * 10 := by omega
    calc (10 * d + a + 1 + 1) * 10 ^ p.length ≤ ((d + 1) * 10) * 10 ^ p.length := Nat.mul_le_mul_right _ this
      _ = (d + 1) * (10 ^ p.length * 10) := by rw [Nat.mul_assoc, Nat.mul_comm 10]
theorem yDi_in {p : List Nat} (hl : p.length ≤ 5) (h : ∀ f, f ∈ p → f < 5) : yDi p < 100000 := by
  have a := yDi_lt p 0 h
  have b : 10 ^ p.length ≤ 10 ^ 5 := Nat.pow_le_pow_right (by omega) hl
  unfold yDi
  omega
theorem ySp_wf {w : Nat → Nat → (Nat → Int32) → Int32} {r : Nat} {who : Int} (hr : r < 4) : ∀ (p : List Nat) (q : (Nat → Nat → Nat) × Int), (∀ f, f ∈ p → f < 5) → zWf q.1 → (-24 ≤ q.2 ∧ q.2 ≤ 24) → zWf (p.foldl (ySp w r who) q).1 ∧ (p.foldl (ySp w r who) q).1 5 = q.1 5 ∧ (-24 ≤ (p.foldl (ySp w r who) q).2 ∧ (p.foldl (ySp w r who) q).2 ≤ 24) := by
  intro p
  induction p with
  | nil => intro q _ h h2; exact ⟨h, rfl, h2⟩
  | cons a p ih =>
    intro q h hW hq
    have ha := h a List.mem_cons_self
    rw [List.foldl_cons]
    have g := ih (ySp w r who q a) (fun f hf => h f (List.mem_cons_of_mem _ hf)) (yGS_wf hW ha hr) (by
      unfold ySp
      dsimp only
      split
      · exact (yGl_tot hW.2.1 ha (hW.1 r hr).1).1
      · exact hq)
    refine ⟨g.1, ?_, g.2.2⟩
    rw [g.2.1]
    exact yGS_5 (w := w) (S := q.1) (one := a) (r := r)
theorem yVal_in {w : Nat → Nat → (Nat → Int32) → Int32} {S : Nat → Nat → Nat} (hW : zWf S) {r : Nat} (hr : r < 4) {who : Int} {p : List Nat} (h : ∀ f, f ∈ p → f < 5) : -24 ≤ yVal w S r who p ∧ yVal w S r who p ≤ 24 := by
  have g := ySp_wf (w := w) (who := who) hr p (S, 0) h hW (by dsimp only; omega)
  have z := zpc_le 24 (zgb (p.foldl (ySp w r who) (S, 0)).1 r)
  unfold yVal
  split
  · omega
  · exact g.2.2
/-- the best of some orders, the first of the best -/
def yBst (val : List Nat → Int) : List (List Nat) → Option (List Nat × Int) → Option (List Nat × Int)
  | [], b => b
  | p :: ps, none => yBst val ps (some (p, val p))
  | p :: ps, some (q, v) => yBst val ps (if v < val p then some (p, val p) else some (q, v))
theorem yBst_app (val : List Nat → Int) : ∀ (l1 l2 : List (List Nat)) (b : Option (List Nat × Int)), yBst val (l1 ++ l2) b = yBst val l2 (yBst val l1 b) := by
  intro l1
  induction l1 with
  | nil => intro l2 b; cases l2 <;> cases b <;> rfl
  | cons p ps ih =>
    intro l2 b
    cases b with
    | none => exact ih l2 _
    | some q =>
      obtain ⟨q, v⟩ := q
      exact ih l2 _
/-- all orders that begin so -/
def yDl (g : List Nat → List (List Nat)) (pre : List Nat) : Nat → Nat → List (List Nat)
  | 0, _ => []
  | k + 1, f => (if f ∈ pre then [] else g (pre ++ [f])) ++ yDl g pre k (f + 1)
def yDf (c : Nat) : Nat → List Nat → List (List Nat)
  | 0, pre => [pre]
  | m + 1, pre => yDl (yDf c m) pre c 0
/-- the next order, as the class finds it -/
def yTu (p : Nat → Nat) : Nat → Nat
  | 0 => 0
  | t + 1 => if p t ≤ p (t + 1) then t + 1 else yTu p t
def yOt (p : Nat → Nat) (tu : Nat) : Nat → Nat
  | 0 => 0
  | o + 1 => if tu < o + 1 ∧ p (o + 1) < p tu then yOt p tu o else o + 1
def ySw (p : Nat → Nat) (i j : Nat) : Nat → Nat := fun k => if k = j then p i else if k = i then p j else p k
def yRv : Nat → (Nat → Nat) → Nat → Nat → (Nat → Nat)
  | 0, p, _, _ => p
  | m + 1, p, i, j => if i < j then yRv m (ySw p i j) (i + 1) (j - 1) else p
def yAd (c : Nat) (p : Nat → Nat) : Option (Nat → Nat) := if yTu p (c - 1) = 0 then none else some (yRv 5 (ySw p (yTu p (c - 1) - 1) (yOt p (yTu p (c - 1) - 1) (c - 1))) (yTu p (c - 1)) (c - 1))
def yChk (c : Nat) (p q : List Nat) : Bool := match yAd c (fun k => p.getD k 0) with
  | none => false
  | some g => (List.range c).all (fun k => g k == q.getD k 0)
def yChn (c : Nat) : List (List Nat) → Bool
  | [] => true
  | [p] => (yAd c (fun k => p.getD k 0)).isNone
  | p :: q :: ps => yChk c p q && yChn c (q :: ps)
def yAll (c : Nat) (l : List (List Nat)) : Bool := l.all (fun p => p.length == c && p.all (fun f => decide (f < c))) && decide (l.length ≤ 120) && decide (0 < l.length) && (l.headD [] == List.range c)
theorem yDf_chk : ∀ c, c ≤ 5 → (yChn c (yDf c c []) && yAll c (yDf c c [])) = true := by
  intro c h
  rcases (show c = 0 ∨ c = 1 ∨ c = 2 ∨ c = 3 ∨ c = 4 ∨ c = 5 by omega) with rfl | rfl | rfl | rfl | rfl | rfl <;> decide +kernel
