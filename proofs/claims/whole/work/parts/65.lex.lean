/-! Tokens: the pure side, and the class's small methods -/
abbrev yL := Nat × Nat × Nat × Nat × Nat
/-- behind blanks, letters, digits -/
def yWs (b : Nat → Nat) (n : Nat) : Nat → Nat → Nat
  | 0, i => i
  | m + 1, i => if i < n ∧ (b i = 32 ∨ b i = 10) then yWs b n m (i + 1) else i
def yLt (b : Nat → Nat) (n : Nat) : Nat → Nat → Nat
  | 0, i => i
  | m + 1, i => if i < n ∧ (97 ≤ b i ∧ b i ≤ 122) then yLt b n m (i + 1) else i
def yDg (b : Nat → Nat) (n : Nat) : Nat → Nat → Nat
  | 0, i => i
  | m + 1, i => if i < n ∧ (48 ≤ b i ∧ b i ≤ 57) then yDg b n m (i + 1) else i
/-- the worth of digits -/
def yNu (b : Nat → Nat) (s : Nat) : Nat → Nat
  | 0 => 0
  | k + 1 => 10 * yNu b s k + (b (s + k) - 48)
/-- the words -/
def yWt : List (List Nat) := [[103, 97, 112], [110, 116, 104], [110, 117, 109, 98, 101, 114], [110, 105, 103, 104, 116], [97, 112, 114, 111, 110], [114, 111, 119], [116, 97, 107, 101, 115], [107, 101, 101, 112, 115], [115, 104, 97, 107, 101, 115], [111, 114], [97, 110, 100], [110, 111, 116]]
def yWl (i : Nat) : List Nat := yWt.getD i []
/-- whether a word stands at a place -/
def yWm (b : Nat → Nat) (s e : Nat) (l : List Nat) : Bool := (e - s == l.length) && (List.range l.length).all (fun k => b (s + k) == l.getD k 0)
def yWf (b : Nat → Nat) (s e : Nat) : Nat → Nat × Nat
  | 0 => (1, 0)
  | i + 1 => if yWm b s e (yWl i) = true then (if i < 6 then 3 else i - 2, i) else yWf b s e i
def ySg (v : Nat) : Bool := v == 40 || v == 41 || v == 59 || v == 43 || v == 45 || v == 42 || v == 60 || v == 61
/-- the token behind a place: what, its worth, where it begins, the place behind, no fault -/
def yTok (b : Nat → Nat) (n h : Nat) : yL :=
  if n ≤ yWs b n 200 h then (0, 0, yWs b n 200 h, n, 0)
  else if 97 ≤ b (yWs b n 200 h) ∧ b (yWs b n 200 h) ≤ 122 then ((yWf b (yWs b n 200 h) (yLt b n 200 (yWs b n 200 h)) 12).1, (yWf b (yWs b n 200 h) (yLt b n 200 (yWs b n 200 h)) 12).2, yWs b n 200 h, yLt b n 200 (yWs b n 200 h), 0)
  else if 48 ≤ b (yWs b n 200 h) ∧ b (yWs b n 200 h) ≤ 57 then ((if yDg b n 200 (yWs b n 200 h) - yWs b n 200 h ≤ 4 then 2 else 1), yNu b (yWs b n 200 h) (yDg b n 200 (yWs b n 200 h) - yWs b n 200 h), yWs b n 200 h, yDg b n 200 (yWs b n 200 h), 0)
  else ((if ySg (b (yWs b n 200 h)) = true then b (yWs b n 200 h) else 1), 0, yWs b n 200 h, yWs b n 200 h + 1, 0)
def yAdv (b : Nat → Nat) (n : Nat) (g : yL) : yL := if g.2.2.2.2 = 0 then yTok b n g.2.2.2.1 else g
def yFail (g : yL) : yL := (1, g.2.1, g.2.2.1, g.2.2.2.1, if g.2.2.2.2 = 0 then g.2.2.1 + 1 else g.2.2.2.2)
theorem yWs_in (b : Nat → Nat) (n : Nat) : ∀ m i, i ≤ yWs b n m i ∧ (i ≤ n → yWs b n m i ≤ n) := by
  intro m
  induction m with
  | zero => intro i; exact ⟨Nat.le_refl _, fun h => h⟩
  | succ m ih =>
    intro i
    have := ih (i + 1)
    simp only [yWs]
    split
    · exact ⟨by omega, fun _ => this.2 (by omega)⟩
    · exact ⟨Nat.le_refl _, fun h => h⟩
theorem yLt_in (b : Nat → Nat) (n : Nat) : ∀ m i, i ≤ yLt b n m i ∧ (i ≤ n → yLt b n m i ≤ n) := by
  intro m
  induction m with
  | zero => intro i; exact ⟨Nat.le_refl _, fun h => h⟩
  | succ m ih =>
    intro i
    have := ih (i + 1)
    simp only [yLt]
    split
    · exact ⟨by omega, fun _ => this.2 (by omega)⟩
    · exact ⟨Nat.le_refl _, fun h => h⟩
theorem yDg_in (b : Nat → Nat) (n : Nat) : ∀ m i, i ≤ yDg b n m i ∧ (i ≤ n → yDg b n m i ≤ n) := by
  intro m
  induction m with
  | zero => intro i; exact ⟨Nat.le_refl _, fun h => h⟩
  | succ m ih =>
    intro i
    have := ih (i + 1)
    simp only [yDg]
    split
    · exact ⟨by omega, fun _ => this.2 (by omega)⟩
    · exact ⟨Nat.le_refl _, fun h => h⟩
theorem yNu_lt (b : Nat → Nat) (s : Nat) : ∀ k, (∀ j, j < k → 48 ≤ b (s + j) ∧ b (s + j) ≤ 57) → yNu b s k < 10 ^ k := by
  intro k
  induction k with
  | zero => intro _; exact Nat.one_pos
  | succ k ih =>
    intro h
    have h1 := ih (fun j hj => h j (by omega))
    have h2 := h k (by omega)
    simp only [yNu]
    rw [Nat.pow_succ]
    omega
/-- the class's words as whole numbers -/
theorem zxt_w (x : zXs) : ∀ i, i < 12 → ∃ f : Nat → Int32, zxt x (UInt64.ofNat (1 + (UInt32.ofNat i).toNat)).toNat = some (false, (yWl i).length, f) ∧ ∀ j, j < (yWl i).length → f j = Int32.ofInt ((yWl i).getD j 0 : Int) := by
  intro i hi
  rcases (show i = 0 ∨ i = 1 ∨ i = 2 ∨ i = 3 ∨ i = 4 ∨ i = 5 ∨ i = 6 ∨ i = 7 ∨ i = 8 ∨ i = 9 ∨ i = 10 ∨ i = 11 by omega) with rfl | rfl | rfl | rfl | rfl | rfl | rfl | rfl | rfl | rfl | rfl | rfl <;> exact ⟨_, rfl, by decide +kernel⟩
theorem yWl_b : ∀ i, i < 12 → (2 ≤ (yWl i).length ∧ (yWl i).length ≤ 6) ∧ ∀ j, j < (yWl i).length → (97 ≤ (yWl i).getD j 0 ∧ (yWl i).getD j 0 ≤ 122) := by decide +kernel
theorem yU12 {i : Nat} (h : i < 12) : (UInt32.ofNat i).toNat < 12 := by
  rw [UInt32.toNat_ofNat']
  rw [Nat.mod_eq_of_lt (by omega)]; exact h
theorem s51 {x : zXs} {F : zF} (hF : zSh F) {d : Nat} {V : Nat → Nat → Int32} {T : Nat → Nat → Int64} {Q : Option Value → zG → Prop} {i : Nat} (hi : i < 12) (k : Q (some (.int (Int32.ofInt ((yWl i).length : Int)))) (V, T)) : E x F (d + 1) 51 0 [some (.float (UInt32.ofNat i))] [] (V, T) Q := by
  obtain ⟨f, h1, h2⟩ := zxt_w x i hi
  have hb := (yWl_b i hi).1
  apply b51_0 hF (yU12 hi) h1
  apply b52_0 hF
  · intro c; exact absurd c (by decide)
  intro _
  apply b52_6 hF (yU12 hi)
  apply b52_14 hF (by decide +kernel)
  apply b51_9 hF
  have e : nI (yWl i).length >>> ((0 : Int32) &&& 31) = Int32.ofInt ((yWl i).length : Int) := by
    have := zB_shr (k := 0) (a := (yWl i).length) (by omega) (by omega)
    exact this
  rw [e]
  exact k
theorem s53 {x : zXs} {F : zF} (hF : zSh F) {d : Nat} {V : Nat → Nat → Int32} {T : Nat → Nat → Int64} {Q : Option Value → zG → Prop} {i j : Nat} (hi : i < 12) (hj : j < (yWl i).length) (k : Q (some (.int (Int32.ofInt ((yWl i).getD j 0 : Int)))) (V, T)) : E x F (d + 3) 53 0 [some (.float (UInt32.ofNat i)), some (.int (Int32.ofInt ((j:Int))))] [] (V, T) Q := by
  obtain ⟨f, h1, h2⟩ := zxt_w x i hi
  have hb := yWl_b i hi
  have hbj := hb.2 j hj
  have e : (((f j &&& Int32.ofInt 255).toUInt32) % 65536).toInt32 = Int32.ofInt ((yWl i).getD j 0 : Int) := by
    rw [h2 j hj]
    have : ∀ v : Nat, v < 123 → (((Int32.ofInt (v : Int) &&& Int32.ofInt 255).toUInt32) % 65536).toInt32 = Int32.ofInt (v : Int) := by decide +kernel
    exact this _ (by omega)
  have e2 : narrow .char (.int (Int32.ofInt ((yWl i).getD j 0 : Int))) = .int (Int32.ofInt ((yWl i).getD j 0 : Int)) := by
    have : ∀ v : Nat, v < 123 → narrow .char (.int (Int32.ofInt (v : Int))) = .int (Int32.ofInt (v : Int)) := by decide +kernel
    exact this _ (by omega)
  apply b53_0 hF (yU12 hi)
  apply b54_0 hF
  · intro c; exact absurd c (by decide)
  intro _
  apply b54_6 hF (yU12 hi)
  · intro c; exact absurd rfl c
  intro _
  apply b54_13 hF
  apply b54_18 hF zNb1
  apply b53_4 hF
  · intro c; exact absurd c (by decide)
  intro _
  apply b53_7 hF (yU12 hi)
  apply b55_0 hF h1
  apply b56_0 hF
  have hlen := hb.1
  apply b57_0 hF
  · intro c
    simp (disch := omega) only [zI_lt, zI_0] at c
    exfalso; omega
  intro _
  apply b57_4 hF
  rotate_left
  · intro c
    exfalso
    apply c
    rw [← zI_nat, zI_lt (by omega) (by omega)]
    omega
  intro _
  apply b57_16 hF
  apply b56_8 hF
  apply b55_6 hF h1 (i2 := j) (zI_nat j) hj (by omega) (by rw [e]; exact e2)
  rw [e]
  exact b53_15 hF e2 k
theorem s47 {x : zXs} {F : zF} (hF : zSh F) {d : Nat} {V : Nat → Nat → Int32} {T : Nat → Nat → Int64} {Q : Option Value → zG → Prop} {v : Nat} (hv : v ≤ 255) (k1 : 97 ≤ v ∧ v ≤ 122 → Q (some (.int (Int32.ofInt 1))) (V, T)) (k0 : ¬ (97 ≤ v ∧ v ≤ 122) → Q (some (.int (Int32.ofInt 0))) (V, T)) : E x F d 47 0 [some (.int (Int32.ofInt ((v:Int))))] [] (V, T) Q := by
  repeat' (first
    | (intro c; (try simp (disch := omega) only [zI_lt, zI_le, zI_eq, zI_0, zI_add, zI_sub, zI_mul, zI_neg, Int.reduceNeg, Int.reduceAdd, Int.reduceSub, Int.reduceMul, Decidable.not_not, Int.not_lt, Int.not_le, not_true_eq_false, not_false_eq_true] at c); (try (exfalso; omega)))
    | simp only [zI_add, zI_sub, zI_mul, zI_neg]
    | apply b47_0 hF
    | apply b47_6 hF
    | apply b47_12 hF
    | apply b47_16 hF
    | apply b47_17 hF
    | exact k1 (by omega)
    | exact k0 (by omega)
    | with_reducible assumption
    | exact zI_nat _
    | exact zNb1
    | exact zNb0
    | omega
    | with_reducible rfl
    | exact zI_nI (by omega))
theorem s58 {x : zXs} {F : zF} (hF : zSh F) {d : Nat} {V : Nat → Nat → Int32} {T : Nat → Nat → Int64} {Q : Option Value → zG → Prop} {v : Nat} (hv : v ≤ 255) (k1 : 48 ≤ v ∧ v ≤ 57 → Q (some (.int (Int32.ofInt 1))) (V, T)) (k0 : ¬ (48 ≤ v ∧ v ≤ 57) → Q (some (.int (Int32.ofInt 0))) (V, T)) : E x F d 58 0 [some (.int (Int32.ofInt ((v:Int))))] [] (V, T) Q := by
  repeat' (first
    | (intro c; (try simp (disch := omega) only [zI_lt, zI_le, zI_eq, zI_0, zI_add, zI_sub, zI_mul, zI_neg, Int.reduceNeg, Int.reduceAdd, Int.reduceSub, Int.reduceMul, Decidable.not_not, Int.not_lt, Int.not_le, not_true_eq_false, not_false_eq_true] at c); (try (exfalso; omega)))
    | simp only [zI_add, zI_sub, zI_mul, zI_neg]
    | apply b58_0 hF
    | apply b58_6 hF
    | apply b58_12 hF
    | apply b58_16 hF
    | apply b58_17 hF
    | exact k1 (by omega)
    | exact k0 (by omega)
    | with_reducible assumption
    | exact zI_nat _
    | exact zNb1
    | exact zNb0
    | omega
    | with_reducible rfl
    | exact zI_nI (by omega))
theorem ySg_i (v : Nat) : ySg v = true ↔ (v = 40 ∨ v = 41 ∨ v = 59 ∨ v = 43 ∨ v = 45 ∨ v = 42 ∨ v = 60 ∨ v = 61) := by
  unfold ySg
  simp only [Bool.or_eq_true, beq_iff_eq]
  omega
theorem s60 {x : zXs} {F : zF} (hF : zSh F) {d : Nat} {V : Nat → Nat → Int32} {T : Nat → Nat → Int64} {Q : Option Value → zG → Prop} {v : Nat} (hv : v ≤ 255) (k : Q (some (.int (Int32.ofInt (if ySg v = true then 1 else 0)))) (V, T)) : E x F d 60 0 [some (.int (Int32.ofInt ((v:Int))))] [] (V, T) Q := by
  have h := ySg_i v
  have k1 : (v = 40 ∨ v = 41 ∨ v = 59 ∨ v = 43 ∨ v = 45 ∨ v = 42 ∨ v = 60 ∨ v = 61) → Q (some (.int (Int32.ofInt 1))) (V, T) := fun g => by rw [if_pos (h.mpr g)] at k; exact k
  have k0 : ¬ (v = 40 ∨ v = 41 ∨ v = 59 ∨ v = 43 ∨ v = 45 ∨ v = 42 ∨ v = 60 ∨ v = 61) → Q (some (.int (Int32.ofInt 0))) (V, T) := fun g => by rw [if_neg (fun c => g (h.mp c))] at k; exact k
  repeat' (first
    | (intro c; (try simp (disch := omega) only [zI_lt, zI_le, zI_eq, zI_0, zI_add, zI_sub, zI_mul, zI_neg, Int.reduceNeg, Int.reduceAdd, Int.reduceSub, Int.reduceMul, Decidable.not_not, Int.not_lt, Int.not_le, not_true_eq_false, not_false_eq_true] at c); (try (exfalso; omega)))
    | simp only [zI_add, zI_sub, zI_mul, zI_neg]
    | apply b60_0 hF
    | apply b60_104 hF
    | apply b60_106 hF
    | exact k1 (by omega)
    | exact k0 (by omega)
    | with_reducible assumption
    | exact zI_nat _
    | exact zNb1
    | exact zNb0
    | omega
    | with_reducible rfl
    | exact zI_nI (by omega))
