/-! What the rule tells, and what one takes of a run -/
theorem zI_div {a b : Int} (h1 : 0 ≤ a ∧ a ≤ 2147483647) (h2 : 0 < b ∧ b ≤ 2147483647) : Int32.ofInt a / Int32.ofInt b = Int32.ofInt (a / b) := by
  apply Int32.toInt_inj.mp
  have h3 : 0 ≤ a / b := Int.ediv_nonneg h1.1 (by omega)
  have h4 : a / b ≤ a := Int.ediv_le_self _ h1.1
  rw [Int32.toInt_div, zI_toInt (by omega) (by omega), zI_toInt (by omega) (by omega), zI_toInt (by omega) (by omega), Int.tdiv_eq_ediv_of_nonneg h1.1]
  exact Int.bmod_eq_of_le (by omega) (by omega)
/-- a whole number kept in bounds -/
def yCl (v lo hi : Int) : Int := if v < lo then lo else if hi < v then hi else v
theorem yCl_in {v lo hi : Int} (h : lo ≤ hi) : lo ≤ yCl v lo hi ∧ yCl v lo hi ≤ hi := by
  unfold yCl
  split
  · omega
  · split <;> omega
theorem s30c {x : zXs} {F : zF} (hF : zSh F) {d : Nat} {V : Nat → Nat → Int32} {T : Nat → Nat → Int64} {Q : Option Value → zG → Prop} {v lo hi : Int} (hv : -2147483648 ≤ v ∧ v ≤ 2147483647) (h1 : -2147483648 ≤ lo ∧ lo ≤ 2147483647) (h2 : -2147483648 ≤ hi ∧ hi ≤ 2147483647) (k : Q (some (.int (Int32.ofInt (yCl v lo hi)))) (V, T)) : E x F d 30 0 [some (.int (Int32.ofInt v)), some (.int (Int32.ofInt lo)), some (.int (Int32.ofInt hi))] [] (V, T) Q := s30 hF hv h1 h2 k
theorem s30v {x : zXs} {F : zF} (hF : zSh F) {d : Nat} {V : Nat → Nat → Int32} {T : Nat → Nat → Int64} {Q : Option Value → zG → Prop} {v : Int32} {lo hi : Int} (h1 : -2147483648 ≤ lo ∧ lo ≤ 2147483647) (h2 : -2147483648 ≤ hi ∧ hi ≤ 2147483647) (k : Q (some (.int (Int32.ofInt (yCl v.toInt lo hi)))) (V, T)) : E x F d 30 0 [some (.int v), some (.int (Int32.ofInt lo)), some (.int (Int32.ofInt hi))] [] (V, T) Q := by
  have := s30c (x := x) hF (d := d) (V := V) (T := T) (Q := Q) (v := v.toInt) (lo := lo) (hi := hi) (zI_rng v) h1 h2 k
  rw [zI_self] at this
  exact this
/-- the names' values -/
def yE (g nth num night apron row : Nat) : Nat → Int32 := fun i => if i = 0 then Int32.ofInt (g : Int) else if i = 1 then Int32.ofInt (nth : Int) else if i = 2 then Int32.ofInt (num : Int) else if i = 3 then Int32.ofInt (night : Int) else if i = 4 then Int32.ofInt (apron : Int) else Int32.ofInt (row : Int)
theorem yStep_env {e e' : Nat → Int32} (h : ∀ i, i < 6 → e i = e' i) (c : Nat) (p : Nat × (Nat → Int32)) : yStep e c p = yStep e' c p := by
  unfold yStep
  by_cases hc : c < 6
  · rw [h c hc]
  · simp only [hc, if_false]
theorem yRn_env {e e' : Nat → Int32} (h : ∀ i, i < 6 → e i = e' i) (c : Nat → Nat) : ∀ n i p, yRn e c i n p = yRn e' c i n p := by
  intro n
  induction n with
  | zero => intro i p; rfl
  | succ n ih => intro i p; simp only [yRn]; rw [yStep_env h, ih]
/-- the texts of the class: so many, and what each part tells under the names -/
def zRu (V : Nat → Nat → Int32) (n : Nat) (w : Nat → Nat → (Nat → Int32) → Int32) : Prop := V 20 3 = Int32.ofInt (n : Int) ∧ 1 ≤ n ∧ n ≤ 6 ∧ ∀ t, t < n → ∃ (c en : Nat → Nat), (∀ p, p < 3 → V (24 + 3 * t + 2) p = Int32.ofInt (en p : Int)) ∧ en 0 ≤ en 1 ∧ en 1 ≤ en 2 ∧ en 2 ≤ 160 ∧ (∀ i, i < en 2 → V (24 + 3 * t + 1) i = Int32.ofInt (c i : Int) ∧ c i < 20000) ∧ (∀ p, p < 3 → ∀ e f, (yRn e c (if p = 0 then 0 else en (p - 1)) (en p - (if p = 0 then 0 else en (p - 1))) (0, f)).2 0 = w t p e)
theorem zRu_env {V : Nat → Nat → Int32} {n : Nat} {w : Nat → Nat → (Nat → Int32) → Int32} (h : zRu V n w) {t p : Nat} (ht : t < n) (hp : p < 3) {e e' : Nat → Int32} (he : ∀ i, i < 6 → e i = e' i) : w t p e = w t p e' := by
  obtain ⟨_, _, _, h4⟩ := h
  obtain ⟨c, en, _, _, _, _, _, h5⟩ := h4 t ht
  rw [← h5 p hp e (fun _ => 0), ← h5 p hp e' (fun _ => 0), yRn_env he]
theorem zRu_fr {V V' : Nat → Nat → Int32} {n : Nat} {w : Nat → Nat → (Nat → Int32) → Int32} (h : zRu V n w) (hf : ∀ a, a = 20 ∨ 24 ≤ a ∧ a < 42 → V' a = V a) : zRu V' n w := by
  obtain ⟨h1, h2, h3, h4⟩ := h
  refine ⟨by rw [hf 20 (by omega)]; exact h1, h2, h3, ?_⟩
  intro t ht
  obtain ⟨c, en, g1, g2, g3, g4, g5, g6⟩ := h4 t ht
  refine ⟨c, en, ?_, g2, g3, g4, ?_, g6⟩
  · intro p hp
    rw [hf _ (by omega)]; exact g1 p hp
  · intro i hi
    rw [hf _ (by omega)]; exact g5 i hi
theorem s27 {x : zXs} {F : zF} (hF : zSh F) {d : Nat} {V : Nat → Nat → Int32} {T : Nat → Nat → Int64} {Q : Option Value → zG → Prop} {n : Nat} {w : Nat → Nat → (Nat → Int32) → Int32} (hR : zRu V n w) {t p : Nat} (ht : t < n) (hp : p < 3) (k : ∀ V', (∀ a, a ≠ 23 → V' a = V a) → Q (some (.int (w t p (V 22)))) (V', T)) {o3 o4 o5 o6 o7 o8 : Option Value} : E x F (d + 1) 27 0 [some (.ref 20), some (.int (Int32.ofInt (t : Int))), some (.int (Int32.ofInt (p : Int))), o3, o4, o5, o6, o7, o8] [] (V, T) Q := by
  obtain ⟨h1, h2, h3, h4⟩ := hR
  obtain ⟨c, en, g1, g2, g3, g4, g5, g6⟩ := h4 t ht
  have ht6 : t < 6 := by omega
  apply b27_0 hF
  · intro c1
    simp (disch := omega) only [zI_lt, zI_0] at c1
    exfalso; omega
  intro _
  apply b27_4 hF
  · rw [h1]
    intro c1
    simp (disch := omega) only [zI_le] at c1
    exfalso; omega
  intro _
  apply b27_12 hF
  · intro c1
    simp (disch := omega) only [zI_lt, zI_0] at c1
    exfalso; omega
  intro _
  apply b27_16 hF
  rotate_left
  · intro c1
    simp (disch := omega) only [zI_lt] at c1
    exfalso; omega
  intro _
  have hen : en p ≤ 160 ∧ (0 < p → en (p - 1) ≤ en p) ∧ en p ≤ en 2 := by
    rcases (show p = 0 ∨ p = 1 ∨ p = 2 by omega) with rfl | rfl | rfl
    · exact ⟨by omega, by omega, by omega⟩
    · exact ⟨by omega, fun _ => g2, by omega⟩
    · exact ⟨by omega, fun _ => g3, by omega⟩
  have hloop := fun (s : Nat) (hs : s ≤ en p) (hk : s = if p = 0 then 0 else en (p - 1)) => s27l (x := x) hF (d := d) (V := V) (T := T) (Q := Q) (p := p) (c := c) ht6 hen.1 (fun i hi => g5 i (by omega)) (en p - s) s 0 0 s V rfl rfl (by omega) (by omega) (fun _ _ => rfl) (fun V'' h => by
    have := g6 p hp (V 22) (V 23)
    rw [← hk] at this
    rw [this]
    exact k V'' h)
  apply b27_23 hF (i1 := t) (zI_nat t) ht6 (i2 := t) (zI_nat t) ht6 (i3 := p) (zI_nat p) hp
  · intro c1
    simp (disch := omega) only [zI_eq, zI_0] at c1
    apply b27_57 hF (i1 := t) (zI_nat t) ht6 (i2 := p - 1) (by rw [zI_sub, show (p : Int) - 1 = ((p - 1 : Nat) : Int) by omega]; exact zI_nat _) (by omega)
    rw [g1 p hp, g1 (p - 1) (by omega)]
    apply b27_70 hF
    exact hloop (en (p - 1)) (hen.2.1 (by omega)) (by rw [if_neg (by omega)]) _ _
  · intro c1
    simp (disch := omega) only [zI_eq, zI_0, Decidable.not_not] at c1
    rw [g1 p hp]
    apply b27_53 hF
    apply b27_70 hF
    exact hloop 0 (by omega) (by rw [if_pos (by omega)]) _ _
def yTk (w : Nat → Nat → (Nat → Int32) → Int32) (S : Nat → Nat → Nat) (one g nth len : Nat) : Int := yCl (w (S 5 2) 0 (yE g nth (S 3 one) (S 5 1) (S 4 one) len)).toInt 0 99
def yKp (w : Nat → Nat → (Nat → Int32) → Int32) (S : Nat → Nat → Nat) (one : Nat) : Int := yCl (w (S 5 2) 1 (yE 0 0 (S 3 one) (S 5 1) (S 4 one) 0)).toInt 0 100
def ySh (w : Nat → Nat → (Nat → Int32) → Int32) (S : Nat → Nat → Nat) (r : Nat) : Int := yCl (w (S 5 2) 2 (yE (zpc 24 (zgb S r)) 0 0 (S 5 1) 0 r)).toInt 0 9
theorem zSt_le {b : Nat} (hb : zSt b) : 1 ≤ b ∧ b ≤ 13 := by
  rcases hb with rfl | rfl | rfl <;> omega
theorem zSt_lt (b : Nat) : zSt b → b + 5 < 19 := fun hb => by have := zSt_le hb; omega
theorem s26 {x : zXs} {F : zF} (hF : zSh F) {d : Nat} {V : Nat → Nat → Int32} {T : Nat → Nat → Int64} {Q : Option Value → zG → Prop} {b : Nat} (hb : zSt b) {S : Nat → Nat → Nat} (hS : zCS b V S) (hW : zWg S) {one : Nat} (ho : one < 5) (k : Q none (zu (zu (zu V 22 2 (Int32.ofInt (S 3 one : Int))) 22 3 (Int32.ofInt (S 5 1 : Int))) 22 4 (Int32.ofInt (S 4 one : Int)), T)) : E x F d 26 0 [some (.ref 20), some (.ref b), some (.int (Int32.ofInt (one : Int)))] [] (V, T) Q := by
  have hb2 := zSt_lt b hb
  apply b26_0 hF hb (i1 := one) (zI_nat one) ho (i2 := one) (zI_nat one) ho
  simp (disch := omega) only [zu_ne]
  rw [hS.2.2.2.1 one ho, hS.2.2.2.2.1 one ho, hS.2.2.2.2.2.2.1]
  exact k
theorem s38 {x : zXs} {F : zF} (hF : zSh F) {d : Nat} {V : Nat → Nat → Int32} {T : Nat → Nat → Int64} {Q : Option Value → zG → Prop} {b : Nat} (hb : zSt b) {S : Nat → Nat → Nat} (hS : zCS b V S) (hW : zWg S) {n : Nat} {w : Nat → Nat → (Nat → Int32) → Int32} (hR : zRu V n w) (hru : S 5 2 < n) {one g nth len : Nat} (ho : one < 5) (k : ∀ V', (∀ a, a ≠ 22 → a ≠ 23 → V' a = V a) → Q (some (.int (Int32.ofInt (yTk w S one g nth len)))) (V', T)) : E x F (d + 2) 38 0 [some (.ref 20), some (.ref b), some (.int (Int32.ofInt (one : Int))), some (.int (Int32.ofInt (g : Int))), some (.int (Int32.ofInt (nth : Int))), some (.int (Int32.ofInt (len : Int)))] [] (V, T) Q := by
  have hb2 := zSt_lt b hb
  apply b38_0 hF hb
  apply s26 hF hb hS hW ho
  apply b38_6 hF hb
  simp (disch := omega) only [zu_ne]
  rw [hS.2.2.2.2.2.2.2]
  refine s27 hF (n := n) (w := w) (t := S 5 2) (p := 0) (zRu_fr hR ?_) hru (by omega) ?_
  · intro a ha
    simp (disch := omega) only [zu_ne]
  intro V' hV'
  rw [zRu_env hR hru (p := 0) (by omega) (e' := yE g nth (S 3 one) (S 5 1) (S 4 one) len) (by
    intro i hi
    rcases (show i = 0 ∨ i = 1 ∨ i = 2 ∨ i = 3 ∨ i = 4 ∨ i = 5 by omega) with rfl | rfl | rfl | rfl | rfl | rfl <;> simp [zu_at, yE])]
  apply b38_38 hF
  apply s30v hF (by omega) (by omega)
  apply b38_44 hF
  apply k
  intro a h1 h2
  rw [hV' a h2]
  simp (disch := omega) only [zu_ne]
theorem s25 {x : zXs} {F : zF} (hF : zSh F) {d : Nat} {V : Nat → Nat → Int32} {T : Nat → Nat → Int64} {Q : Option Value → zG → Prop} {b : Nat} (hb : zSt b) {S : Nat → Nat → Nat} (hS : zCS b V S) (hW : zWg S) {n : Nat} {w : Nat → Nat → (Nat → Int32) → Int32} (hR : zRu V n w) (hru : S 5 2 < n) {one : Nat} (ho : one < 5) (k : ∀ V', (∀ a, a ≠ 22 → a ≠ 23 → V' a = V a) → Q (some (.int (Int32.ofInt (yKp w S one)))) (V', T)) : E x F (d + 2) 25 0 [some (.ref 20), some (.ref b), some (.int (Int32.ofInt (one : Int)))] [] (V, T) Q := by
  have hb2 := zSt_lt b hb
  apply b25_0 hF hb
  apply s26 hF hb hS hW ho
  apply b25_6 hF hb
  simp (disch := omega) only [zu_ne]
  rw [hS.2.2.2.2.2.2.2]
  refine s27 hF (n := n) (w := w) (t := S 5 2) (p := 1) (zRu_fr hR ?_) hru (by omega) ?_
  · intro a ha
    simp (disch := omega) only [zu_ne]
  intro V' hV'
  rw [zRu_env hR hru (p := 1) (by omega) (e' := yE 0 0 (S 3 one) (S 5 1) (S 4 one) 0) (by
    intro i hi
    rcases (show i = 0 ∨ i = 1 ∨ i = 2 ∨ i = 3 ∨ i = 4 ∨ i = 5 by omega) with rfl | rfl | rfl | rfl | rfl | rfl <;> simp [zu_at, yE])]
  apply b25_36 hF
  apply s30v hF (by omega) (by omega)
  apply b25_42 hF
  apply k
  intro a h1 h2
  rw [hV' a h2]
  simp (disch := omega) only [zu_ne]
theorem s35 {x : zXs} {F : zF} (hF : zSh F) {d : Nat} {V : Nat → Nat → Int32} {T : Nat → Nat → Int64} {Q : Option Value → zG → Prop} {b : Nat} (hb : zSt b) {S : Nat → Nat → Nat} (hS : zCS b V S) (hW : zWf S) {n : Nat} {w : Nat → Nat → (Nat → Int32) → Int32} (hR : zRu V n w) (hru : S 5 2 < n) {r : Nat} (hr : r < 4) (k : ∀ V', (∀ a, a ≠ 22 → a ≠ 23 → V' a = V a) → Q (some (.int (Int32.ofInt (ySh w S r)))) (V', T)) : E x F (d + 2) 35 0 [some (.ref 20), some (.ref b), some (.int (Int32.ofInt (r : Int)))] [] (V, T) Q := by
  have hb2 := zSt_lt b hb
  apply b35_0 hF hb
  apply s13 hF hb hS hW hr
  apply b35_10 hF hb (ns0 := 6) (zsh_at hF rfl) (by omega) (i1 := 0) rfl (by omega)
  simp (disch := omega) only [zu_ne]
  rw [hS.2.2.2.2.2.2.2, hS.2.2.2.2.2.2.1]
  refine s27 hF (n := n) (w := w) (t := S 5 2) (p := 2) (zRu_fr hR ?_) hru (by omega) ?_
  · intro a ha
    simp (disch := omega) only [zu_ne]
  intro V' hV'
  rw [zRu_env hR hru (p := 2) (by omega) (e' := yE (zpc 24 (zgb S r)) 0 0 (S 5 1) 0 r) (by
    intro i hi
    rcases (show i = 0 ∨ i = 1 ∨ i = 2 ∨ i = 3 ∨ i = 4 ∨ i = 5 by omega) with rfl | rfl | rfl | rfl | rfl | rfl <;> simp [zu_at, yE])]
  apply b35_58 hF
  apply s30v hF (by omega) (by omega)
  apply b35_64 hF
  apply k
  intro a h1 h2
  rw [hV' a h2]
  simp (disch := omega) only [zu_ne]
