/-! Kinds beyond the crew: nobody asks for them -/
/-- the same state, but for the kinds of who isn't there -/
def yRe (K : Nat → Nat) (S : Nat → Nat → Nat) : Nat → Nat → Nat := fun f i => if f = 2 ∧ S 5 0 ≤ i then K i else S f i
theorem yRe_n {K : Nat → Nat} {S : Nat → Nat → Nat} {f : Nat} (h : f ≠ 2) : yRe K S f = S f := by
  funext i
  unfold yRe
  rw [if_neg (fun c => h c.1)]
theorem yRe_2 {K : Nat → Nat} {S : Nat → Nat → Nat} {i : Nat} (h : i < S 5 0) : yRe K S 2 i = S 2 i := by
  unfold yRe
  rw [if_neg (fun c => by omega)]
theorem yRe_zu {K : Nat → Nat} {S : Nat → Nat → Nat} {a k v : Nat} (h2 : a ≠ 2 ∨ k < S 5 0) (h5 : a ≠ 5 ∨ k ≠ 0) : yRe K (zu S a k v) = zu (yRe K S) a k v := by
  have h50 : zu S a k v 5 0 = S 5 0 := by
    by_cases c : a = 5
    · subst c; rw [zuN_nk (by omega)]
    · rw [zu_ne (by omega)]
  funext f i
  by_cases cf : f = a
  · subst cf
    by_cases ci : i = k
    · subst ci
      rw [zuN_at]
      unfold yRe
      rw [h50, if_neg (fun c => by omega), zuN_at]
    · rw [zuN_nk ci]
      unfold yRe
      rw [h50, zuN_nk ci]
  · rw [zu_ne cf]
    unfold yRe
    rw [h50, zu_ne cf]
theorem yRe_gb {K : Nat → Nat} {S : Nat → Nat → Nat} {r : Nat} : zgb (yRe K S) r = zgb S r := by
  unfold zgb
  rw [yRe_n (f := 0) (by omega), yRe_n (f := 1) (by omega)]
section
variable {w : Nat → Nat → (Nat → Int32) → Int32} {K : Nat → Nat}
theorem yRe_gl {S : Nat → Nat → Nat} {one L B : Nat} (h : one < S 5 0) : yGl w (yRe K S) one L B = yGl w S one L B := yGl_eq (yRe_2 h) (by rw [yRe_n (by omega)]) (by rw [yRe_n (by omega)]) (yRe_n (by omega))
theorem yGS_2 {S : Nat → Nat → Nat} {one r : Nat} : yGS w S one r 2 = S 2 := by
  unfold yGS
  rw [zu_ne (by omega), zu_ne (by omega), zu_ne (by omega)]
theorem yRe_gs {S : Nat → Nat → Nat} {one r : Nat} (h : one < S 5 0) : yGS w (yRe K S) one r = yRe K (yGS w S one r) := by
  unfold yGS
  rw [yRe_n (f := 0) (by omega), yRe_n (f := 1) (by omega), yRe_gl h, yRe_zu (Or.inl (by omega)) (Or.inl (by omega)), yRe_zu (Or.inl (by omega)) (Or.inl (by omega)), yRe_zu (Or.inl (by omega)) (Or.inl (by omega))]
theorem yOr_5 {r : Nat} {at' : Nat → Nat} : ∀ (m i : Nat) (S : Nat → Nat → Nat), yOr w r at' i m S 5 = S 5 := by
  intro m
  induction m with
  | zero => intro i S; rfl
  | succ m ih => intro i S; rw [yOr, ih, yGS_5]
theorem yOr_2 {r : Nat} {at' : Nat → Nat} : ∀ (m i : Nat) (S : Nat → Nat → Nat), yOr w r at' i m S 2 = S 2 := by
  intro m
  induction m with
  | zero => intro i S; rfl
  | succ m ih => intro i S; rw [yOr, ih, yGS_2]
theorem yRe_or {r : Nat} {at' : Nat → Nat} : ∀ (m i : Nat) (S : Nat → Nat → Nat), (∀ j, i ≤ j → j < i + m → at' j < S 5 0) → yOr w r at' i m (yRe K S) = yRe K (yOr w r at' i m S) := by
  intro m
  induction m with
  | zero => intro i S _; rfl
  | succ m ih =>
    intro i S h
    rw [yOr, yOr, yRe_gs (h i (by omega) (by omega)), ih (i + 1) _ (fun j j1 j2 => by rw [yGS_5]; exact h j (by omega) (by omega))]
theorem yRe_kept {S : Nat → Nat → Nat} {one : Nat} (h : one < S 5 0) : yKept w (yRe K S) one = yKept w S one := by
  have e3 : yRe K S 3 = S 3 := yRe_n (by omega)
  have e4 : yRe K S 4 = S 4 := yRe_n (by omega)
  have e5 : yRe K S 5 = S 5 := yRe_n (by omega)
  have e : yKp w (yRe K S) one = yKp w S one := by
    unfold yKp
    rw [e3, e4, e5]
  unfold yKept
  rw [yRe_2 h, e3, e4, e]
theorem yRe_sh {S : Nat → Nat → Nat} {r : Nat} : ySh w (yRe K S) r = ySh w S r := by
  unfold ySh
  rw [yRe_gb, yRe_n (f := 5) (by omega)]
theorem yRe_np {S : Nat → Nat → Nat} : yNp w (yRe K S) (S 5 0) 4 = yRe K (yNp w S (S 5 0) 4) := by
  have h50 : yNp w S (S 5 0) 4 5 0 = S 5 0 := by
    unfold yNp
    rw [if_neg (by omega), if_neg (by omega)]
  funext f j
  by_cases c2 : f = 2
  · subst c2
    have e : ∀ X : Nat → Nat → Nat, yNp w X (S 5 0) 4 2 j = X 2 j := fun X => by
      unfold yNp
      rw [if_neg (by omega), if_neg (by omega)]
    rw [e]
    unfold yRe
    rw [h50, e]
  · rw [yRe_n c2]
    unfold yNp
    by_cases c4 : f = 4 ∧ j < S 5 0
    · rw [if_pos c4, if_pos c4, yRe_kept c4.2]
    · rw [if_neg c4, if_neg c4, yRe_sh, yRe_n (f := 0) (by omega), yRe_n c2]
theorem yRe_ni {S : Nat → Nat → Nat} : yNi w (yRe K S) = yRe K (yNi w S) := by
  unfold yNi
  rw [yRe_zu (Or.inl (by omega)) (Or.inr (by omega)), ← yRe_np, yRe_n (f := 5) (by omega)]
theorem yNi_50 {S : Nat → Nat → Nat} : yNi w S 5 0 = S 5 0 := by
  unfold yNi
  rw [zuN_nk (by omega)]
  unfold yNp
  rw [if_neg (by omega), if_neg (by omega)]
theorem yDay_50 {r : Nat} {S : Nat → Nat → Nat} : yDay w r S 5 0 = S 5 0 := by
  unfold yDay
  rw [yNi_50, yOr_5]
theorem yRe_day {r : Nat} {S : Nat → Nat → Nat} : yDay w r (yRe K S) = yRe K (yDay w r S) := by
  unfold yDay
  rw [yRe_n (f := 5) (by omega), yRe_or _ _ _ (fun j _ j2 => by omega), yRe_ni]
theorem yRe_days {r : Nat} : ∀ (m : Nat) (S : Nat → Nat → Nat), yDays w r m (yRe K S) = yRe K (yDays w r m S) := by
  intro m
  induction m with
  | zero => intro S; rfl
  | succ m ih => intro S; rw [yDays, yDays, yRe_day, ih]
theorem yRe_try {S : Nat → Nat → Nat} {one r what : Nat} (h : one < S 5 0) : yTry w (yRe K S) one r what = yTry w S one r what := by
  unfold yTry
  rw [yRe_gs h, yRe_gl h, yRe_gb, yRe_n (f := 0) (by omega), yRe_n (f := 1) (by omega), yRe_n (f := 4) (by omega)]
theorem yRe_nights {S : Nat → Nat → Nat} {one row n what : Int} : yNights w (yRe K S) one row n what = yNights w S one row n what := by
  unfold yNights
  rw [yRe_days, yRe_n (f := 5) (by omega), yRe_n (f := 4) (by omega), yRe_gb]
theorem yRe_tries {S : Nat → Nat → Nat} {one row what : Int} : yTries w (yRe K S) one row what = yTries w S one row what := by
  unfold yTries
  rw [yRe_n (f := 5) (by omega)]
  by_cases c : (0 ≤ one ∧ one < S 5 0) ∧ (0 ≤ row ∧ row ≤ 3) ∧ (0 ≤ what ∧ what ≤ 3)
  · rw [if_pos c, if_pos c, yRe_try (by omega)]
  · rw [if_neg c, if_neg c]
theorem yRe_rf {S : Nat → Nat → Nat} {one : Nat} (h : one < S 5 0) : ∀ k, yRf w (yRe K S) one k = yRf w S one k := by
  intro k
  induction k with
  | zero => rfl
  | succ k ih => rw [yRf, yRf, ih, yRe_try h]
theorem yRe_rowFor {S : Nat → Nat → Nat} {one what : Int} : yRowFor w (yRe K S) one what = yRowFor w S one what := by
  unfold yRowFor
  rw [yRe_n (f := 5) (by omega)]
  by_cases c : (0 ≤ one ∧ one < S 5 0) ∧ (0 ≤ what ∧ what ≤ 1)
  · rw [if_pos c, if_pos c, yRe_rf (by omega)]
  · rw [if_neg c, if_neg c]
theorem yRe_lk {S : Nat → Nat → Nat} {r : Nat} : ∀ (k : Nat) (p : Int × Int), yLk (yRe K S) r k p = yLk S r k p := by
  intro k
  induction k with
  | zero => intro p; rfl
  | succ k ih => intro p; rw [yLk, yLk, ih, yRe_gb]
theorem yRe_lr {S : Nat → Nat → Nat} : ∀ r, yLr (yRe K S) r = yLr S r := by
  intro r
  induction r with
  | zero => rfl
  | succ r ih => rw [yLr, yLr, ih, yRe_lk, yRe_gb]
theorem yRe_ll {S : Nat → Nat → Nat} : ∀ r, zll (yRe K S) r = zll S r := by
  intro r
  induction r with
  | zero => rfl
  | succ r ih => rw [zll, zll, ih, yRe_gb]
theorem yRe_places {S : Nat → Nat → Nat} : ∀ r, yPlaces (yRe K S) r = yPlaces S r := by
  intro r
  induction r with
  | zero => rfl
  | succ r ih => rw [yPlaces, yPlaces, ih, yRe_n (f := 0) (by omega)]
theorem yRe_near {S : Nat → Nat → Nat} {part : Int} : yNear (yRe K S) part = yNear S part := by
  unfold yNear
  rw [yRe_places, yRe_ll]
theorem yRe_run {S : Nat → Nat → Nat} {row j : Int} : yRun (yRe K S) row j = yRun S row j := by
  unfold yRun
  rw [yRe_gb]
theorem yRe_asks {S : Nat → Nat → Nat} {one g : Int} : yAsks w (yRe K S) one g = yAsks w S one g := by
  have e3 : yRe K S 3 = S 3 := yRe_n (by omega)
  have e4 : yRe K S 4 = S 4 := yRe_n (by omega)
  have e5 : yRe K S 5 = S 5 := yRe_n (by omega)
  have et : ∀ a b c d, yTk w (yRe K S) a b c d = yTk w S a b c d := fun a b c d => by
    unfold yTk
    rw [e3, e4, e5]
  unfold yAsks
  rw [e5, et]
  by_cases c : (0 ≤ one ∧ one < S 5 0) ∧ 1 ≤ g ∧ g ≤ 24
  · rw [if_pos c, if_pos c]
    unfold yWant
    rw [yRe_2 (by omega), e3, e4]
  · rw [if_neg c, if_neg c]
theorem yRe_told {S : Nat → Nat → Nat} {who what : Int} : yTold w (yRe K S) who what = yTold w S who what := by
  unfold yTold
  rw [yRe_n (f := 5) (by omega), yRe_n (f := 3) (by omega), yRe_n (f := 4) (by omega), yRe_n (f := 0) (by omega), yRe_n (f := 1) (by omega), yRe_gb, yRe_sh]
  by_cases c : 0 ≤ who ∧ who < S 5 0
  · rw [yRe_2 (by omega), yRe_kept (by omega)]
  · rw [if_neg c, if_neg c]
theorem yRe_taken {S : Nat → Nat → Nat} {who t : Int} : yTaken (yRe K S) who t = yTaken S who t := by
  unfold yTaken
  rw [yRe_n (f := 5) (by omega), yRe_n (f := 3) (by omega)]
  by_cases c : 0 ≤ who ∧ who < S 5 0
  · rw [yRe_2 (by omega)]
  · rw [if_neg c, if_neg c]
theorem yRe_count {S : Nat → Nat → Nat} {n tn : Nat} {what : Int} : yCount (yRe K S) n tn what = yCount S n tn what := by
  unfold yCount
  rw [yRe_n (f := 5) (by omega), yRe_ll]
theorem yRe_dm {S : Nat → Nat → Nat} {one L B : Nat} (h : one < S 5 0) : yDm w (yRe K S) one L B = yDm w S one L B := by
  unfold yDm
  rw [yRe_gl h]
theorem yRe_dn {S : Nat → Nat → Nat} {sd : Int32} {one : Nat} (h : one < S 5 0) : yDn w (yRe K S) sd one = yDn w S sd one := by
  unfold yDn
  exact yRe_dm h
theorem yRe_drw {S : Nat → Nat → Nat} {seed : Int32} {one : Int} : yDrw w (yRe K S) seed one = yDrw w S seed one := by
  unfold yDrw
  rw [yRe_n (f := 5) (by omega)]
  by_cases c : 0 ≤ one ∧ one < S 5 0
  · rw [if_pos c, if_pos c]
    exact yRe_dn (by omega)
  · rw [if_neg c, if_neg c]
theorem yRe_ch {S : Nat → Nat → Nat} {seed : Int32} {one : Nat} {g : Int} (h : one < S 5 0) : ∀ m, yCh w (yRe K S) seed one g m = yCh w S seed one g m := by
  intro m
  induction m with
  | zero => rfl
  | succ m ih =>
    rw [yCh, yCh, ih]
    rw [yRe_dn h]
theorem yRe_chance {S : Nat → Nat → Nat} {seed : Int32} {m one g part : Int} : yChance w (yRe K S) seed m one g part = yChance w S seed m one g part := by
  unfold yChance
  rw [yRe_n (f := 5) (by omega)]
  by_cases c : (1 ≤ m ∧ m ≤ 20) ∧ (0 ≤ one ∧ one < S 5 0) ∧ (0 ≤ g ∧ g ≤ 24) ∧ (0 ≤ part ∧ part ≤ 1)
  · rw [if_pos c, if_pos c, yRe_ch (by omega)]
  · rw [if_neg c, if_neg c]
end
