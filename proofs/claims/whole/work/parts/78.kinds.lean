/-! Kinds beyond the crew: the larger answers, and the states -/
/-- who is there stays, of his kind -/
def yMn (S S' : Nat → Nat → Nat) : Prop := S 5 0 ≤ S' 5 0 ∧ ∀ i, i < S 5 0 → S' 2 i = S 2 i
theorem yMn_rfl (S : Nat → Nat → Nat) : yMn S S := ⟨Nat.le_refl _, fun _ _ => rfl⟩
theorem yMn_tr {S S1 S2 : Nat → Nat → Nat} (h1 : yMn S S1) (h2 : yMn S1 S2) : yMn S S2 := ⟨Nat.le_trans h1.1 h2.1, fun i hi => (h2.2 i (Nat.lt_of_lt_of_le hi h1.1)).trans (h1.2 i hi)⟩
theorem yMn_of {S S' : Nat → Nat → Nat} (h2 : S' 2 = S 2) (h5 : S' 5 0 = S 5 0) : yMn S S' := ⟨by rw [h5]; exact Nat.le_refl _, fun i _ => by rw [h2]⟩
section
variable {w : Nat → Nat → (Nat → Int32) → Int32} {K : Nat → Nat}
theorem yRe_lay {S : Nat → Nat → Nat} {row len st : Int} : yLayS (yRe K S) row len st = yRe K (yLayS S row len st) ∧ yLay (yRe K S) row len st = yLay S row len st ∧ yMn S (yLayS S row len st) := by
  have h : yLayS (yRe K S) row len st = yRe K (yLayS S row len st) := by
    unfold yLayS
    by_cases c : yLayOk row len st
    · rw [if_pos c, if_pos c, yRe_zu (Or.inl (by omega)) (Or.inl (by omega)), yRe_zu (Or.inl (by omega)) (Or.inl (by omega))]
    · rw [if_neg c, if_neg c]
  refine ⟨h, ?_, ?_⟩
  · unfold yLay
    rw [h, yRe_gb]
  · unfold yLayS
    by_cases c : yLayOk row len st
    · rw [if_pos c]
      exact yMn_of (by rw [zu_ne (by omega), zu_ne (by omega)]) (by rw [zu_ne (by omega), zu_ne (by omega)])
    · rw [if_neg c]
      exact yMn_rfl S
theorem yRe_set {S : Nat → Nat → Nat} {what who v : Int} : ySetS (yRe K S) what who v = yRe K (ySetS S what who v) ∧ ySet (yRe K S) what who v = ySet S what who v ∧ yMn S (ySetS S what who v) := by
  have e3 : yRe K S 3 = S 3 := yRe_n (by omega)
  have e4 : yRe K S 4 = S 4 := yRe_n (by omega)
  have e5 : yRe K S 5 = S 5 := yRe_n (by omega)
  have ok : ySetOk (yRe K S) what who v ↔ ySetOk S what who v := by
    unfold ySetOk
    rw [e5]
  refine ⟨?_, ?_, ?_⟩
  · unfold ySetS
    by_cases c : ySetOk S what who v
    · rw [if_pos c, if_pos (ok.mpr c)]
      by_cases c0 : what = 0
      · rw [if_pos c0, if_pos c0, yRe_zu (Or.inl (by omega)) (Or.inr (by omega))]
      · rw [if_neg c0, if_neg c0]
        by_cases c1 : what = 1
        · rw [if_pos c1, if_pos c1, yRe_zu (Or.inl (by omega)) (Or.inl (by omega))]
        · rw [if_neg c1, if_neg c1, yRe_zu (Or.inl (by omega)) (Or.inl (by omega))]
    · rw [if_neg c, if_neg (fun c2 => c (ok.mp c2))]
  · unfold ySet
    by_cases c : ySetOk S what who v
    · rw [if_pos c, if_pos (ok.mpr c), e3, e4, e5]
    · rw [if_neg c, if_neg (fun c2 => c (ok.mp c2))]
  · unfold ySetS
    by_cases c : ySetOk S what who v
    · rw [if_pos c]
      by_cases c0 : what = 0
      · rw [if_pos c0]
        exact yMn_of (by rw [zu_ne (by omega)]) (by rw [zuN_nk (by omega)])
      · rw [if_neg c0]
        by_cases c1 : what = 1
        · rw [if_pos c1]
          exact yMn_of (by rw [zu_ne (by omega)]) (by rw [zu_ne (by omega)])
        · rw [if_neg c1]
          exact yMn_of (by rw [zu_ne (by omega)]) (by rw [zu_ne (by omega)])
    · rw [if_neg c]
      exact yMn_rfl S
theorem yRe_com {S : Nat → Nat → Nat} {kind num : Int} : yComS (yRe K S) kind num = yRe K (yComS S kind num) ∧ yCom (yRe K S) kind num = yCom S kind num ∧ yMn S (yComS S kind num) := by
  have e5 : yRe K S 5 = S 5 := yRe_n (by omega)
  refine ⟨?_, ?_, ?_⟩
  · unfold yComS
    rw [e5]
    by_cases c : ((0 ≤ kind ∧ kind ≤ 5) ∧ (0 ≤ num ∧ num ≤ 9)) ∧ S 5 0 < 5
    · rw [if_pos c, if_pos c]
      have h50 : zu (zu (zu (zu S 2 (S 5 0) kind.toNat) 3 (S 5 0) num.toNat) 4 (S 5 0) 0) 5 0 (S 5 0 + 1) 5 0 = S 5 0 + 1 := by rw [zuN_at]
      funext f i
      by_cases cf : f = 2
      · subst cf
        rw [zu_ne (by omega), zu_ne (by omega), zu_ne (by omega)]
        by_cases ci : i = S 5 0
        · subst ci
          rw [zuN_at]
          unfold yRe
          rw [h50, if_neg (fun c => by omega), zu_ne (by omega), zu_ne (by omega), zu_ne (by omega), zuN_at]
        · rw [zuN_nk ci]
          unfold yRe
          rw [h50, zu_ne (by omega), zu_ne (by omega), zu_ne (by omega), zuN_nk ci]
          by_cases cc : S 5 0 ≤ i
          · rw [if_pos ⟨rfl, cc⟩, if_pos ⟨rfl, by omega⟩]
          · rw [if_neg (fun c => cc c.2), if_neg (fun c => by omega)]
      · rw [yRe_n cf]
        by_cases c5 : f = 5
        · subst c5
          by_cases ci : i = 0
          · subst ci; rw [zuN_at, zuN_at]
          · rw [zuN_nk ci, zuN_nk ci, zu_ne (by omega), zu_ne (by omega), zu_ne (by omega), zu_ne (by omega), zu_ne (by omega), zu_ne (by omega), e5]
        · rw [zu_ne c5, zu_ne c5]
          by_cases c4 : f = 4
          · subst c4
            by_cases ci : i = S 5 0
            · subst ci; rw [zuN_at, zuN_at]
            · rw [zuN_nk ci, zuN_nk ci, zu_ne (by omega), zu_ne (by omega), zu_ne (by omega), zu_ne (by omega), yRe_n (by omega)]
          · rw [zu_ne c4, zu_ne c4]
            by_cases c3 : f = 3
            · subst c3
              by_cases ci : i = S 5 0
              · subst ci; rw [zuN_at, zuN_at]
              · rw [zuN_nk ci, zuN_nk ci, zu_ne (by omega), zu_ne (by omega), yRe_n (by omega)]
            · rw [zu_ne c3, zu_ne c3, zu_ne cf, zu_ne cf, yRe_n cf]
    · rw [if_neg c, if_neg c]
  · unfold yCom
    rw [e5]
  · unfold yComS
    by_cases c : ((0 ≤ kind ∧ kind ≤ 5) ∧ (0 ≤ num ∧ num ≤ 9)) ∧ S 5 0 < 5
    · rw [if_pos c]
      refine ⟨by rw [zuN_at]; omega, fun i hi => ?_⟩
      rw [zu_ne (by omega), zu_ne (by omega), zu_ne (by omega), zuN_nk (by omega)]
    · rw [if_neg c]
      exact yMn_rfl S
theorem yRe_force {S : Nat → Nat → Nat} {n : Nat} {t : Int} : yForceS (yRe K S) n t = yRe K (yForceS S n t) ∧ yForce (yRe K S) n t = yForce S n t ∧ yMn S (yForceS S n t) := by
  refine ⟨?_, ?_, ?_⟩
  · unfold yForceS
    by_cases c : 0 ≤ t ∧ t < n
    · rw [if_pos c, if_pos c, yRe_zu (Or.inl (by omega)) (Or.inr (by omega))]
    · rw [if_neg c, if_neg c]
  · unfold yForce
    rw [yRe_n (f := 5) (by omega)]
  · unfold yForceS
    by_cases c : 0 ≤ t ∧ t < n
    · rw [if_pos c]
      exact yMn_of (by rw [zu_ne (by omega)]) (by rw [zuN_nk (by omega)])
    · rw [if_neg c]
      exact yMn_rfl S
theorem yRe_gln {S : Nat → Nat → Nat} {one row : Int} : yGlnS w (yRe K S) one row = yRe K (yGlnS w S one row) ∧ yGln w (yRe K S) one row = yGln w S one row ∧ yMn S (yGlnS w S one row) := by
  have e5 : yRe K S 5 = S 5 := yRe_n (by omega)
  refine ⟨?_, ?_, ?_⟩
  · unfold yGlnS
    rw [e5]
    by_cases c : (0 ≤ one ∧ one < S 5 0) ∧ 0 ≤ row ∧ row ≤ 3
    · rw [if_pos c, if_pos c, yRe_gs (by omega)]
    · rw [if_neg c, if_neg c]
  · unfold yGln
    rw [e5]
    by_cases c : (0 ≤ one ∧ one < S 5 0) ∧ 0 ≤ row ∧ row ≤ 3
    · rw [if_pos c, if_pos c, yRe_gl (by omega), yRe_n (f := 0) (by omega), yRe_n (f := 1) (by omega)]
    · rw [if_neg c, if_neg c]
  · unfold yGlnS
    by_cases c : (0 ≤ one ∧ one < S 5 0) ∧ 0 ≤ row ∧ row ≤ 3
    · rw [if_pos c]
      exact yMn_of yGS_2 (by rw [yGS_5])
    · rw [if_neg c]
      exact yMn_rfl S
theorem yRe_go {S : Nat → Nat → Nat} {row order : Int} : yGoS w (yRe K S) row order = yRe K (yGoS w S row order) ∧ yGo w (yRe K S) row order = yGo w S row order ∧ yMn S (yGoS w S row order) := by
  have e5 : yRe K S 5 = S 5 := yRe_n (by omega)
  have ok : yGoOk (yRe K S) row order ↔ yGoOk S row order := by
    unfold yGoOk
    rw [e5]
  have st : yGoOk S row order → yOr w row.toNat (yAt order.toNat (S 5 0)) 0 (S 5 0) (yRe K S) = yRe K (yOr w row.toNat (yAt order.toNat (S 5 0)) 0 (S 5 0) S) := fun c => yRe_or _ _ _ (fun j _ j2 => yGo_at c j (by omega))
  refine ⟨?_, ?_, ?_⟩
  · unfold yGoS
    by_cases c : yGoOk S row order
    · rw [if_pos c, if_pos (ok.mpr c), e5, st c]
    · rw [if_neg c, if_neg (fun c2 => c (ok.mp c2))]
  · unfold yGo
    by_cases c : yGoOk S row order
    · rw [if_pos c, if_pos (ok.mpr c), e5, st c, yRe_gb]
    · rw [if_neg c, if_neg (fun c2 => c (ok.mp c2))]
  · unfold yGoS
    by_cases c : yGoOk S row order
    · rw [if_pos c]
      exact yMn_of (yOr_2 _ _ _) (by rw [yOr_5])
    · rw [if_neg c]
      exact yMn_rfl S
theorem yNi_2 {S : Nat → Nat → Nat} : yNi w S 2 = S 2 := by
  unfold yNi
  rw [zu_ne (by omega)]
  funext i
  unfold yNp
  rw [if_neg (by omega), if_neg (by omega)]
theorem yRe_ngt {S : Nat → Nat → Nat} : yNgtS w (yRe K S) = yRe K (yNgtS w S) ∧ yNgt w (yRe K S) = yNgt w S ∧ yMn S (yNgtS w S) := by
  have e5 : yRe K S 5 = S 5 := yRe_n (by omega)
  refine ⟨?_, ?_, ?_⟩
  · unfold yNgtS
    rw [e5]
    by_cases c : S 5 1 < 999
    · rw [if_pos c, if_pos c, yRe_ni]
    · rw [if_neg c, if_neg c]
  · unfold yNgt
    rw [e5, yRe_ni, yRe_ll]
  · unfold yNgtS
    by_cases c : S 5 1 < 999
    · rw [if_pos c]
      exact yMn_of yNi_2 yNi_50
    · rw [if_neg c]
      exact yMn_rfl S
theorem yRe_gnr {sz : Nat} {it : Nat → Int32} : ∀ (m : Nat) (a : Int) (S : Nat → Nat → Nat) (z : Int), (yGnr sz it m a (yRe K S, z)).1 = yRe K (yGnr sz it m a (S, z)).1 ∧ (yGnr sz it m a (yRe K S, z)).2 = (yGnr sz it m a (S, z)).2 ∧ yMn S (yGnr sz it m a (S, z)).1 := by
  intro m
  induction m with
  | zero => intro a S z; exact ⟨rfl, rfl, yMn_rfl S⟩
  | succ m ih =>
    intro a S z
    rw [yGnr, yGnr]
    by_cases c : 0 ≤ a ∧ a + 2 ≤ sz
    · rw [if_pos c, if_pos c]
      dsimp only
      obtain ⟨h1, h2, h3⟩ := yRe_com (K := K) (S := S) (kind := (it a.toNat).toInt) (num := (it (a.toNat + 1)).toInt)
      rw [h1, h2]
      obtain ⟨q1, q2, q3⟩ := ih (a + 2) (yComS S (it a.toNat).toInt (it (a.toNat + 1)).toInt) (if 0 ≤ yCom S (it a.toNat).toInt (it (a.toNat + 1)).toInt then z + 1 else z)
      exact ⟨q1, q2, yMn_tr h3 q3⟩
    · rw [if_neg c, if_neg c]
      exact ⟨rfl, rfl, yMn_rfl S⟩
theorem yRe_gners {H : Nat → Int × Nat × (Nat → Int32)} {S : Nat → Nat → Nat} {s sort a n : Int} : (yGners H (yRe K S) s sort a n).1 = yRe K (yGners H S s sort a n).1 ∧ (yGners H (yRe K S) s sort a n).2 = (yGners H S s sort a n).2 ∧ yMn S (yGners H S s sort a n).1 := by
  unfold yGners
  by_cases c : (0 ≤ s ∧ s ≤ 3) ∧ (0 ≤ sort ∧ sort ≤ 2) ∧ (0 ≤ n ∧ n ≤ 5)
  · rw [if_pos c, if_pos c]
    by_cases c1 : (H s.toNat).1 = -1
    · rw [if_pos c1, if_pos c1]
      exact ⟨rfl, rfl, yMn_rfl S⟩
    · rw [if_neg c1, if_neg c1]
      by_cases c2 : (H s.toNat).1 = sort
      · rw [if_pos c2, if_pos c2]
        exact yRe_gnr _ _ _ _
      · rw [if_neg c2, if_neg c2]
        exact ⟨rfl, rfl, yMn_rfl S⟩
  · rw [if_neg c, if_neg c]
    exact ⟨rfl, rfl, yMn_rfl S⟩
theorem yRe_tn {S : Nat → Nat → Nat} {one r : Nat} (h : one < S 5 0) : yTn w (yRe K S) one r = yTn w S one r := by
  funext j
  unfold yTn
  rw [yRe_n (f := 0) (by omega), yRe_n (f := 1) (by omega), yRe_gl h]
theorem yRe_film {H : Nat → Int × Nat × (Nat → Int32)} {S : Nat → Nat → Nat} {s one row : Int} : yFilmH w H (yRe K S) s one row = yFilmH w H S s one row ∧ yFilm (yRe K S) s one row = yFilm S s one row := by
  have ok : yFmOk (yRe K S) s one row ↔ yFmOk S s one row := by
    unfold yFmOk
    rw [yRe_n (f := 5) (by omega)]
  constructor
  · unfold yFilmH
    by_cases c : yFmOk S s one row
    · rw [if_pos c, if_pos (ok.mpr c), yRe_gb, yRe_tn (by have := c.2.1; omega)]
    · rw [if_neg c, if_neg (fun c2 => c (ok.mp c2))]
  · unfold yFilm
    by_cases c : yFmOk S s one row
    · rw [if_pos c, if_pos (ok.mpr c), yRe_gb]
    · rw [if_neg c, if_neg (fun c2 => c (ok.mp c2))]
theorem yRe_fo {S : Nat → Nat → Nat} {X : Int × Nat × (Nat → Int32)} {one r : Nat} (h : one < S 5 0) : yFo w (yRe K S) X one r = yFo w S X one r := by
  unfold yFo
  rw [yRe_tn h]
theorem yPB_eq {p q : Nat → Bool} : ∀ m, (∀ k, k < m → p k = q k) → yPB p m = yPB q m := by
  intro m
  induction m with
  | zero => intro _; rfl
  | succ m ih => intro h; rw [yPB, yPB, ih (fun k hk => h k (by omega)), h m (by omega)]
theorem yRe_q {S : Nat → Nat → Nat} {X : Int × Nat × (Nat → Int32)} {one r sort : Nat} (h : one < S 5 0) : yQ w (yRe K S) X one r sort = yQ w S X one r sort := by
  funext v
  have e : yLd (yRe K S) sort one v = yRe K (yLd S sort one v) ∧ yLd S sort one v 5 0 = S 5 0 := by
    unfold yLd
    by_cases c0 : sort = 0
    · rw [if_pos c0, if_pos c0, yRe_zu (Or.inl (by omega)) (Or.inr (by omega))]
      exact ⟨rfl, by rw [zuN_nk (by omega)]⟩
    · rw [if_neg c0, if_neg c0]
      by_cases c1 : sort = 1
      · rw [if_pos c1, if_pos c1, yRe_zu (Or.inl (by omega)) (Or.inl (by omega))]
        exact ⟨rfl, by rw [zu_ne (by omega)]⟩
      · rw [if_neg c1, if_neg c1]
        by_cases c2 : sort = 2
        · rw [if_pos c2, if_pos c2, yRe_zu (Or.inl (by omega)) (Or.inl (by omega))]
          exact ⟨rfl, by rw [zu_ne (by omega)]⟩
        · rw [if_neg c2, if_neg c2]
          by_cases c3 : sort = 3
          · rw [if_pos c3, if_pos c3, yRe_zu (Or.inr h) (Or.inl (by omega))]
            exact ⟨rfl, by rw [zu_ne (by omega)]⟩
          · rw [if_neg c3, if_neg c3, yRe_zu (Or.inl (by omega)) (Or.inr (by omega))]
            exact ⟨rfl, by rw [zuN_nk (by omega)]⟩
  unfold yQ
  rw [e.1, yRe_fo (by rw [e.2]; exact h)]
theorem yRe_tell {S : Nat → Nat → Nat} {n : Nat} {X : Int × Nat × (Nat → Int32)} {one r : Nat} {what : Int} (h : one < S 5 0) : yTell w (yRe K S) n X one r what = yTell w S n X one r what := by
  have e5 : yRe K S 5 = S 5 := yRe_n (by omega)
  have eg : yPB (yQg w (yRe K S) X r) (S 5 0) = yPB (yQg w S X r) (S 5 0) := yPB_eq _ (fun k hk => by
    unfold yQg
    rw [yRe_fo hk])
  have er : yQr w (yRe K S) X one = yQr w S X one := by
    funext k
    unfold yQr
    rw [yRe_fo h, yRe_gb]
  unfold yTell
  rw [e5, eg, er, yRe_fo h, yRe_q h, yRe_q h, yRe_q h, yRe_q h]
theorem yRe_tells {H : Nat → Int × Nat × (Nat → Int32)} {S : Nat → Nat → Nat} {n : Nat} {s one row what : Int} : yTells w H (yRe K S) n s one row what = yTells w H S n s one row what := by
  have ok : yTlOk (yRe K S) s one row what ↔ yTlOk S s one row what := by
    unfold yTlOk
    rw [yRe_n (f := 5) (by omega)]
  unfold yTells
  by_cases c : yTlOk S s one row what
  · rw [if_pos c, if_pos (ok.mpr c), yRe_gb, yRe_tell (by have := c.2.1; omega)]
  · rw [if_neg c, if_neg (fun c2 => c (ok.mp c2))]
theorem yRe_sp {r : Nat} {who : Int} : ∀ (p : List Nat) (S : Nat → Nat → Nat) (z : Int), (∀ f, f ∈ p → f < S 5 0) → (p.foldl (ySp w r who) (yRe K S, z)).1 = yRe K (p.foldl (ySp w r who) (S, z)).1 ∧ (p.foldl (ySp w r who) (yRe K S, z)).2 = (p.foldl (ySp w r who) (S, z)).2 := by
  intro p
  induction p with
  | nil => intro S z _; exact ⟨rfl, rfl⟩
  | cons f p ih =>
    intro S z h
    have hf := h f (List.mem_cons_self ..)
    rw [List.foldl_cons, List.foldl_cons]
    have e : ySp w r who (yRe K S, z) f = (yRe K (yGS w S f r), if (f : Int) = who then (yGl w S f (S 0 r) (S 1 r)).2.2.2.2.2.2.1 else z) := by
      unfold ySp
      dsimp only
      rw [yRe_gs hf, yRe_gl hf, yRe_n (f := 0) (by omega), yRe_n (f := 1) (by omega)]
    rw [e]
    exact ih (yGS w S f r) _ (fun g hg => by rw [yGS_5]; exact h g (List.mem_cons_of_mem _ hg))
theorem yRe_val {S : Nat → Nat → Nat} {r : Nat} {who : Int} {p : List Nat} (h : ∀ f, f ∈ p → f < S 5 0) : yVal w (yRe K S) r who p = yVal w S r who p := by
  obtain ⟨h1, h2⟩ := yRe_sp (w := w) (K := K) (r := r) (who := who) p S 0 h
  unfold yVal
  rw [h1, h2, yRe_gb]
theorem yBst_eq {v v' : List Nat → Int} : ∀ (l : List (List Nat)) (b : Option (List Nat × Int)), (∀ p, p ∈ l → v p = v' p) → yBst v l b = yBst v' l b := by
  intro l
  induction l with
  | nil => intro b _; cases b <;> rfl
  | cons p l ih =>
    intro b h
    have hp := h p (List.mem_cons_self ..)
    have ih := fun b => ih b (fun q hq => h q (List.mem_cons_of_mem _ hq))
    cases b with
    | none => rw [yBst, yBst, hp, ih]
    | some b =>
      obtain ⟨q, z⟩ := b
      rw [yBst, yBst, hp, ih]
theorem yRe_bo {S : Nat → Nat → Nat} {r : Nat} {who : Int} : yBO w (yRe K S) r who = yBO w S r who := by
  unfold yBO
  rw [yRe_n (f := 5) (by omega)]
  exact yBst_eq _ _ (fun p hp => yRe_val (yDf_mem (S 5 0) [] (by simp) (fun f hf => absurd hf (by simp)) p hp).2)
theorem yRe_first {S : Nat → Nat → Nat} {one row what : Int} : yFirst w (yRe K S) one row what = yFirst w S one row what := by
  unfold yFirst
  rw [yRe_bo, yRe_n (f := 5) (by omega)]
theorem yRe_fl {S : Nat → Nat → Nat} {r : Nat} : ∀ k, k ≤ S 5 0 → yFl w (yRe K S) r k = yFl w S r k := by
  intro k
  induction k with
  | zero => intro _; rfl
  | succ k ih => intro h; rw [yFl, yFl, ih (by omega), yRe_try (by omega)]
theorem yRe_bare {r : Nat} : ∀ (m i : Nat) (S : Nat → Nat → Nat), yBare w r m i (yRe K S) = yBare w r m i S := by
  intro m
  induction m with
  | zero => intro i S; rw [yBare, yBare, yRe_gb]
  | succ m ih => intro i S; rw [yBare, yBare, yRe_gb, yRe_day, ih]
theorem yRe_best {S : Nat → Nat → Nat} {row what : Int} : yBest w (yRe K S) row what = yBest w S row what := by
  unfold yBest
  rw [yRe_bo, yRe_n (f := 5) (by omega), yRe_fl _ (Nat.le_refl _), yRe_bare]
end
