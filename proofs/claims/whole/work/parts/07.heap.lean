/-! A run that doesn't read the script is the same for every script; the heap behind the two constructors. -/
def zF00 : zF := (0, 0, fun _ => 999, fun _ => 0, fun _ _ => none)
def zG00 : zG := (fun _ _ => 0, fun _ _ => 0)
/-- no script -/
def zx0 : zXs := (4000, fun _ => 0)
theorem zxt_any {x : zXs} {k : Nat} {q : Bool × Nat × (Nat → Int32)} (h : zxt zx0 k = some q) : zxt x k = some q := by
  unfold zxt at h ⊢
  split at h
  · rename_i h0
    rw [if_pos h0]
    exact h
  · rename_i h0
    rw [if_neg h0]
    split at h
    · rw [if_neg (by decide)] at h
      cases h
    · rename_i h1
      rw [if_neg h1]
      exact h
theorem zsi_any {x : zXs} {own : Nat} {LS : List Nat} {isI : Bool} {op : Instr} {len pc : Nat} {ls : zLs} {st : List Value} {F : zF} {G : zG} {q : zCf} (h : zsi zx0 own LS isI op len pc ls st F G = some q) : zsi x own LS isI op len pc ls st F G = some q := by
  cases op with
  | arraylength =>
    simp only [zsi] at h ⊢
    split at h
    · rename_i hl
      rw [if_pos hl]
      split at h
      · exact h
      · split at h
        · rename_i y hy
          rw [zxt_any (x := x) hy]
          exact h
        · cases h
      · cases h
    · cases h
  | iaload =>
    simp only [zsi] at h ⊢
    split at h
    · rename_i hl
      rw [if_pos hl]
      split at h
      · exact h
      · split at h
        · rename_i y hy
          rw [zxt_any (x := x) hy]
          exact h
        · cases h
      · cases h
    · cases h
  | baload =>
    simp only [zsi] at h ⊢
    split at h
    · rename_i hl
      rw [if_pos hl]
      split at h
      · exact h
      · split at h
        · rename_i y hy
          rw [zxt_any (x := x) hy]
          exact h
        · cases h
      · cases h
    · cases h
  | _ => exact h
theorem zev_any {x : zXs} : ∀ (n d M pc : Nat) (ls : zLs) (st : List Value) (F : zF) (G : zG) (o : Option Value × zF × zG), zev zx0 n d M pc ls st F G = some o → zev x n d M pc ls st F G = some o := by
  intro n
  induction n with
  | zero => intro d M pc ls st F G o h; unfold zev at h; cases h
  | succ n ih =>
    intro d M pc ls st F G o h
    unfold zev at h ⊢
    split at h
    · cases h
    · split at h
      · cases h
      · split at h
        · split at h
          · cases h
          · split at h
            · rename_i hlen
              rw [if_pos hlen]
              split at h
              · split at h
                · rename_i r F1 G1 hev
                  rw [ih _ _ _ _ _ _ _ _ hev]
                  exact ih _ _ _ _ _ _ _ _ h
                · cases h
              · cases h
            · cases h
        · split at h
          · exact h
          · split at h
            · rename_i pc1 ls1 st1 F1 G1 hsi
              rw [zsi_any (x := x) hsi]
              exact ih _ _ _ _ _ _ _ _ h
            · cases h
def zF1 : zF := znewF zF00 7 9
def zG1 : zG := znewG zF00 zG00
def zr1 : Option (Option Value × zF × zG) := zev zx0 6000 60 0 0 (zent 2 [.ref 0]) [] zF1 zG1
def zF2 : zF := (zr1.getD (none, zF00, zG00)).2.1
def zG2 : zG := (zr1.getD (none, zF00, zG00)).2.2
theorem zr1_ok : (zr1.map (fun q => q.1)) = some none := by decide +kernel
def zF3 : zF := znewF zF2 8 47
def zG3 : zG := znewG zF2 zG2
def zr2 : Option (Option Value × zF × zG) := zev zx0 6000 60 128 0 (zent 1 [.ref 59]) [] zF3 zG3
def zFz : zF := (zr2.getD (none, zF00, zG00)).2.1
def zGz : zG := (zr2.getD (none, zF00, zG00)).2.2
theorem zr2_ok : (zr2.map (fun q => q.1)) = some none := by decide +kernel
theorem zF2_n : zF2.1 = 59 ∧ zF2.2.1 ≤ 3000 := by decide +kernel
theorem zFz_n : zFz.1 = 81 ∧ zFz.2.1 ≤ 6000 := by decide +kernel
def zTsh : List (Nat × Nat) := [(7, 9), (4, 8), (100, 4), (100, 4), (100, 5), (100, 5), (100, 5), (4, 8), (100, 4), (100, 4), (100, 5), (100, 5), (100, 5), (4, 8), (100, 4), (100, 4), (100, 5), (100, 5), (100, 5), (0, 3), (2, 4), (102, 6), (100, 6), (100, 160), (6, 3), (100, 160), (100, 3), (6, 3), (100, 160), (100, 3), (6, 3), (100, 160), (100, 3), (6, 3), (100, 160), (100, 3), (6, 3), (100, 160), (100, 3), (6, 3), (100, 160), (100, 3), (100, 12), (1, 2), (100, 5), (5, 9), (100, 160), (6, 3), (100, 160), (100, 3), (103, 4), (3, 3), (100, 40), (3, 3), (100, 40), (3, 3), (100, 40), (3, 3), (100, 40), (8, 47), (100, 960), (100, 6), (100, 160), (100, 5), (100, 5), (100, 5), (100, 10), (100, 24), (100, 24), (100, 24), (100, 5), (100, 5), (100, 4), (100, 21), (100, 4), (100, 4), (100, 10), (101, 4), (100, 4), (100, 4), (100, 160)]
theorem zFz_sh : (List.range 81).map (fun a => (zsh zFz a, zln zFz a)) = zTsh := by decide +kernel
def zTrf : List ((Nat × Nat) × Nat) := [((0, 0), 1), ((0, 1), 7), ((0, 2), 13), ((0, 3), 19), ((0, 4), 20), ((0, 5), 43), ((0, 6), 45), ((0, 7), 50), ((1, 0), 2), ((1, 1), 3), ((1, 2), 4), ((1, 3), 5), ((1, 4), 6), ((7, 0), 8), ((7, 1), 9), ((7, 2), 10), ((7, 3), 11), ((7, 4), 12), ((13, 0), 14), ((13, 1), 15), ((13, 2), 16), ((13, 3), 17), ((13, 4), 18), ((19, 0), 20), ((19, 1), 42), ((20, 0), 21), ((20, 1), 22), ((20, 2), 23), ((21, 0), 24), ((21, 1), 27), ((21, 2), 30), ((21, 3), 33), ((21, 4), 36), ((21, 5), 39), ((24, 0), 25), ((24, 1), 26), ((27, 0), 28), ((27, 1), 29), ((30, 0), 31), ((30, 1), 32), ((33, 0), 34), ((33, 1), 35), ((36, 0), 37), ((36, 1), 38), ((39, 0), 40), ((39, 1), 41), ((43, 0), 44), ((45, 0), 46), ((45, 2), 47), ((47, 0), 48), ((47, 1), 49), ((50, 0), 51), ((50, 1), 53), ((50, 2), 55), ((50, 3), 57), ((51, 0), 52), ((53, 0), 54), ((55, 0), 56), ((57, 0), 58), ((59, 1), 60), ((59, 2), 61), ((59, 5), 62), ((59, 8), 63), ((59, 9), 64), ((59, 10), 65), ((59, 11), 66), ((59, 28), 67), ((59, 29), 68), ((59, 30), 69), ((59, 31), 70), ((59, 32), 71), ((59, 33), 72), ((59, 34), 73), ((59, 37), 74), ((59, 38), 75), ((59, 39), 76), ((59, 43), 77), ((59, 44), 78), ((59, 45), 79), ((59, 46), 80)]
theorem zFz_rf : zTrf.all (fun q => zrf zFz q.1.1 q.1.2 == some q.2) = true := by decide +kernel
/-- the shapes of the heap behind the constructors -/
def zSh (F : zF) : Prop := (∀ (a : Nat) (q : Nat × Nat), zTsh[a]? = some q → zsh F a = q.1 ∧ zln F a = q.2) ∧ ∀ (i : Nat) (q : (Nat × Nat) × Nat), zTrf[i]? = some q → zrf F q.1.1 q.1.2 = some q.2
theorem zSh_of {F : zF} (h1 : (List.range 81).map (fun a => (zsh F a, zln F a)) = zTsh) (h2 : zTrf.all (fun q => zrf F q.1.1 q.1.2 == some q.2) = true) : zSh F := by
  refine ⟨fun a q h => ?_, fun i q h => ?_⟩
  · rw [← h1, List.getElem?_map] at h
    cases hr : (List.range 81)[a]? with
    | none => rw [hr] at h; cases h
    | some b =>
      rw [hr, Option.map_some] at h
      have hb : b = a := by
        obtain ⟨h3, h2⟩ := List.getElem?_eq_some_iff.mp hr
        rw [List.getElem_range] at h2
        exact h2.symm
      subst hb
      have h9 := Option.some.inj h
      exact ⟨congrArg Prod.fst h9, congrArg Prod.snd h9⟩
  · exact beq_iff_eq.mp (List.all_eq_true.mp h2 _ (List.mem_of_getElem? h))
theorem zFz_ok : zSh zFz := zSh_of zFz_sh zFz_rf
theorem zsh_at {F : zF} (hF : zSh F) {a s n : Nat} (h : zTsh[a]? = some (s, n)) : zsh F a = s ∧ zln F a = n := hF.1 a _ h
theorem zrf_at {F : zF} (hF : zSh F) {i a k b : Nat} (h : zTrf[i]? = some ((a, k), b)) : zrf F a k = some b := hF.2 i _ h
/-- the three States, the seven Texts, the four Sheets -/
def zSt (b : Nat) : Prop := b = 1 ∨ b = 7 ∨ b = 13
def zTx (t : Nat) : Prop := t = 24 ∨ t = 27 ∨ t = 30 ∨ t = 33 ∨ t = 36 ∨ t = 39 ∨ t = 47
def zSt4 (t : Nat) : Prop := t = 51 ∨ t = 53 ∨ t = 55 ∨ t = 57
theorem zSt_f0 {F : zF} (hF : zSh F) {b : Nat} (h : zSt b) : zrf F b 0 = some (b + 1) := by
  rcases h with rfl | rfl | rfl
  · exact zrf_at hF (i := 8) rfl
  · exact zrf_at hF (i := 13) rfl
  · exact zrf_at hF (i := 18) rfl
theorem zSt_a0 {F : zF} (hF : zSh F) {b : Nat} (h : zSt b) : zsh F (b + 1) = 100 ∧ zln F (b + 1) = 4 := by
  rcases h with rfl | rfl | rfl
  · exact zsh_at hF rfl
  · exact zsh_at hF rfl
  · exact zsh_at hF rfl
theorem zSt_f1 {F : zF} (hF : zSh F) {b : Nat} (h : zSt b) : zrf F b 1 = some (b + 2) := by
  rcases h with rfl | rfl | rfl
  · exact zrf_at hF (i := 9) rfl
  · exact zrf_at hF (i := 14) rfl
  · exact zrf_at hF (i := 19) rfl
theorem zSt_a1 {F : zF} (hF : zSh F) {b : Nat} (h : zSt b) : zsh F (b + 2) = 100 ∧ zln F (b + 2) = 4 := by
  rcases h with rfl | rfl | rfl
  · exact zsh_at hF rfl
  · exact zsh_at hF rfl
  · exact zsh_at hF rfl
theorem zSt_f2 {F : zF} (hF : zSh F) {b : Nat} (h : zSt b) : zrf F b 2 = some (b + 3) := by
  rcases h with rfl | rfl | rfl
  · exact zrf_at hF (i := 10) rfl
  · exact zrf_at hF (i := 15) rfl
  · exact zrf_at hF (i := 20) rfl
theorem zSt_a2 {F : zF} (hF : zSh F) {b : Nat} (h : zSt b) : zsh F (b + 3) = 100 ∧ zln F (b + 3) = 5 := by
  rcases h with rfl | rfl | rfl
  · exact zsh_at hF rfl
  · exact zsh_at hF rfl
  · exact zsh_at hF rfl
theorem zSt_f3 {F : zF} (hF : zSh F) {b : Nat} (h : zSt b) : zrf F b 3 = some (b + 4) := by
  rcases h with rfl | rfl | rfl
  · exact zrf_at hF (i := 11) rfl
  · exact zrf_at hF (i := 16) rfl
  · exact zrf_at hF (i := 21) rfl
theorem zSt_a3 {F : zF} (hF : zSh F) {b : Nat} (h : zSt b) : zsh F (b + 4) = 100 ∧ zln F (b + 4) = 5 := by
  rcases h with rfl | rfl | rfl
  · exact zsh_at hF rfl
  · exact zsh_at hF rfl
  · exact zsh_at hF rfl
theorem zSt_f4 {F : zF} (hF : zSh F) {b : Nat} (h : zSt b) : zrf F b 4 = some (b + 5) := by
  rcases h with rfl | rfl | rfl
  · exact zrf_at hF (i := 12) rfl
  · exact zrf_at hF (i := 17) rfl
  · exact zrf_at hF (i := 22) rfl
theorem zSt_a4 {F : zF} (hF : zSh F) {b : Nat} (h : zSt b) : zsh F (b + 5) = 100 ∧ zln F (b + 5) = 5 := by
  rcases h with rfl | rfl | rfl
  · exact zsh_at hF rfl
  · exact zsh_at hF rfl
  · exact zsh_at hF rfl
theorem zSt_s {F : zF} (hF : zSh F) {b : Nat} (h : zSt b) : zsh F b = 4 ∧ zln F b = 8 := by
  rcases h with rfl | rfl | rfl
  · exact zsh_at hF rfl
  · exact zsh_at hF rfl
  · exact zsh_at hF rfl
theorem zTx_f0 {F : zF} (hF : zSh F) {b : Nat} (h : zTx b) : zrf F b 0 = some (b + 1) := by
  rcases h with rfl | rfl | rfl | rfl | rfl | rfl | rfl
  · exact zrf_at hF (i := 34) rfl
  · exact zrf_at hF (i := 36) rfl
  · exact zrf_at hF (i := 38) rfl
  · exact zrf_at hF (i := 40) rfl
  · exact zrf_at hF (i := 42) rfl
  · exact zrf_at hF (i := 44) rfl
  · exact zrf_at hF (i := 49) rfl
theorem zTx_a0 {F : zF} (hF : zSh F) {b : Nat} (h : zTx b) : zsh F (b + 1) = 100 ∧ zln F (b + 1) = 160 := by
  rcases h with rfl | rfl | rfl | rfl | rfl | rfl | rfl
  · exact zsh_at hF rfl
  · exact zsh_at hF rfl
  · exact zsh_at hF rfl
  · exact zsh_at hF rfl
  · exact zsh_at hF rfl
  · exact zsh_at hF rfl
  · exact zsh_at hF rfl
theorem zTx_f1 {F : zF} (hF : zSh F) {b : Nat} (h : zTx b) : zrf F b 1 = some (b + 2) := by
  rcases h with rfl | rfl | rfl | rfl | rfl | rfl | rfl
  · exact zrf_at hF (i := 35) rfl
  · exact zrf_at hF (i := 37) rfl
  · exact zrf_at hF (i := 39) rfl
  · exact zrf_at hF (i := 41) rfl
  · exact zrf_at hF (i := 43) rfl
  · exact zrf_at hF (i := 45) rfl
  · exact zrf_at hF (i := 50) rfl
theorem zTx_a1 {F : zF} (hF : zSh F) {b : Nat} (h : zTx b) : zsh F (b + 2) = 100 ∧ zln F (b + 2) = 3 := by
  rcases h with rfl | rfl | rfl | rfl | rfl | rfl | rfl
  · exact zsh_at hF rfl
  · exact zsh_at hF rfl
  · exact zsh_at hF rfl
  · exact zsh_at hF rfl
  · exact zsh_at hF rfl
  · exact zsh_at hF rfl
  · exact zsh_at hF rfl
theorem zTx_s {F : zF} (hF : zSh F) {b : Nat} (h : zTx b) : zsh F b = 6 ∧ zln F b = 3 := by
  rcases h with rfl | rfl | rfl | rfl | rfl | rfl | rfl
  · exact zsh_at hF rfl
  · exact zsh_at hF rfl
  · exact zsh_at hF rfl
  · exact zsh_at hF rfl
  · exact zsh_at hF rfl
  · exact zsh_at hF rfl
  · exact zsh_at hF rfl
theorem zSt4_f0 {F : zF} (hF : zSh F) {b : Nat} (h : zSt4 b) : zrf F b 0 = some (b + 1) := by
  rcases h with rfl | rfl | rfl | rfl
  · exact zrf_at hF (i := 55) rfl
  · exact zrf_at hF (i := 56) rfl
  · exact zrf_at hF (i := 57) rfl
  · exact zrf_at hF (i := 58) rfl
theorem zSt4_a0 {F : zF} (hF : zSh F) {b : Nat} (h : zSt4 b) : zsh F (b + 1) = 100 ∧ zln F (b + 1) = 40 := by
  rcases h with rfl | rfl | rfl | rfl
  · exact zsh_at hF rfl
  · exact zsh_at hF rfl
  · exact zsh_at hF rfl
  · exact zsh_at hF rfl
theorem zSt4_s {F : zF} (hF : zSh F) {b : Nat} (h : zSt4 b) : zsh F b = 3 ∧ zln F b = 3 := by
  rcases h with rfl | rfl | rfl | rfl
  · exact zsh_at hF rfl
  · exact zsh_at hF rfl
  · exact zsh_at hF rfl
  · exact zsh_at hF rfl
