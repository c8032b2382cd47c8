/-! The law: its start -/
theorem zRel_0 : zRel zGz.1 := by
  have ta := zGz_t
  have ca := zGz_c
  generalize zGz.1 = V0 at *
  obtain ⟨t1, t2⟩ := ta
  obtain ⟨c1, c2, c3, c4⟩ := ca
  simp only [List.all_eq_true, List.mem_range, Bool.and_eq_true, beq_iff_eq] at t1 t2 c1 c2 c3 c4
  have g := fun a k v (h : (a, k, v) ∈ ([(20, 3, 1), (26, 0, 1), (26, 1, 2), (26, 2, 3), (25, 0, 0), (25, 1, 150), (25, 2, 100), (61, 0, 40), (59, 3, 1), (59, 6, 0), (45, 1, 0)] : List (Nat × Nat × Nat))) => t1 (a, k, v) h
  have hR : zRu V0 1 zW0 := zRu_0 (g 20 3 1 (by decide)) ⟨g 26 0 1 (by decide), g 26 1 2 (by decide), g 26 2 3 (by decide)⟩ ⟨g 25 0 0 (by decide), g 25 1 150 (by decide), g 25 2 100 (by decide)⟩
  have hT : zRt V0 1 zW0 := zRt_0 (g 61 0 40 (by decide)) t2
  have hre : yRe (fun _ => 0) (fun _ _ => 0) = fun _ _ => 0 := by
    funext f i
    unfold yRe
    split <;> rfl
  have h5a := c3 0 (by omega)
  have h5b := c3 1 (by omega)
  have h5c := c3 2 (by omega)
  refine ⟨fun _ => 0, fun _ _ => 0, 1, zW0, fun _ => 0, 0, fun _ => (-1, 0, fun _ => 0), False, fun _ _ => 0, ⟨?_, hR, ?_, ?_, ?_, ?_⟩, ?_, ?_⟩
  · exact ⟨fun i hi => (c1 i hi).1.1.1.1.1.1, fun i hi => (c1 i hi).1.1.1.1.1.2, fun i hi => (c2 i hi).1.1.1.1.1.1.1.1.1.1, fun i hi => (c2 i hi).1.1.1.1.1.1.1.1.1.2, fun i hi => (c2 i hi).1.1.1.1.1.1.1.1.2, h5a.1, h5b.1, h5c.1⟩
  · exact ⟨g 45 1 0 (by decide), by omega, fun i hi => absurd hi (Nat.not_lt_zero _)⟩
  · intro s hs
    exact ⟨(c1 s hs).1.1.2, (c1 s hs).1.2, fun i hi => absurd hi (Nat.not_lt_zero _)⟩
  · exact ⟨fun i hi => (c1 i hi).1.1.1.1.2, fun i hi => (c1 i hi).1.1.1.2, fun i hi => (c2 i hi).1.1.1.1.1.1.1.2, fun i hi => (c2 i hi).1.1.1.1.1.1.2, fun i hi => (c2 i hi).1.1.1.1.1.2, h5a.2, h5b.2, h5c.2⟩
  · exact ⟨fun h => h.elim, fun h => h (c4.2.trans rfl)⟩
  · rw [hre]
    refine ⟨?_, hT, g 59 3 1 (by decide), ?_, ?_, fun h => h.elim, ⟨fun h => h.elim, fun h => h c4.1.2⟩⟩
    · exact ⟨fun i hi => (c2 i hi).1.1.1.2, fun i hi => (c2 i hi).1.1.1.1.2, fun i hi => (c2 i hi).1.1.2, fun i hi => (c2 i hi).1.2, fun i hi => (c2 i hi).2, c4.1.1.1.1, c4.1.1.1.2, c4.1.1.2⟩
    · exact ⟨g 59 6 0 (by decide), by omega, fun i hi => absurd hi (Nat.not_lt_zero _)⟩
    · intro s hs
      exact ⟨(c1 s hs).2, fun h => absurd rfl h⟩
  · refine ⟨⟨fun i hi => ⟨by first | decide | (dsimp only; omega) | omega, Nat.one_pos⟩, fun i hi => ⟨by first | decide | (dsimp only; omega) | omega, by first | decide | (dsimp only; omega) | omega, by first | decide | (dsimp only; omega) | omega⟩, by first | decide | (dsimp only; omega) | omega, by first | decide | (dsimp only; omega) | omega, by first | decide | (dsimp only; omega) | omega⟩, by first | decide | (dsimp only; omega) | omega, by first | decide | (dsimp only; omega) | omega, fun i hi => by first | decide | (dsimp only; omega) | omega, fun s hs => ⟨⟨by first | decide | (dsimp only; omega) | omega, by first | decide | (dsimp only; omega) | omega⟩, by first | decide | (dsimp only; omega) | omega⟩, fun h => h.elim⟩
/-- more depth, the same -/
theorem zev_deep {x : zXs} : ∀ (n d M pc : Nat) (ls : zLs) (st : List Value) (F : zF) (G : zG) (o : Option Value × zF × zG), zev x n d M pc ls st F G = some o → zev x n (d + 1) M pc ls st F G = some o := by
  intro n
  induction n with
  | zero => intro d M pc ls st F G o h; unfold zev at h; cases h
  | succ n ih =>
    intro d M pc ls st F G o h
    rw [zev] at h ⊢
    split at h
    · cases h
    · split at h
      · cases h
      · split at h
        · split at h
          · cases h
          · split at h
            · rename_i hlen
              rw [if_pos hlen]
              split at h
              · split at h
                · rename_i r F1 G1 hev
                  rw [ih _ _ _ _ _ _ _ _ hev]
                  exact ih _ _ _ _ _ _ _ _ h
                · cases h
              · cases h
            · cases h
        · split at h
          · exact h
          · split at h
            · exact ih _ _ _ _ _ _ _ _ h
            · cases h
theorem zev_dk {x : zXs} {n d M pc : Nat} {ls : zLs} {st : List Value} {F : zF} {G : zG} {o : Option Value × zF × zG} (h : zev x n d M pc ls st F G = some o) : ∀ k, zev x n (d + k) M pc ls st F G = some o := by
  intro k
  induction k with
  | zero => exact h
  | succ k ih => exact zev_deep _ _ _ _ _ _ _ _ _ ih
theorem zv_si {x : zXs} {n d M pc : Nat} {ls : zLs} {st : List Value} {F : zF} {G : zG} {o : Option Value × zF × zG} {op : Instr} {len pc1 : Nat} {ls1 : zLs} {st1 : List Value} {F1 : zF} {G1 : zG} {mi : zE} (hm : zm M = some mi) (hop : zop M pc = some (op, len)) (hc : zck mi.1 op = none) (hr : zrt mi op len st = none) (hs : zsi x mi.1 mi.2.2.2.2.2.2.2.1 (mi.2.1.name == "<init>") op len pc ls st F G = some (pc1, ls1, st1, F1, G1)) (h : zev x n d M pc1 ls1 st1 F1 G1 = some o) : zev x (n + 1) d M pc ls st F G = some o := by
  rw [zev, hm]
  dsimp only
  rw [hop]
  dsimp only
  rw [hc]
  dsimp only
  rw [hr]
  dsimp only
  rw [hs]
  exact h
theorem zv_call {x : zXs} {n d M pc : Nat} {ls : zLs} {st : List Value} {F : zF} {G : zG} {o : Option Value × zF × zG} {op : Instr} {q : Nat × Nat × Nat × Bool × Nat} {mi mj : zE} {as rest : List Value} {r : Option Value} {F1 : zF} {G1 : zG} (hm : zm M = some mi) (hop : zop M pc = some (op, 3)) (hc : zck mi.1 op = some q) (hz : zca F q.2.2.1 (zway op) st = some (mj, as, rest)) (h1 : zev x n d q.2.2.1 0 (zent mj.2.2.2.1 as) [] F G = some (r, F1, G1)) (h2 : zev x n (d + 1) M (pc + 3) ls (r.toList ++ rest) F1 G1 = some o) : zev x (n + 1) (d + 1) M pc ls st F G = some o := by
  rw [zev, hm]
  dsimp only
  rw [hop]
  dsimp only
  rw [hc]
  dsimp only
  rw [if_pos rfl, hz]
  dsimp only
  rw [h1]
  exact h2
