/-! The evaluator comes to an end with Q: one rule an instruction. -/
def E (x : zXs) (F : zF) (d M pc : Nat) (ls : zLs) (st : List Value) (G : zG) (Q : Option Value → zG → Prop) : Prop := ∃ n r G', zev x n d M pc ls st F G = some (r, F, G') ∧ Q r G'
def zow (M : Nat) : Nat := match zm M with
  | some mi => mi.1
  | none => 999
def zms (M : Nat) : Option (Nat × Nat × Bool × Nat × List Nat × Bool × Option FieldType) := match zm M with
  | some mi => some (mi.1, mi.2.2.2.1, mi.2.2.2.2.2.1, mi.2.2.2.2.2.2.1, mi.2.2.2.2.2.2.2.1, mi.2.1.name == "<init>", mi.2.2.2.2.1)
  | none => none
theorem zop_mi {M pc : Nat} {q : Instr × Nat} (h : zop M pc = some q) : ∃ mi, zm M = some mi := by
  unfold zop at h
  split at h
  · cases h
  · rename_i mi hm
    exact ⟨mi, hm⟩
theorem zow_mi {M : Nat} {mi : zE} (h : zm M = some mi) : zow M = mi.1 := by unfold zow; rw [h]
theorem zms_mi {M : Nat} {o l n : Nat} {s i : Bool} {LS : List Nat} {rt : Option FieldType} (h : zms M = some (o, l, s, n, LS, i, rt)) : ∃ mi, zm M = some mi ∧ mi.1 = o ∧ mi.2.2.2.1 = l ∧ mi.2.2.2.2.2.1 = s ∧ mi.2.2.2.2.2.2.1 = n ∧ mi.2.2.2.2.2.2.2.1 = LS ∧ (mi.2.1.name == "<init>") = i ∧ mi.2.2.2.2.1 = rt := by
  unfold zms at h
  split at h
  · rename_i mi hm
    have h9 := Option.some.inj h
    simp only [Prod.mk.injEq] at h9
    exact ⟨mi, hm, h9⟩
  · cases h
/-- more fuel, the same -/
theorem zev_more {x : zXs} : ∀ (n d M pc : Nat) (ls : zLs) (st : List Value) (F : zF) (G : zG) (o : Option Value × zF × zG), zev x n d M pc ls st F G = some o → zev x (n + 1) d M pc ls st F G = some o := by
  intro n
  induction n with
  | zero => intro d M pc ls st F G o h; unfold zev at h; cases h
  | succ n ih =>
    intro d M pc ls st F G o h
    rw [zev] at h ⊢
    split at h
    · cases h
    · split at h
      · cases h
      · split at h
        · split at h
          · cases h
          · split at h
            · rename_i hlen
              rw [if_pos hlen]
              split at h
              · split at h
                · rename_i r F1 G1 hev
                  rw [ih _ _ _ _ _ _ _ _ hev]
                  exact ih _ _ _ _ _ _ _ _ h
                · cases h
              · cases h
            · cases h
        · split at h
          · exact h
          · split at h
            · exact ih _ _ _ _ _ _ _ _ h
            · cases h
theorem zev_le {x : zXs} {n k d M pc : Nat} {ls : zLs} {st : List Value} {F : zF} {G : zG} {o : Option Value × zF × zG} (h : zev x n d M pc ls st F G = some o) (hk : n ≤ k) : zev x k d M pc ls st F G = some o := by
  induction hk with
  | refl => exact h
  | step _ ih => exact zev_more _ _ _ _ _ _ _ _ _ ih
section ER
variable {x : zXs} {F : zF} {d M pc : Nat} {ls : zLs} {st : List Value} {G : zG} {Q : Option Value → zG → Prop}
theorem E_si {op : Instr} {len pc1 : Nat} {ls1 : zLs} {st1 : List Value} {G1 : zG} {mi : zE} (hm : zm M = some mi) (hop : zop M pc = some (op, len)) (hc : zck mi.1 op = none) (hr : zrt mi op len st = none) (hs : zsi x mi.1 mi.2.2.2.2.2.2.2.1 (mi.2.1.name == "<init>") op len pc ls st F G = some (pc1, ls1, st1, F, G1)) (k : E x F d M pc1 ls1 st1 G1 Q) : E x F d M pc ls st G Q := by
  obtain ⟨n, r, G', h, hq⟩ := k
  refine ⟨n + 1, r, G', ?_, hq⟩
  rw [zev, hm]
  dsimp only
  rw [hop]
  dsimp only
  rw [hc]
  dsimp only
  rw [hr]
  dsimp only
  rw [hs]
  exact h
theorem E_ret {op : Instr} {len : Nat} {mi : zE} {r : Option Value} (hm : zm M = some mi) (hop : zop M pc = some (op, len)) (hc : zck mi.1 op = none) (hr : zrt mi op len st = some r) (k : Q r G) : E x F d M pc ls st G Q := by
  refine ⟨1, r, G, ?_, k⟩
  rw [zev, hm]
  dsimp only
  rw [hop]
  dsimp only
  rw [hc]
  dsimp only
  rw [hr]
theorem E_call {op : Instr} {mi mj : zE} {q : Nat × Nat × Nat × Bool × Nat} {as rest : List Value} (hm : zm M = some mi) (hop : zop M pc = some (op, 3)) (hc : zck mi.1 op = some q) (hca : zca F q.2.2.1 (zway op) st = some (mj, as, rest)) (k : E x F d q.2.2.1 0 (zent mj.2.2.2.1 as) [] G (fun r G' => E x F (d + 1) M (pc + 3) ls (r.toList ++ rest) G' Q)) : E x F (d + 1) M pc ls st G Q := by
  obtain ⟨n, r, G', h, n2, r2, G2, h2, hq⟩ := k
  refine ⟨(n + n2) + 1, r2, G2, ?_, hq⟩
  rw [zev, hm]
  dsimp only
  rw [hop]
  dsimp only
  rw [hc]
  dsimp only
  rw [if_pos rfl, hca]
  dsimp only
  rw [zev_le h (Nat.le_add_right n n2)]
  exact zev_le h2 (Nat.le_add_left n2 n)
theorem e_iconst {n : Int} (h : zop M pc = some (.iconst n, 1)) (k : E x F d M (pc + 1) ls (.int (Int32.ofInt n) :: st) G Q) : E x F d M pc ls st G Q := by
  obtain ⟨mi, hm⟩ := zop_mi h
  exact E_si hm h rfl rfl rfl k
theorem e_bipush {n : Int} {v : Int32} (h : zop M pc = some (.bipush n, 2)) (hv : (Int8.ofInt n).toInt32 = v) (k : E x F d M (pc + 2) ls (.int v :: st) G Q) : E x F d M pc ls st G Q := by
  subst hv
  obtain ⟨mi, hm⟩ := zop_mi h
  exact E_si hm h rfl rfl rfl k
theorem e_sipush {n : Int} {v : Int32} (h : zop M pc = some (.sipush n, 3)) (hv : (Int16.ofInt n).toInt32 = v) (k : E x F d M (pc + 3) ls (.int v :: st) G Q) : E x F d M pc ls st G Q := by
  subst hv
  obtain ⟨mi, hm⟩ := zop_mi h
  exact E_si hm h rfl rfl rfl k
theorem e_lconst {n : Fin 2} {v : Int64} (h : zop M pc = some (.lconst n, 1)) (hv : Int64.ofNat (n : Nat) = v) (k : E x F d M (pc + 1) ls (.long v :: st) G Q) : E x F d M pc ls st G Q := by
  subst hv
  obtain ⟨mi, hm⟩ := zop_mi h
  exact E_si hm h rfl rfl rfl k
theorem e_ldc {own idx w : Nat} {v : Int32} (h : zop M pc = some (.ldc idx, 2)) (ho : zow M = own) (hn : znum own idx = some (own, idx, v, w)) (k : E x F d M (pc + 2) ls (.int v :: st) G Q) : E x F d M pc ls st G Q := by
  obtain ⟨mi, hm⟩ := zop_mi h
  rw [zow_mi hm] at ho
  subst ho
  exact E_si hm h rfl rfl (by simp only [zsi, hn, if_true]; rfl) k
theorem e_ldcs {own idx kk : Nat} (h : zop M pc = some (.ldc idx, 2)) (ho : zow M = own) (hn : znum own idx = none) (hs : zstr own idx = some kk) (k : E x F d M (pc + 2) ls (.float (UInt32.ofNat kk) :: st) G Q) : E x F d M pc ls st G Q := by
  obtain ⟨mi, hm⟩ := zop_mi h
  rw [zow_mi hm] at ho
  subst ho
  exact E_si hm h rfl rfl (by simp only [zsi, hn, hs, if_true]) k
theorem e_ldcw {own idx w : Nat} {v : Int32} (h : zop M pc = some (.ldc_w idx, 3)) (ho : zow M = own) (hn : znum own idx = some (own, idx, v, w)) (k : E x F d M (pc + 3) ls (.int v :: st) G Q) : E x F d M pc ls st G Q := by
  obtain ⟨mi, hm⟩ := zop_mi h
  rw [zow_mi hm] at ho
  subst ho
  exact E_si hm h rfl rfl (by simp only [zsi, hn, if_true]; rfl) k
theorem e_ldc2 {own idx w : Nat} {v : Int64} (h : zop M pc = some (.ldc2_w idx, 3)) (ho : zow M = own) (hn : zlng own idx = some (own, idx, v, w)) (k : E x F d M (pc + 3) ls (.long v :: st) G Q) : E x F d M pc ls st G Q := by
  obtain ⟨mi, hm⟩ := zop_mi h
  rw [zow_mi hm] at ho
  subst ho
  exact E_si hm h rfl rfl (by simp only [zsi, hn, if_true]) k
theorem z_ld {i n : Nat} {ok : Value → Bool} {v : Value} (hv : zgt ls i = some v) (ho : ok v = true) : zld i ok n ls st F G = some (n, ls, v :: st, F, G) := by
  unfold zld
  rw [hv]
  dsimp only
  rw [if_pos ho]
theorem e_iload {i : Nat} {v : Int32} (h : zop M pc = some (.iload i, 2)) (hv : zgt ls i = some (.int v)) (k : E x F d M (pc + 2) ls (.int v :: st) G Q) : E x F d M pc ls st G Q := by
  obtain ⟨mi, hm⟩ := zop_mi h
  exact E_si hm h rfl rfl (by simp only [zsi, if_true]; exact z_ld hv rfl) k
theorem e_iload_n {i : Fin 4} {v : Int32} (h : zop M pc = some (.iload_n i, 1)) (hv : zgt ls (i : Nat) = some (.int v)) (k : E x F d M (pc + 1) ls (.int v :: st) G Q) : E x F d M pc ls st G Q := by
  obtain ⟨mi, hm⟩ := zop_mi h
  exact E_si hm h rfl rfl (by simp only [zsi, if_true]; exact z_ld hv rfl) k
theorem e_lload {i : Nat} {v : Int64} (h : zop M pc = some (.lload i, 2)) (hv : zgt ls i = some (.long v)) (k : E x F d M (pc + 2) ls (.long v :: st) G Q) : E x F d M pc ls st G Q := by
  obtain ⟨mi, hm⟩ := zop_mi h
  exact E_si hm h rfl rfl (by simp only [zsi, if_true]; exact z_ld hv rfl) k
theorem e_lload_n {i : Fin 4} {v : Int64} (h : zop M pc = some (.lload_n i, 1)) (hv : zgt ls (i : Nat) = some (.long v)) (k : E x F d M (pc + 1) ls (.long v :: st) G Q) : E x F d M pc ls st G Q := by
  obtain ⟨mi, hm⟩ := zop_mi h
  exact E_si hm h rfl rfl (by simp only [zsi, if_true]; exact z_ld hv rfl) k
theorem e_aload {i : Nat} {v : Value} (h : zop M pc = some (.aload i, 2)) (hv : zgt ls i = some v) (hr : zisr v = true) (k : E x F d M (pc + 2) ls (v :: st) G Q) : E x F d M pc ls st G Q := by
  obtain ⟨mi, hm⟩ := zop_mi h
  exact E_si hm h rfl rfl (by simp only [zsi, if_true]; exact z_ld hv hr) k
theorem e_aload_n {i : Fin 4} {v : Value} (h : zop M pc = some (.aload_n i, 1)) (hv : zgt ls (i : Nat) = some v) (hr : zisr v = true) (k : E x F d M (pc + 1) ls (v :: st) G Q) : E x F d M pc ls st G Q := by
  obtain ⟨mi, hm⟩ := zop_mi h
  exact E_si hm h rfl rfl (by simp only [zsi, if_true]; exact z_ld hv hr) k
/-- the places that hold longs keep away -/
def zaw (M i : Nat) : Bool := match zms M with
  | some q => decide (∀ j ∈ q.2.2.2.2.1, j + 1 ≠ i ∧ j ≠ i)
  | none => false
def zaw2 (M i : Nat) : Bool := match zms M with
  | some q => decide (i ∈ q.2.2.2.2.1 ∧ ∀ j ∈ q.2.2.2.2.1, j + 1 ≠ i ∧ j ≠ i + 1)
  | none => false
theorem zaw_mi {i : Nat} {mi : zE} (hm : zm M = some mi) (h : zaw M i = true) : ∀ j ∈ mi.2.2.2.2.2.2.2.1, j + 1 ≠ i ∧ j ≠ i := by
  unfold zaw zms at h
  rw [hm] at h
  exact of_decide_eq_true h
theorem zaw2_mi {i : Nat} {mi : zE} (hm : zm M = some mi) (h : zaw2 M i = true) : i ∈ mi.2.2.2.2.2.2.2.1 ∧ ∀ j ∈ mi.2.2.2.2.2.2.2.1, j + 1 ≠ i ∧ j ≠ i + 1 := by
  unfold zaw2 zms at h
  rw [hm] at h
  exact of_decide_eq_true h
theorem z_st1 {i n : Nat} {ok : Value → Bool} {v : Value} {LS : List Nat} (ho : ok v = true) (hi : i < ls.length) (hl : ∀ j ∈ LS, j + 1 ≠ i ∧ j ≠ i) : zst1 i ok LS n ls (v :: st) F G = some (n, ls.set i (some v), st, F, G) := by
  unfold zst1
  dsimp only
  rw [if_pos ⟨ho, hi, hl⟩]
theorem z_st2 {i n : Nat} {v : Int64} {LS : List Nat} (hi : i + 1 < ls.length) (hl : i ∈ LS ∧ ∀ j ∈ LS, j + 1 ≠ i ∧ j ≠ i + 1) : zst2 i LS n ls (.long v :: st) F G = some (n, (ls.set i (some (.long v))).set (i + 1) none, st, F, G) := by
  unfold zst2
  dsimp only
  rw [if_pos ⟨hi, hl⟩]
theorem e_istore {i : Nat} {v : Int32} (h : zop M pc = some (.istore i, 2)) (hw : zaw M i = true) (hi : i < ls.length) (k : E x F d M (pc + 2) (ls.set i (some (.int v))) st G Q) : E x F d M pc ls (.int v :: st) G Q := by
  obtain ⟨mi, hm⟩ := zop_mi h
  exact E_si hm h rfl rfl (by simp only [zsi, if_true]; exact z_st1 rfl hi (zaw_mi hm hw)) k
theorem e_istore_n {i : Fin 4} {v : Int32} (h : zop M pc = some (.istore_n i, 1)) (hw : zaw M (i : Nat) = true) (hi : (i : Nat) < ls.length) (k : E x F d M (pc + 1) (ls.set (i : Nat) (some (.int v))) st G Q) : E x F d M pc ls (.int v :: st) G Q := by
  obtain ⟨mi, hm⟩ := zop_mi h
  exact E_si hm h rfl rfl (by simp only [zsi, if_true]; exact z_st1 rfl hi (zaw_mi hm hw)) k
theorem e_astore {i : Nat} {v : Value} (h : zop M pc = some (.astore i, 2)) (hr : zisr v = true) (hw : zaw M i = true) (hi : i < ls.length) (k : E x F d M (pc + 2) (ls.set i (some v)) st G Q) : E x F d M pc ls (v :: st) G Q := by
  obtain ⟨mi, hm⟩ := zop_mi h
  exact E_si hm h rfl (by cases v <;> rfl) (by simp only [zsi, if_true]; exact z_st1 hr hi (zaw_mi hm hw)) k
theorem e_astore_n {i : Fin 4} {v : Value} (h : zop M pc = some (.astore_n i, 1)) (hr : zisr v = true) (hw : zaw M (i : Nat) = true) (hi : (i : Nat) < ls.length) (k : E x F d M (pc + 1) (ls.set (i : Nat) (some v)) st G Q) : E x F d M pc ls (v :: st) G Q := by
  obtain ⟨mi, hm⟩ := zop_mi h
  exact E_si hm h rfl (by cases v <;> rfl) (by simp only [zsi, if_true]; exact z_st1 hr hi (zaw_mi hm hw)) k
theorem e_lstore {i : Nat} {v : Int64} (h : zop M pc = some (.lstore i, 2)) (hw : zaw2 M i = true) (hi : i + 1 < ls.length) (k : E x F d M (pc + 2) ((ls.set i (some (.long v))).set (i + 1) none) st G Q) : E x F d M pc ls (.long v :: st) G Q := by
  obtain ⟨mi, hm⟩ := zop_mi h
  exact E_si hm h rfl rfl (by simp only [zsi, if_true]; exact z_st2 hi (zaw2_mi hm hw)) k
theorem e_lstore_n {i : Fin 4} {v : Int64} (h : zop M pc = some (.lstore_n i, 1)) (hw : zaw2 M (i : Nat) = true) (hi : (i : Nat) + 1 < ls.length) (k : E x F d M (pc + 1) ((ls.set (i : Nat) (some (.long v))).set ((i : Nat) + 1) none) st G Q) : E x F d M pc ls (.long v :: st) G Q := by
  obtain ⟨mi, hm⟩ := zop_mi h
  exact E_si hm h rfl rfl (by simp only [zsi, if_true]; exact z_st2 hi (zaw2_mi hm hw)) k
theorem e_iinc {i : Nat} {n : Int} {v : Int32} (h : zop M pc = some (.iinc i n, 3)) (hv : zgt ls i = some (.int v)) (hw : zaw M i = true) (k : E x F d M (pc + 3) (ls.set i (some (.int (v + Int32.ofInt n)))) st G Q) : E x F d M pc ls st G Q := by
  obtain ⟨mi, hm⟩ := zop_mi h
  refine E_si hm h rfl rfl ?_ k
  simp only [zsi, if_true, hv]
  rw [if_pos ⟨zgt_lt hv, zaw_mi hm hw⟩]
theorem e_iadd {a b : Int32} (h : zop M pc = some (.iadd, 1)) (k : E x F d M (pc + 1) ls (.int (a + b) :: st) G Q) : E x F d M pc ls (.int b :: .int a :: st) G Q := by
  obtain ⟨mi, hm⟩ := zop_mi h
  exact E_si hm h rfl rfl (rfl) k
theorem e_isub {a b : Int32} (h : zop M pc = some (.isub, 1)) (k : E x F d M (pc + 1) ls (.int (a - b) :: st) G Q) : E x F d M pc ls (.int b :: .int a :: st) G Q := by
  obtain ⟨mi, hm⟩ := zop_mi h
  exact E_si hm h rfl rfl (rfl) k
theorem e_imul {a b : Int32} (h : zop M pc = some (.imul, 1)) (k : E x F d M (pc + 1) ls (.int (a * b) :: st) G Q) : E x F d M pc ls (.int b :: .int a :: st) G Q := by
  obtain ⟨mi, hm⟩ := zop_mi h
  exact E_si hm h rfl rfl (rfl) k
theorem e_iand {a b : Int32} (h : zop M pc = some (.iand, 1)) (k : E x F d M (pc + 1) ls (.int (a &&& b) :: st) G Q) : E x F d M pc ls (.int b :: .int a :: st) G Q := by
  obtain ⟨mi, hm⟩ := zop_mi h
  exact E_si hm h rfl rfl (rfl) k
theorem e_ior {a b : Int32} (h : zop M pc = some (.ior, 1)) (k : E x F d M (pc + 1) ls (.int (a ||| b) :: st) G Q) : E x F d M pc ls (.int b :: .int a :: st) G Q := by
  obtain ⟨mi, hm⟩ := zop_mi h
  exact E_si hm h rfl rfl (rfl) k
theorem e_ixor {a b : Int32} (h : zop M pc = some (.ixor, 1)) (k : E x F d M (pc + 1) ls (.int (a ^^^ b) :: st) G Q) : E x F d M pc ls (.int b :: .int a :: st) G Q := by
  obtain ⟨mi, hm⟩ := zop_mi h
  exact E_si hm h rfl rfl (rfl) k
theorem e_ishl {a b : Int32} (h : zop M pc = some (.ishl, 1)) (k : E x F d M (pc + 1) ls (.int (a <<< (b &&& 31)) :: st) G Q) : E x F d M pc ls (.int b :: .int a :: st) G Q := by
  obtain ⟨mi, hm⟩ := zop_mi h
  exact E_si hm h rfl rfl (rfl) k
theorem e_ishr {a b : Int32} (h : zop M pc = some (.ishr, 1)) (k : E x F d M (pc + 1) ls (.int (a >>> (b &&& 31)) :: st) G Q) : E x F d M pc ls (.int b :: .int a :: st) G Q := by
  obtain ⟨mi, hm⟩ := zop_mi h
  exact E_si hm h rfl rfl (rfl) k
theorem e_iushr {a b : Int32} (h : zop M pc = some (.iushr, 1)) (k : E x F d M (pc + 1) ls (.int ((a.toUInt32 >>> (b.toUInt32 &&& Int32.toUInt32 31)).toInt32) :: st) G Q) : E x F d M pc ls (.int b :: .int a :: st) G Q := by
  obtain ⟨mi, hm⟩ := zop_mi h
  exact E_si hm h rfl rfl (rfl) k
theorem e_idiv {a b : Int32} (h : zop M pc = some (.idiv, 1)) (hb : ¬ b = 0) (k : E x F d M (pc + 1) ls (.int (a / b) :: st) G Q) : E x F d M pc ls (.int b :: .int a :: st) G Q := by
  obtain ⟨mi, hm⟩ := zop_mi h
  exact E_si hm h rfl rfl (by simp only [zsi, if_true, zbin, if_neg hb]) k
theorem e_irem {a b : Int32} (h : zop M pc = some (.irem, 1)) (hb : ¬ b = 0) (k : E x F d M (pc + 1) ls (.int (a - a / b * b) :: st) G Q) : E x F d M pc ls (.int b :: .int a :: st) G Q := by
  obtain ⟨mi, hm⟩ := zop_mi h
  exact E_si hm h rfl rfl (by simp only [zsi, if_true, zbin, if_neg hb]) k
theorem e_ineg {a : Int32} (h : zop M pc = some (.ineg, 1)) (k : E x F d M (pc + 1) ls (.int (-a) :: st) G Q) : E x F d M pc ls (.int a :: st) G Q := by
  obtain ⟨mi, hm⟩ := zop_mi h
  exact E_si hm h rfl rfl (rfl) k
theorem e_i2l {a : Int32} (h : zop M pc = some (.i2l, 1)) (k : E x F d M (pc + 1) ls (.long a.toInt64 :: st) G Q) : E x F d M pc ls (.int a :: st) G Q := by
  obtain ⟨mi, hm⟩ := zop_mi h
  exact E_si hm h rfl rfl (rfl) k
theorem e_i2b {a : Int32} (h : zop M pc = some (.i2b, 1)) (k : E x F d M (pc + 1) ls (.int a.toInt8.toInt32 :: st) G Q) : E x F d M pc ls (.int a :: st) G Q := by
  obtain ⟨mi, hm⟩ := zop_mi h
  exact E_si hm h rfl rfl (rfl) k
theorem e_i2s {a : Int32} (h : zop M pc = some (.i2s, 1)) (k : E x F d M (pc + 1) ls (.int a.toInt16.toInt32 :: st) G Q) : E x F d M pc ls (.int a :: st) G Q := by
  obtain ⟨mi, hm⟩ := zop_mi h
  exact E_si hm h rfl rfl (rfl) k
theorem e_i2c {a : Int32} (h : zop M pc = some (.i2c, 1)) (k : E x F d M (pc + 1) ls (.int (a.toUInt32 % 65536).toInt32 :: st) G Q) : E x F d M pc ls (.int a :: st) G Q := by
  obtain ⟨mi, hm⟩ := zop_mi h
  exact E_si hm h rfl rfl (rfl) k
theorem e_l2i {a : Int64} (h : zop M pc = some (.l2i, 1)) (k : E x F d M (pc + 1) ls (.int a.toInt32 :: st) G Q) : E x F d M pc ls (.long a :: st) G Q := by
  obtain ⟨mi, hm⟩ := zop_mi h
  exact E_si hm h rfl rfl (rfl) k
theorem e_ladd {a b : Int64} (h : zop M pc = some (.ladd, 1)) (k : E x F d M (pc + 1) ls (.long (a + b) :: st) G Q) : E x F d M pc ls (.long b :: .long a :: st) G Q := by
  obtain ⟨mi, hm⟩ := zop_mi h
  exact E_si hm h rfl rfl (rfl) k
theorem e_lsub {a b : Int64} (h : zop M pc = some (.lsub, 1)) (k : E x F d M (pc + 1) ls (.long (a - b) :: st) G Q) : E x F d M pc ls (.long b :: .long a :: st) G Q := by
  obtain ⟨mi, hm⟩ := zop_mi h
  exact E_si hm h rfl rfl (rfl) k
theorem e_lmul {a b : Int64} (h : zop M pc = some (.lmul, 1)) (k : E x F d M (pc + 1) ls (.long (a * b) :: st) G Q) : E x F d M pc ls (.long b :: .long a :: st) G Q := by
  obtain ⟨mi, hm⟩ := zop_mi h
  exact E_si hm h rfl rfl (rfl) k
theorem e_ldiv {a b : Int64} (h : zop M pc = some (.ldiv, 1)) (hb : ¬ b = 0) (k : E x F d M (pc + 1) ls (.long (a / b) :: st) G Q) : E x F d M pc ls (.long b :: .long a :: st) G Q := by
  obtain ⟨mi, hm⟩ := zop_mi h
  exact E_si hm h rfl rfl (by simp only [zsi, if_true, zbin2, if_neg hb]) k
theorem e_lrem {a b : Int64} (h : zop M pc = some (.lrem, 1)) (hb : ¬ b = 0) (k : E x F d M (pc + 1) ls (.long (a - a / b * b) :: st) G Q) : E x F d M pc ls (.long b :: .long a :: st) G Q := by
  obtain ⟨mi, hm⟩ := zop_mi h
  exact E_si hm h rfl rfl (by simp only [zsi, if_true, zbin2, if_neg hb]) k
theorem e_lcmp {a b : Int64} (h : zop M pc = some (.lcmp, 1)) (k : E x F d M (pc + 1) ls (.int (lg_cmp a b) :: st) G Q) : E x F d M pc ls (.long b :: .long a :: st) G Q := by
  obtain ⟨mi, hm⟩ := zop_mi h
  exact E_si hm h rfl rfl (rfl) k
theorem e_dup {v : Value} (h : zop M pc = some (.dup, 1)) (hv : zcat v = 1) (k : E x F d M (pc + 1) ls (v :: v :: st) G Q) : E x F d M pc ls (v :: st) G Q := by
  obtain ⟨mi, hm⟩ := zop_mi h
  exact E_si hm h rfl (by cases v <;> rfl) (by simp only [zsi, if_true, hv]) k
theorem e_pop {v : Value} (h : zop M pc = some (.pop, 1)) (hv : zcat v = 1) (k : E x F d M (pc + 1) ls (st) G Q) : E x F d M pc ls (v :: st) G Q := by
  obtain ⟨mi, hm⟩ := zop_mi h
  exact E_si hm h rfl (by cases v <;> rfl) (by simp only [zsi, if_true, hv]) k
theorem e_dup2 {v w : Value} (h : zop M pc = some (.dup2, 1)) (hv : zcat v = 1 ∧ zcat w = 1) (k : E x F d M (pc + 1) ls (v :: w :: v :: w :: st) G Q) : E x F d M pc ls (v :: w :: st) G Q := by
  obtain ⟨mi, hm⟩ := zop_mi h
  exact E_si hm h rfl (by cases v <;> rfl) (by simp only [zsi, if_true, if_pos hv]) k
theorem e_icmp_eq {a b : Int32} {off : Int} {tg : Nat} (h : zop M pc = some (.if_icmp .eq off, 3)) (ht : zpj pc off = some tg) (kt : a = b → E x F d M tg ls st G Q) (kf : ¬ (a = b) → E x F d M (pc + 3) ls st G Q) : E x F d M pc ls (.int b :: .int a :: st) G Q := by
  obtain ⟨mi, hm⟩ := zop_mi h
  by_cases hc : a = b
  · exact E_si hm h rfl rfl (by simp only [zsi, if_true, zbr, ht, zc0, hc, decide_true, decide_false, Bool.not_true, Bool.not_false, not_true, not_false_eq_true]) (kt hc)
  · exact E_si hm h rfl rfl (by simp [zsi, zbr, ht, zc0, hc]) (kf hc)
theorem e_if_eq {a : Int32} {off : Int} {tg : Nat} (h : zop M pc = some (.ifCond .eq off, 3)) (ht : zpj pc off = some tg) (kt : a = 0 → E x F d M tg ls st G Q) (kf : ¬ (a = 0) → E x F d M (pc + 3) ls st G Q) : E x F d M pc ls (.int a :: st) G Q := by
  obtain ⟨mi, hm⟩ := zop_mi h
  by_cases hc : a = 0
  · exact E_si hm h rfl rfl (by simp only [zsi, if_true, zbr, ht, zc0, hc, decide_true, decide_false, Bool.not_true, Bool.not_false, not_true, not_false_eq_true]) (kt hc)
  · exact E_si hm h rfl rfl (by simp [zsi, zbr, ht, zc0, hc]) (kf hc)
theorem e_icmp_ne {a b : Int32} {off : Int} {tg : Nat} (h : zop M pc = some (.if_icmp .ne off, 3)) (ht : zpj pc off = some tg) (kt : ¬ a = b → E x F d M tg ls st G Q) (kf : ¬ (¬ a = b) → E x F d M (pc + 3) ls st G Q) : E x F d M pc ls (.int b :: .int a :: st) G Q := by
  obtain ⟨mi, hm⟩ := zop_mi h
  by_cases hc : ¬ a = b
  · exact E_si hm h rfl rfl (by simp only [zsi, if_true, zbr, ht, zc0, hc, decide_true, decide_false, Bool.not_true, Bool.not_false, not_true, not_false_eq_true]) (kt hc)
  · exact E_si hm h rfl rfl (by simp [zsi, zbr, ht, zc0, hc]) (kf hc)
theorem e_if_ne {a : Int32} {off : Int} {tg : Nat} (h : zop M pc = some (.ifCond .ne off, 3)) (ht : zpj pc off = some tg) (kt : ¬ a = 0 → E x F d M tg ls st G Q) (kf : ¬ (¬ a = 0) → E x F d M (pc + 3) ls st G Q) : E x F d M pc ls (.int a :: st) G Q := by
  obtain ⟨mi, hm⟩ := zop_mi h
  by_cases hc : ¬ a = 0
  · exact E_si hm h rfl rfl (by simp only [zsi, if_true, zbr, ht, zc0, hc, decide_true, decide_false, Bool.not_true, Bool.not_false, not_true, not_false_eq_true]) (kt hc)
  · exact E_si hm h rfl rfl (by simp [zsi, zbr, ht, zc0, hc]) (kf hc)
theorem e_icmp_lt {a b : Int32} {off : Int} {tg : Nat} (h : zop M pc = some (.if_icmp .lt off, 3)) (ht : zpj pc off = some tg) (kt : a < b → E x F d M tg ls st G Q) (kf : ¬ (a < b) → E x F d M (pc + 3) ls st G Q) : E x F d M pc ls (.int b :: .int a :: st) G Q := by
  obtain ⟨mi, hm⟩ := zop_mi h
  by_cases hc : a < b
  · exact E_si hm h rfl rfl (by simp only [zsi, if_true, zbr, ht, zc0, hc, decide_true, decide_false, Bool.not_true, Bool.not_false, not_true, not_false_eq_true]) (kt hc)
  · exact E_si hm h rfl rfl (by simp [zsi, zbr, ht, zc0, hc]) (kf hc)
theorem e_if_lt {a : Int32} {off : Int} {tg : Nat} (h : zop M pc = some (.ifCond .lt off, 3)) (ht : zpj pc off = some tg) (kt : a < 0 → E x F d M tg ls st G Q) (kf : ¬ (a < 0) → E x F d M (pc + 3) ls st G Q) : E x F d M pc ls (.int a :: st) G Q := by
  obtain ⟨mi, hm⟩ := zop_mi h
  by_cases hc : a < 0
  · exact E_si hm h rfl rfl (by simp only [zsi, if_true, zbr, ht, zc0, hc, decide_true, decide_false, Bool.not_true, Bool.not_false, not_true, not_false_eq_true]) (kt hc)
  · exact E_si hm h rfl rfl (by simp [zsi, zbr, ht, zc0, hc]) (kf hc)
theorem e_icmp_ge {a b : Int32} {off : Int} {tg : Nat} (h : zop M pc = some (.if_icmp .ge off, 3)) (ht : zpj pc off = some tg) (kt : b ≤ a → E x F d M tg ls st G Q) (kf : ¬ (b ≤ a) → E x F d M (pc + 3) ls st G Q) : E x F d M pc ls (.int b :: .int a :: st) G Q := by
  obtain ⟨mi, hm⟩ := zop_mi h
  by_cases hc : b ≤ a
  · exact E_si hm h rfl rfl (by simp only [zsi, if_true, zbr, ht, zc0, hc, decide_true, decide_false, Bool.not_true, Bool.not_false, not_true, not_false_eq_true]) (kt hc)
  · exact E_si hm h rfl rfl (by simp [zsi, zbr, ht, zc0, hc]) (kf hc)
theorem e_if_ge {a : Int32} {off : Int} {tg : Nat} (h : zop M pc = some (.ifCond .ge off, 3)) (ht : zpj pc off = some tg) (kt : 0 ≤ a → E x F d M tg ls st G Q) (kf : ¬ (0 ≤ a) → E x F d M (pc + 3) ls st G Q) : E x F d M pc ls (.int a :: st) G Q := by
  obtain ⟨mi, hm⟩ := zop_mi h
  by_cases hc : 0 ≤ a
  · exact E_si hm h rfl rfl (by simp only [zsi, if_true, zbr, ht, zc0, hc, decide_true, decide_false, Bool.not_true, Bool.not_false, not_true, not_false_eq_true]) (kt hc)
  · exact E_si hm h rfl rfl (by simp [zsi, zbr, ht, zc0, hc]) (kf hc)
theorem e_icmp_gt {a b : Int32} {off : Int} {tg : Nat} (h : zop M pc = some (.if_icmp .gt off, 3)) (ht : zpj pc off = some tg) (kt : b < a → E x F d M tg ls st G Q) (kf : ¬ (b < a) → E x F d M (pc + 3) ls st G Q) : E x F d M pc ls (.int b :: .int a :: st) G Q := by
  obtain ⟨mi, hm⟩ := zop_mi h
  by_cases hc : b < a
  · exact E_si hm h rfl rfl (by simp only [zsi, if_true, zbr, ht, zc0, hc, decide_true, decide_false, Bool.not_true, Bool.not_false, not_true, not_false_eq_true]) (kt hc)
  · exact E_si hm h rfl rfl (by simp [zsi, zbr, ht, zc0, hc]) (kf hc)
theorem e_if_gt {a : Int32} {off : Int} {tg : Nat} (h : zop M pc = some (.ifCond .gt off, 3)) (ht : zpj pc off = some tg) (kt : 0 < a → E x F d M tg ls st G Q) (kf : ¬ (0 < a) → E x F d M (pc + 3) ls st G Q) : E x F d M pc ls (.int a :: st) G Q := by
  obtain ⟨mi, hm⟩ := zop_mi h
  by_cases hc : 0 < a
  · exact E_si hm h rfl rfl (by simp only [zsi, if_true, zbr, ht, zc0, hc, decide_true, decide_false, Bool.not_true, Bool.not_false, not_true, not_false_eq_true]) (kt hc)
  · exact E_si hm h rfl rfl (by simp [zsi, zbr, ht, zc0, hc]) (kf hc)
theorem e_icmp_le {a b : Int32} {off : Int} {tg : Nat} (h : zop M pc = some (.if_icmp .le off, 3)) (ht : zpj pc off = some tg) (kt : a ≤ b → E x F d M tg ls st G Q) (kf : ¬ (a ≤ b) → E x F d M (pc + 3) ls st G Q) : E x F d M pc ls (.int b :: .int a :: st) G Q := by
  obtain ⟨mi, hm⟩ := zop_mi h
  by_cases hc : a ≤ b
  · exact E_si hm h rfl rfl (by simp only [zsi, if_true, zbr, ht, zc0, hc, decide_true, decide_false, Bool.not_true, Bool.not_false, not_true, not_false_eq_true]) (kt hc)
  · exact E_si hm h rfl rfl (by simp [zsi, zbr, ht, zc0, hc]) (kf hc)
theorem e_if_le {a : Int32} {off : Int} {tg : Nat} (h : zop M pc = some (.ifCond .le off, 3)) (ht : zpj pc off = some tg) (kt : a ≤ 0 → E x F d M tg ls st G Q) (kf : ¬ (a ≤ 0) → E x F d M (pc + 3) ls st G Q) : E x F d M pc ls (.int a :: st) G Q := by
  obtain ⟨mi, hm⟩ := zop_mi h
  by_cases hc : a ≤ 0
  · exact E_si hm h rfl rfl (by simp only [zsi, if_true, zbr, ht, zc0, hc, decide_true, decide_false, Bool.not_true, Bool.not_false, not_true, not_false_eq_true]) (kt hc)
  · exact E_si hm h rfl rfl (by simp [zsi, zbr, ht, zc0, hc]) (kf hc)
theorem e_goto {off : Int} {tg : Nat} (h : zop M pc = some (.goto off, 3)) (ht : zpj pc off = some tg) (k : E x F d M tg ls st G Q) : E x F d M pc ls st G Q := by
  obtain ⟨mi, hm⟩ := zop_mi h
  exact E_si hm h rfl rfl (by simp only [zsi, if_true, ht]) k
theorem e_tableOut {dd lo hi : Int} {offs : Array Int} {len tg : Nat} {a : Int32} (h : zop M pc = some (.tableswitch dd lo hi offs, len)) (ho : a.toInt < lo ∨ hi < a.toInt) (ht : zpj pc dd = some tg) (k : E x F d M tg ls st G Q) : E x F d M pc ls (.int a :: st) G Q := by
  obtain ⟨mi, hm⟩ := zop_mi h
  exact E_si hm h rfl (by unfold zrt; split <;> rfl) (by simp only [zsi, if_pos ho, ht]) k
theorem e_tableIn {dd lo hi off : Int} {offs : Array Int} {len tg : Nat} {a : Int32} (h : zop M pc = some (.tableswitch dd lo hi offs, len)) (ho : ¬ (a.toInt < lo ∨ hi < a.toInt)) (hf : offs[(a.toInt - lo).toNat]? = some off) (ht : zpj pc off = some tg) (k : E x F d M tg ls st G Q) : E x F d M pc ls (.int a :: st) G Q := by
  obtain ⟨mi, hm⟩ := zop_mi h
  exact E_si hm h rfl (by unfold zrt; split <;> rfl) (by simp only [zsi, if_neg ho, hf, ht]) k
theorem e_lookup {dd : Int} {ps : Array (Int × Int)} {len tg : Nat} {a : Int32} (h : zop M pc = some (.lookupswitch dd ps, len)) (hp : (ps.toList.zip (ps.toList.drop 1)).all (fun (a, next) => a.1 < next.1) = true) (ht : zpj pc (Op.lookupswitch.offset ps.toList dd a.toInt) = some tg) (k : E x F d M tg ls st G Q) : E x F d M pc ls (.int a :: st) G Q := by
  obtain ⟨mi, hm⟩ := zop_mi h
  exact E_si hm h rfl (by unfold zrt; split <;> rfl) (by simp only [zsi, if_pos hp, ht]) k
theorem e_getI {own idx ci kf w : Nat} {a : Nat} {V : Nat → Nat → Int32} {T : Nat → Nat → Int64} (h : zop M pc = some (.getfield idx, 3)) (ho : zow M = own) (hf : zfld own idx = some (own, idx, ci, kf, w)) (hs : zsh F a = ci) (hc : kf < zN ci ∧ ci < 9) (ht : zty ci kf = .int) (k : E x F d M (pc + 3) ls (.int (V a kf) :: st) (V, T) Q) : E x F d M pc ls (.ref a :: st) (V, T) Q := by
  obtain ⟨mi, hm⟩ := zop_mi h
  rw [zow_mi hm] at ho
  subst ho
  refine E_si hm h rfl rfl ?_ k
  simp only [zsi, if_true, hf, zgf]
  rw [if_pos ⟨hs, hc⟩, ht]
theorem e_getZ {own idx ci kf w : Nat} {a : Nat} {V : Nat → Nat → Int32} {T : Nat → Nat → Int64} (h : zop M pc = some (.getfield idx, 3)) (ho : zow M = own) (hf : zfld own idx = some (own, idx, ci, kf, w)) (hs : zsh F a = ci) (hc : kf < zN ci ∧ ci < 9) (ht : zty ci kf = .boolean) (k : E x F d M (pc + 3) ls (.int (V a kf) :: st) (V, T) Q) : E x F d M pc ls (.ref a :: st) (V, T) Q := by
  obtain ⟨mi, hm⟩ := zop_mi h
  rw [zow_mi hm] at ho
  subst ho
  refine E_si hm h rfl rfl ?_ k
  simp only [zsi, if_true, hf, zgf]
  rw [if_pos ⟨hs, hc⟩, ht]
theorem e_getJ {own idx ci kf w : Nat} {a : Nat} {V : Nat → Nat → Int32} {T : Nat → Nat → Int64} (h : zop M pc = some (.getfield idx, 3)) (ho : zow M = own) (hf : zfld own idx = some (own, idx, ci, kf, w)) (hs : zsh F a = ci) (hc : kf < zN ci ∧ ci < 9) (ht : zty ci kf = .long) (k : E x F d M (pc + 3) ls (.long (T a kf) :: st) (V, T) Q) : E x F d M pc ls (.ref a :: st) (V, T) Q := by
  obtain ⟨mi, hm⟩ := zop_mi h
  rw [zow_mi hm] at ho
  subst ho
  refine E_si hm h rfl rfl ?_ k
  simp only [zsi, if_true, hf, zgf]
  rw [if_pos ⟨hs, hc⟩, ht]
theorem e_getO {own idx ci kf w : Nat} {a : Nat} {V : Nat → Nat → Int32} {T : Nat → Nat → Int64} {o : String} {b : Nat} (h : zop M pc = some (.getfield idx, 3)) (ho : zow M = own) (hf : zfld own idx = some (own, idx, ci, kf, w)) (hs : zsh F a = ci) (hc : kf < zN ci ∧ ci < 9) (ht : zty ci kf = .object o) (hb : zrf F a kf = some b) (k : E x F d M (pc + 3) ls (.ref b :: st) (V, T) Q) : E x F d M pc ls (.ref a :: st) (V, T) Q := by
  obtain ⟨mi, hm⟩ := zop_mi h
  rw [zow_mi hm] at ho
  subst ho
  refine E_si hm h rfl rfl ?_ k
  simp only [zsi, if_true, hf, zgf]
  rw [if_pos ⟨hs, hc⟩, ht]
  dsimp only
  rw [hb]
theorem e_getA {own idx ci kf w : Nat} {a : Nat} {V : Nat → Nat → Int32} {T : Nat → Nat → Int64} {o : FieldType} {b : Nat} (h : zop M pc = some (.getfield idx, 3)) (ho : zow M = own) (hf : zfld own idx = some (own, idx, ci, kf, w)) (hs : zsh F a = ci) (hc : kf < zN ci ∧ ci < 9) (ht : zty ci kf = .array o) (hb : zrf F a kf = some b) (k : E x F d M (pc + 3) ls (.ref b :: st) (V, T) Q) : E x F d M pc ls (.ref a :: st) (V, T) Q := by
  obtain ⟨mi, hm⟩ := zop_mi h
  rw [zow_mi hm] at ho
  subst ho
  refine E_si hm h rfl rfl ?_ k
  simp only [zsi, if_true, hf, zgf]
  rw [if_pos ⟨hs, hc⟩, ht]
  dsimp only
  rw [hb]
theorem e_getjv {own idx w : Nat} {u : UInt32} (h : zop M pc = some (.getfield idx, 3)) (ho : zow M = own) (hf : zfld own idx = none) (hj : zjfd own idx = some (own, idx, 0, w)) (hu : u.toNat < 12) (k : E x F d M (pc + 3) ls (.double (UInt64.ofNat (1 + u.toNat)) :: st) G Q) : E x F d M pc ls (.float u :: st) G Q := by
  obtain ⟨mi, hm⟩ := zop_mi h
  rw [zow_mi hm] at ho
  subst ho
  refine E_si hm h rfl rfl ?_ k
  simp only [zsi, if_true, hf, hj, zgj, if_pos hu]
theorem e_getjc {own idx w : Nat} {u : UInt32} (h : zop M pc = some (.getfield idx, 3)) (ho : zow M = own) (hf : zfld own idx = none) (hj : zjfd own idx = some (own, idx, 1, w)) (hu : u.toNat < 12) (k : E x F d M (pc + 3) ls (.int 0 :: st) G Q) : E x F d M pc ls (.float u :: st) G Q := by
  obtain ⟨mi, hm⟩ := zop_mi h
  rw [zow_mi hm] at ho
  subst ho
  refine E_si hm h rfl rfl ?_ k
  simp only [zsi, if_true, hf, hj, zgj, if_pos hu, Nat.one_ne_zero, if_false]
theorem e_gets {own idx y w : Nat} {v : Value} (h : zop M pc = some (.getstatic idx, 3)) (ho : zow M = own) (hf : zsfd own idx = some (own, idx, y, w)) (hv : (if y = 0 then Value.int 1 else if y = 1 then .double 0 else .retAddr 0) = v) (k : E x F d M (pc + 3) ls (v :: st) G Q) : E x F d M pc ls st G Q := by
  subst hv
  obtain ⟨mi, hm⟩ := zop_mi h
  rw [zow_mi hm] at ho
  subst ho
  refine E_si hm h rfl rfl ?_ k
  simp only [zsi, if_true, hf]
theorem e_putI {own idx ci kf w : Nat} {a : Nat} {V : Nat → Nat → Int32} {T : Nat → Nat → Int64} {v : Int32} (h : zop M pc = some (.putfield idx, 3)) (ho : zow M = own) (hf : zfld own idx = some (own, idx, ci, kf, w)) (hs : zsh F a = ci) (hc : kf < zN ci ∧ ci < 9 ∧ (zT ci kf).2.2.2 = false) (ht : zty ci kf = .int) (k : E x F d M (pc + 3) ls st (zu V a kf v, T) Q) : E x F d M pc ls (.int v :: .ref a :: st) (V, T) Q := by
  obtain ⟨mi, hm⟩ := zop_mi h
  rw [zow_mi hm] at ho
  subst ho
  refine E_si hm h rfl rfl ?_ k
  simp only [zsi, if_true, hf, zpf]
  rw [if_pos ⟨hs, hc⟩, ht]
theorem e_putZ {own idx ci kf w : Nat} {a : Nat} {V : Nat → Nat → Int32} {T : Nat → Nat → Int64} {v : Int32} (h : zop M pc = some (.putfield idx, 3)) (ho : zow M = own) (hf : zfld own idx = some (own, idx, ci, kf, w)) (hs : zsh F a = ci) (hc : kf < zN ci ∧ ci < 9 ∧ (zT ci kf).2.2.2 = false) (ht : zty ci kf = .boolean) (hv : narrow .boolean (.int v) = .int v) (k : E x F d M (pc + 3) ls st (zu V a kf v, T) Q) : E x F d M pc ls (.int v :: .ref a :: st) (V, T) Q := by
  obtain ⟨mi, hm⟩ := zop_mi h
  rw [zow_mi hm] at ho
  subst ho
  refine E_si hm h rfl rfl ?_ k
  simp only [zsi, if_true, hf, zpf]
  rw [if_pos ⟨hs, hc⟩, ht]
  dsimp only
  rw [if_pos hv]
theorem e_putJ {own idx ci kf w : Nat} {a : Nat} {V : Nat → Nat → Int32} {T : Nat → Nat → Int64} {v : Int64} (h : zop M pc = some (.putfield idx, 3)) (ho : zow M = own) (hf : zfld own idx = some (own, idx, ci, kf, w)) (hs : zsh F a = ci) (hc : kf < zN ci ∧ ci < 9 ∧ (zT ci kf).2.2.2 = false) (ht : zty ci kf = .long) (k : E x F d M (pc + 3) ls st (V, zu T a kf v) Q) : E x F d M pc ls (.long v :: .ref a :: st) (V, T) Q := by
  obtain ⟨mi, hm⟩ := zop_mi h
  rw [zow_mi hm] at ho
  subst ho
  refine E_si hm h rfl rfl ?_ k
  simp only [zsi, if_true, hf, zpf]
  rw [if_pos ⟨hs, hc⟩, ht]
theorem zix_n {i n : Nat} (h : i < n) (hn : n < 2 ^ 31) : zix (nI i) n = true := decide_eq_true (nI_in h hn)
theorem e_alen {a n : Nat} (h : zop M pc = some (.arraylength, 1)) (hs : 100 ≤ zsh F a ∧ zsh F a < 104) (hl : zln F a = n) (k : E x F d M (pc + 1) ls (.int (nI n) :: st) G Q) : E x F d M pc ls (.ref a :: st) G Q := by
  obtain ⟨mi, hm⟩ := zop_mi h
  refine E_si hm h rfl rfl ?_ k
  simp only [zsi, if_true]
  rw [if_pos hs, hl]
  rfl
theorem e_alenX {u : UInt64} {y : Bool} {n : Nat} {f : Nat → Int32} (h : zop M pc = some (.arraylength, 1)) (hx : zxt x u.toNat = some (y, n, f)) (k : E x F d M (pc + 1) ls (.int (nI n) :: st) G Q) : E x F d M pc ls (.double u :: st) G Q := by
  obtain ⟨mi, hm⟩ := zop_mi h
  refine E_si hm h rfl rfl ?_ k
  simp only [zsi, if_true, hx]
  rfl
theorem e_iald {a i n : Nat} {j : Int32} {V : Nat → Nat → Int32} {T : Nat → Nat → Int64} (h : zop M pc = some (.iaload, 1)) (hs : zsh F a = 100 ∧ zln F a = n) (hj : j = nI i) (hi : i < n) (hn : n < 2 ^ 31) (k : E x F d M (pc + 1) ls (.int (V a i) :: st) (V, T) Q) : E x F d M pc ls (.int j :: .ref a :: st) (V, T) Q := by
  subst hj
  obtain ⟨mi, hm⟩ := zop_mi h
  refine E_si hm h rfl rfl ?_ k
  simp only [zsi, if_true]
  rw [hs.2, if_pos ⟨hs.1, zix_n hi hn⟩, nI_clamp (by omega)]
theorem e_ialdX {u : UInt64} {i n : Nat} {j : Int32} {f : Nat → Int32} (h : zop M pc = some (.iaload, 1)) (hx : zxt x u.toNat = some (true, n, f)) (hj : j = nI i) (hi : i < n) (hn : n < 2 ^ 31) (k : E x F d M (pc + 1) ls (.int (f i) :: st) G Q) : E x F d M pc ls (.int j :: .double u :: st) G Q := by
  subst hj
  obtain ⟨mi, hm⟩ := zop_mi h
  refine E_si hm h rfl rfl ?_ k
  simp only [zsi, if_true, hx]
  rw [if_pos ⟨trivial, zix_n hi hn⟩, nI_clamp (by omega)]
theorem e_bald {a i n : Nat} {j : Int32} {V : Nat → Nat → Int32} {T : Nat → Nat → Int64} (h : zop M pc = some (.baload, 1)) (hs : zsh F a = 101 ∧ zln F a = n) (hj : j = nI i) (hi : i < n) (hn : n < 2 ^ 31) (k : E x F d M (pc + 1) ls (.int (V a i) :: st) (V, T) Q) : E x F d M pc ls (.int j :: .ref a :: st) (V, T) Q := by
  subst hj
  obtain ⟨mi, hm⟩ := zop_mi h
  refine E_si hm h rfl rfl ?_ k
  simp only [zsi, if_true]
  rw [hs.2, if_pos ⟨hs.1, zix_n hi hn⟩, nI_clamp (by omega)]
theorem e_baldX {u : UInt64} {i n : Nat} {j : Int32} {f : Nat → Int32} (h : zop M pc = some (.baload, 1)) (hx : zxt x u.toNat = some (false, n, f)) (hj : j = nI i) (hi : i < n) (hn : n < 2 ^ 31) (k : E x F d M (pc + 1) ls (.int (f i) :: st) G Q) : E x F d M pc ls (.int j :: .double u :: st) G Q := by
  subst hj
  obtain ⟨mi, hm⟩ := zop_mi h
  refine E_si hm h rfl rfl ?_ k
  simp only [zsi, if_true, hx]
  rw [if_pos ⟨trivial, zix_n hi hn⟩, nI_clamp (by omega)]
theorem e_aald {a b i n : Nat} {j : Int32} (h : zop M pc = some (.aaload, 1)) (hs : (zsh F a = 102 ∨ zsh F a = 103) ∧ zln F a = n) (hj : j = nI i) (hi : i < n) (hn : n < 2 ^ 31) (hb : zrf F a i = some b) (k : E x F d M (pc + 1) ls (.ref b :: st) G Q) : E x F d M pc ls (.int j :: .ref a :: st) G Q := by
  subst hj
  obtain ⟨mi, hm⟩ := zop_mi h
  refine E_si hm h rfl rfl ?_ k
  simp only [zsi, if_true]
  rw [hs.2, if_pos ⟨hs.1, zix_n hi hn⟩, nI_clamp (by omega), hb]
theorem e_iast {a i n : Nat} {j : Int32} {V : Nat → Nat → Int32} {T : Nat → Nat → Int64} {v : Int32} (h : zop M pc = some (.iastore, 1)) (hs : zsh F a = 100 ∧ zln F a = n) (hj : j = nI i) (hi : i < n) (hn : n < 2 ^ 31) (k : E x F d M (pc + 1) ls st (zu V a i v, T) Q) : E x F d M pc ls (.int v :: .int j :: .ref a :: st) (V, T) Q := by
  subst hj
  obtain ⟨mi, hm⟩ := zop_mi h
  refine E_si hm h rfl rfl ?_ k
  simp only [zsi, if_true]
  rw [hs.2, if_pos ⟨hs.1, zix_n hi hn⟩, nI_clamp (by omega)]
theorem e_bast {a i n : Nat} {j : Int32} {V : Nat → Nat → Int32} {T : Nat → Nat → Int64} {v : Int32} (h : zop M pc = some (.bastore, 1)) (hs : zsh F a = 101 ∧ zln F a = n) (hj : j = nI i) (hi : i < n) (hn : n < 2 ^ 31) (k : E x F d M (pc + 1) ls st (zu V a i (vp_nar .boolean v), T) Q) : E x F d M pc ls (.int v :: .int j :: .ref a :: st) (V, T) Q := by
  subst hj
  obtain ⟨mi, hm⟩ := zop_mi h
  refine E_si hm h rfl rfl ?_ k
  simp only [zsi, if_true]
  rw [hs.2, if_pos ⟨hs.1, zix_n hi hn⟩, nI_clamp (by omega)]
theorem e_max {own idx w : Nat} {a b : Int32} (h : zop M pc = some (.invokestatic idx, 3)) (ho : zow M = own) (hc : zcal own idx = none) (hx : zmxl own idx = some (own, idx, 1, w)) (h8 : (st.map zcat).sum ≤ 8) (k : E x F d M (pc + 3) ls (.int (if a < b then b else a) :: st) G Q) : E x F d M pc ls (.int b :: .int a :: st) G Q := by
  obtain ⟨mi, hm⟩ := zop_mi h
  rw [zow_mi hm] at ho
  subst ho
  refine E_si hm h hc rfl ?_ k
  simp only [zsi, if_true, hx, if_pos h8]
theorem e_min {own idx w : Nat} {a b : Int32} (h : zop M pc = some (.invokestatic idx, 3)) (ho : zow M = own) (hc : zcal own idx = none) (hx : zmxl own idx = some (own, idx, 0, w)) (h8 : (st.map zcat).sum ≤ 8) (k : E x F d M (pc + 3) ls (.int (if b < a then b else a) :: st) G Q) : E x F d M pc ls (.int b :: .int a :: st) G Q := by
  obtain ⟨mi, hm⟩ := zop_mi h
  rw [zow_mi hm] at ho
  subst ho
  refine E_si hm h hc rfl ?_ k
  simp only [zsi, if_true, hx, if_pos h8]
  rw [if_neg (by decide)]
theorem e_acopy {own idx w a b sp dp n na nb : Nat} {sp' dp' n' : Int32} {V : Nat → Nat → Int32} {T : Nat → Nat → Int64} (h : zop M pc = some (.invokestatic idx, 3)) (ho : zow M = own) (hc : zcal own idx = none) (hx : zmxl own idx = none) (hl : zacl own idx = some (own, idx, w)) (h8 : (st.map zcat).sum ≤ 8) (hsa : zsh F a = 100 ∧ zln F a = na) (hsb : zsh F b = 100 ∧ zln F b = nb) (e1 : sp' = nI sp) (e2 : dp' = nI dp) (e3 : n' = nI n) (h1 : sp + n ≤ na) (h2 : dp + n ≤ nb) (h3 : na < 2 ^ 31 ∧ nb < 2 ^ 31) (k : E x F d M (pc + 3) ls st (zcpy V a b sp dp n, T) Q) : E x F d M pc ls (.int n' :: .int dp' :: .ref b :: .int sp' :: .ref a :: st) (V, T) Q := by
  subst e1; subst e2; subst e3
  obtain ⟨mi, hm⟩ := zop_mi h
  rw [zow_mi hm] at ho
  subst ho
  refine E_si hm h hc rfl ?_ k
  simp only [zsi, if_true, hx, hl, zacp]
  rw [nI_clamp (show sp < 2 ^ 31 by omega), nI_clamp (show dp < 2 ^ 31 by omega), nI_clamp (show n < 2 ^ 31 by omega), hsa.2, hsb.2, if_pos ⟨hsa.1, hsb.1, nI_pos (by omega), nI_pos (by omega), nI_pos (by omega), h1, h2, h8⟩]
theorem e_ireti {v : Int32} {o l n : Nat} {s i : Bool} {LS : List Nat} (h : zop M pc = some (.ireturn, 1)) (hs : zms M = some (o, l, s, n, LS, i, some .int)) (k : Q (some (.int v)) G) : E x F d M pc ls [.int v] G Q := by
  obtain ⟨mi, hm, -, -, -, -, -, -, h7⟩ := zms_mi hs
  refine E_ret hm h rfl ?_ k
  unfold zrt
  rw [if_pos rfl, h7]
  dsimp only
  rw [if_pos ⟨rfl, Or.inl rfl⟩]
theorem e_iretz {v : Int32} {o l n : Nat} {s i : Bool} {LS : List Nat} (h : zop M pc = some (.ireturn, 1)) (hs : zms M = some (o, l, s, n, LS, i, some .boolean)) (hv : narrow .boolean (.int v) = .int v) (k : Q (some (.int v)) G) : E x F d M pc ls [.int v] G Q := by
  obtain ⟨mi, hm, -, -, -, -, -, -, h7⟩ := zms_mi hs
  refine E_ret hm h rfl ?_ k
  unfold zrt
  rw [if_pos rfl, h7]
  dsimp only
  rw [if_pos ⟨hv, Or.inr (Or.inl rfl)⟩]
theorem e_iretc {v : Int32} {o l n : Nat} {s i : Bool} {LS : List Nat} (h : zop M pc = some (.ireturn, 1)) (hs : zms M = some (o, l, s, n, LS, i, some .char)) (hv : narrow .char (.int v) = .int v) (k : Q (some (.int v)) G) : E x F d M pc ls [.int v] G Q := by
  obtain ⟨mi, hm, -, -, -, -, -, -, h7⟩ := zms_mi hs
  refine E_ret hm h rfl ?_ k
  unfold zrt
  rw [if_pos rfl, h7]
  dsimp only
  rw [if_pos ⟨hv, Or.inr (Or.inr (Or.inl rfl))⟩]
theorem e_iretb {v : Int32} {o l n : Nat} {s i : Bool} {LS : List Nat} (h : zop M pc = some (.ireturn, 1)) (hs : zms M = some (o, l, s, n, LS, i, some .byte)) (hv : narrow .byte (.int v) = .int v) (k : Q (some (.int v)) G) : E x F d M pc ls [.int v] G Q := by
  obtain ⟨mi, hm, -, -, -, -, -, -, h7⟩ := zms_mi hs
  refine E_ret hm h rfl ?_ k
  unfold zrt
  rw [if_pos rfl, h7]
  dsimp only
  rw [if_pos ⟨hv, Or.inr (Or.inr (Or.inr rfl))⟩]
theorem e_lret {v : Int64} {o l n : Nat} {s i : Bool} {LS : List Nat} (h : zop M pc = some (.lreturn, 1)) (hs : zms M = some (o, l, s, n, LS, i, some .long)) (k : Q (some (.long v)) G) : E x F d M pc ls [.long v] G Q := by
  obtain ⟨mi, hm, -, -, -, -, -, -, h7⟩ := zms_mi hs
  refine E_ret hm h rfl ?_ k
  unfold zrt
  rw [if_pos rfl]
  dsimp only
  rw [if_pos h7]
theorem e_aret {v : Value} {o l n : Nat} {s i : Bool} {LS : List Nat} {t : String} (h : zop M pc = some (.areturn, 1)) (hs : zms M = some (o, l, s, n, LS, i, some (.object t))) (hv : zisr v = true) (k : Q (some v) G) : E x F d M pc ls [v] G Q := by
  obtain ⟨mi, hm, -, -, -, -, -, -, h7⟩ := zms_mi hs
  refine E_ret hm h rfl ?_ k
  unfold zrt
  rw [if_pos rfl]
  dsimp only
  rw [if_pos hv, h7]
theorem e_vret {o l n : Nat} {s i : Bool} {LS : List Nat} (h : zop M pc = some (.return_, 1)) (hs : zms M = some (o, l, s, n, LS, i, none)) (k : Q none G) : E x F d M pc ls [] G Q := by
  obtain ⟨mi, hm, -, -, -, -, -, -, h7⟩ := zms_mi hs
  refine E_ret hm h rfl ?_ k
  unfold zrt
  rw [if_pos rfl]
  dsimp only
  rw [if_pos h7]
def zrok (F : zF) (own : Nat) (as : List Value) : Bool := match as with
  | .ref a :: _ => zsh F a == own && decide (own < 9)
  | .float k :: _ => own == 11 && decide (k.toNat < 12)
  | _ => false
theorem z_ca {m way na maxL own : Nat} {s i : Bool} {LS : List Nat} {rt : Option FieldType} {as rest : List Value} {ls1 : zLs} (hs : zms m = some (own, maxL, s, na, LS, i, rt)) (h1 : st = as.reverse ++ rest) (h2 : as.length = na) (h8 : (rest.map zcat).sum ≤ 8) (hst : s = true ↔ way = 0) (hin : i = true ↔ way = 2) (hr : way = 0 ∨ zrok F own as = true) (he : zent maxL as = ls1) (hl : ls1.length = maxL) (hk : zlok LS 0 ls1 = true) (hm : m + 1 < 212) : ∃ mj, zca F m way st = some (mj, as, rest) ∧ zent mj.2.2.2.1 as = ls1 := by
  obtain ⟨mj, g1, g2, g3, g4, g5, g6, g7, g8⟩ := zms_mi hs
  have t1 : (st.take na).reverse = as := by rw [h1, ← h2, ← List.length_reverse, List.take_left, List.reverse_reverse]
  have t2 : st.drop na = rest := by rw [h1, ← h2, ← List.length_reverse, List.drop_left]
  have t3 : na ≤ st.length := by rw [h1, List.length_append, List.length_reverse, h2]; exact Nat.le_add_right _ _
  refine ⟨mj, ?_, by rw [g3]; exact he⟩
  unfold zca
  rw [g1]
  dsimp only
  rw [g5, g3, g4, g6, t1, t2, if_pos]
  refine ⟨t3, h8, hst, ?_, ?_, by rw [he]; exact hl, by rw [he]; exact hk, by rw [zml_len]; exact hm⟩
  · rw [← hin, ← g7]
    simp
  · rcases hr with h | h
    · exact Or.inl h
    · refine Or.inr ?_
      unfold zok1
      rw [g2]
      unfold zrok at h
      exact h
theorem e_callS {own idx m na maxL w own2 : Nat} {nest : Bool} {LS : List Nat} {rt : Option FieldType} {as rest : List Value} {ls1 : zLs} (h : zop M pc = some (.invokestatic idx, 3)) (ho : zow M = own) (hc : zcal own idx = some (own, idx, m, nest, w)) (hs : zms m = some (own2, maxL, true, na, LS, false, rt)) (h1 : st = as.reverse ++ rest) (h2 : as.length = na) (h8 : (rest.map zcat).sum ≤ 8) (he : zent maxL as = ls1) (hl : ls1.length = maxL) (hk : zlok LS 0 ls1 = true) (hm : m + 1 < 212) (k : E x F d m 0 ls1 [] G (fun r G' => E x F (d + 1) M (pc + 3) ls (r.toList ++ rest) G' Q)) : E x F (d + 1) M pc ls st G Q := by
  obtain ⟨mi, hm0⟩ := zop_mi h
  rw [zow_mi hm0] at ho
  subst ho
  obtain ⟨mj, c1, c2⟩ := z_ca (F := F) (way := 0) hs h1 h2 h8 (by simp) (by simp) (Or.inl rfl) he hl hk hm
  subst c2
  exact E_call hm0 h hc c1 k
theorem e_callV {own idx m na maxL w own2 a : Nat} {nest : Bool} {LS : List Nat} {rt : Option FieldType} {as rest : List Value} {ls1 : zLs} (h : zop M pc = some (.invokevirtual idx, 3)) (ho : zow M = own) (hc : zcal own idx = some (own, idx, m, nest, w)) (hs : zms m = some (own2, maxL, false, na, LS, false, rt)) (h1 : st = (Value.ref a :: as).reverse ++ rest) (h2 : (Value.ref a :: as).length = na) (hr : zsh F a = own2) (h9 : own2 < 9) (h8 : (rest.map zcat).sum ≤ 8) (he : zent maxL (Value.ref a :: as) = ls1) (hl : ls1.length = maxL) (hk : zlok LS 0 ls1 = true) (hm : m + 1 < 212) (k : E x F d m 0 ls1 [] G (fun r G' => E x F (d + 1) M (pc + 3) ls (r.toList ++ rest) G' Q)) : E x F (d + 1) M pc ls st G Q := by
  obtain ⟨mi, hm0⟩ := zop_mi h
  rw [zow_mi hm0] at ho
  subst ho
  obtain ⟨mj, c1, c2⟩ := z_ca (F := F) (way := 1) hs h1 h2 h8 (by simp) (by simp) (Or.inr (by simp [zrok, hr, h9])) he hl hk hm
  subst c2
  exact E_call hm0 h hc c1 k
theorem e_callX {own idx m na maxL w : Nat} {u : UInt32} {nest : Bool} {LS : List Nat} {rt : Option FieldType} {as rest : List Value} {ls1 : zLs} (h : zop M pc = some (.invokevirtual idx, 3)) (ho : zow M = own) (hc : zcal own idx = some (own, idx, m, nest, w)) (hs : zms m = some (11, maxL, false, na, LS, false, rt)) (h1 : st = (Value.float u :: as).reverse ++ rest) (h2 : (Value.float u :: as).length = na) (hu : u.toNat < 12) (h8 : (rest.map zcat).sum ≤ 8) (he : zent maxL (Value.float u :: as) = ls1) (hl : ls1.length = maxL) (hk : zlok LS 0 ls1 = true) (hm : m + 1 < 212) (k : E x F d m 0 ls1 [] G (fun r G' => E x F (d + 1) M (pc + 3) ls (r.toList ++ rest) G' Q)) : E x F (d + 1) M pc ls st G Q := by
  obtain ⟨mi, hm0⟩ := zop_mi h
  rw [zow_mi hm0] at ho
  subst ho
  obtain ⟨mj, c1, c2⟩ := z_ca (F := F) (way := 1) hs h1 h2 h8 (by simp) (by simp) (Or.inr (by simp [zrok, hu])) he hl hk hm
  subst c2
  exact E_call hm0 h hc c1 k
end ER
