/-! The law: its prologue, two objects made; then the loop -/
theorem zd211_0 : zop 211 0 = some (.new 7, 3) := by decide +kernel
theorem zd211_3 : zop 211 3 = some (.dup, 1) := by decide +kernel
theorem zd211_4 : zop 211 4 = some (.invokespecial 9, 3) := by decide +kernel
theorem zd211_8 : zop 211 8 = some (.new 10, 3) := by decide +kernel
theorem zd211_11 : zop 211 11 = some (.dup, 1) := by decide +kernel
theorem zd211_12 : zop 211 12 = some (.invokespecial 12, 3) := by decide +kernel
section ZP
variable {x : zXs} {n d M pc : Nat} {ls : zLs} {st : List Value} {F : zF} {G : zG} {o : Option Value × zF × zG}
theorem zv_new {own idx ci w N a : Nat} (h : zop M pc = some (.new idx, 3)) (ho : zow M = own) (hk : zkln own idx = some (own, idx, ci, w)) (h9 : ci < 9) (hn : zN ci = N) (ha : F.1 = a) (k : zev x n d M (pc + 3) ls (.ref a :: st) (znewF F ci N) (znewG F G) = some o) : zev x (n + 1) d M pc ls st F G = some o := by
  obtain ⟨mi, hm⟩ := zop_mi h
  rw [zow_mi hm] at ho
  subst ho
  subst ha
  subst hn
  refine zv_si hm h rfl rfl ?_ k
  simp only [zsi, if_true, hk, if_pos h9]
theorem zv_dup {v : Value} (h : zop M pc = some (.dup, 1)) (hv : zcat v = 1) (k : zev x n d M (pc + 1) ls (v :: v :: st) F G = some o) : zev x (n + 1) d M pc ls (v :: st) F G = some o := by
  obtain ⟨mi, hm⟩ := zop_mi h
  refine zv_si hm h rfl rfl ?_ k
  simp only [zsi, if_true, if_pos hv]
theorem zv_astore_n {i : Fin 4} {v : Value} (h : zop M pc = some (.astore_n i, 1)) (hr : zisr v = true) (hw : zaw M (i : Nat) = true) (hi : (i : Nat) < ls.length) (k : zev x n d M (pc + 1) (ls.set (i : Nat) (some v)) st F G = some o) : zev x (n + 1) d M pc ls (v :: st) F G = some o := by
  obtain ⟨mi, hm⟩ := zop_mi h
  exact zv_si hm h rfl (by cases v <;> rfl) (by simp only [zsi, if_true]; exact z_st1 hr hi (zaw_mi hm hw)) k
theorem zv_init {own idx m maxL w own2 a : Nat} {nest : Bool} {LS : List Nat} {rt : Option FieldType} {rest : List Value} {ls1 : zLs} {r : Option Value} {F1 : zF} {G1 : zG} (h : zop M pc = some (.invokespecial idx, 3)) (ho : zow M = own) (hc : zcal own idx = some (own, idx, m, nest, w)) (hs : zms m = some (own2, maxL, false, 1, LS, true, rt)) (hr : zsh F a = own2) (h9 : own2 < 9) (h8 : (rest.map zcat).sum ≤ 8) (he : zent maxL [Value.ref a] = ls1) (hl : ls1.length = maxL) (hk : zlok LS 0 ls1 = true) (hm : m + 1 < 212) (k1 : zev x n d m 0 ls1 [] F G = some (r, F1, G1)) (k2 : zev x n (d + 1) M (pc + 3) ls (r.toList ++ rest) F1 G1 = some o) : zev x (n + 1) (d + 1) M pc ls (.ref a :: rest) F G = some o := by
  obtain ⟨mi, hm0⟩ := zop_mi h
  rw [zow_mi hm0] at ho
  subst ho
  obtain ⟨mj, c1, c2⟩ := z_ca (F := F) (way := 2) (as := [Value.ref a]) (rest := rest) (st := .ref a :: rest) hs rfl rfl h8 (by simp) (by simp) (Or.inr (by simp [zrok, hr, h9])) he hl hk hm
  subst c2
  exact zv_call hm0 h hc c1 k1 k2
theorem zsh_nw2 {s N a : Nat} (ha : F.1 = a) : zsh (znewF F s N) a = s := by
  subst ha
  unfold zsh znewF zur
  simp
end ZP
theorem zr1_s : zr1 = some (none, zF2, zG2) := by
  have h := zr1_ok
  unfold zF2 zG2
  generalize zr1 = z at h ⊢
  cases z with
  | none => cases h
  | some q =>
    obtain ⟨a, b, c⟩ := q
    simp only [Option.map_some, Option.some.injEq] at h
    subst h
    rfl
theorem zr2_s : zr2 = some (none, zFz, zGz) := by
  have h := zr2_ok
  unfold zFz zGz
  generalize zr2 = z at h ⊢
  cases z with
  | none => cases h
  | some q =>
    obtain ⟨a, b, c⟩ := q
    simp only [Option.map_some, Option.some.injEq] at h
    subst h
    rfl
theorem zr1_x (x : zXs) : zev x 6000 199 0 0 (zent 2 [.ref 0]) [] zF1 zG1 = some (none, zF2, zG2) := by
  have h := zr1_s
  unfold zr1 at h
  exact zev_dk (zev_any (x := x) _ _ _ _ _ _ _ _ _ h) 139
theorem zr2_x (x : zXs) : zev x 6000 199 128 0 (zent 1 [.ref 59]) [] zF3 zG3 = some (none, zFz, zGz) := by
  have h := zr2_s
  unfold zr2 at h
  exact zev_dk (zev_any (x := x) _ _ _ _ _ _ _ _ _ h) 139
theorem z_pair {α β : Type} (q : α × β) : (q.1, q.2) = q := rfl
theorem z_prol {x : zXs} {Q : Option Value → zG → Prop} (k : E x zFz (139 + 61) 211 15 [some (.double 50), some (.ref 0), none, none] [.ref 59] (zGz.1, zGz.2) Q) : ∃ n r G', zev x n 200 211 0 (zent 4 [.double 50]) [] zF00 zG00 = some (r, zFz, G') ∧ Q r G' := by
  obtain ⟨n, r, G', h, hq⟩ := k
  rw [z_pair] at h
  refine ⟨(((((((n + 6000) + 1) + 1) + 1) + 1) + 1) + 1) + 1, r, G', ?_, hq⟩
  show zev x _ 200 211 0 [some (.double 50), none, none, none] [] zF00 zG00 = _
  refine zv_new zd211_0 (own := 15) (ci := 7) (w := 96) (N := 9) (a := 0) (by decide +kernel) (by decide +kernel) (by omega) (by decide +kernel) rfl ?_
  refine zv_dup zd211_3 rfl ?_
  refine zv_init zd211_4 (own := 15) (nest := false) (w := 98) (by decide +kernel) (by decide +kernel) zs0 (zsh_nw2 rfl) (by omega) (Nat.le_of_ble_eq_true rfl) rfl rfl rfl (by omega) (zev_le (zr1_x x) (by omega)) ?_
  refine zv_astore_n zd211_7 rfl (by decide +kernel) (Nat.le_of_ble_eq_true rfl) ?_
  refine zv_new zd211_8 (own := 15) (ci := 8) (w := 849) (N := 47) (a := 59) (by decide +kernel) (by decide +kernel) (by omega) (by decide +kernel) zF2_n.1 ?_
  refine zv_dup zd211_11 rfl ?_
  refine zv_init zd211_12 (own := 15) (nest := false) (w := 851) (by decide +kernel) (by decide +kernel) zs128 (zsh_nw2 zF2_n.1) (by omega) (Nat.le_of_ble_eq_true rfl) rfl rfl rfl (by omega) (zev_le (zr2_x x) (by omega)) ?_
  exact zev_le h (by omega)
theorem z_run {L : Nat} {xs : Nat → Int32} (hL : L ≤ 3072) : ∃ (n : Nat) (F' : zF) (G' : zG), zev (L, xs) n 200 211 0 (zent 4 [.double 50]) [] zF00 zG00 = some (some (.int 1), F', G') ∧ F'.1 ≤ 600000 ∧ F'.2.1 ≤ 7302250 := by
  have k : E (L, xs) zFz (139 + 61) 211 15 [some (.double 50), some (.ref 0), none, none] [.ref 59] (zGz.1, zGz.2) (fun r _ => r = some (.int 1)) := by
    apply b211_15 zFz_ok
    exact zLaw (x := (L, xs)) zFz_ok (d := 139) hL (fun _ _ => rfl) L 0 0 zGz.1 zGz.2 rfl (Nat.le_of_eq (Nat.zero_add L).symm) (Nat.zero_le _) zRel_0
  obtain ⟨n, r, G', h, hq⟩ := z_prol k
  subst hq
  exact ⟨n, zFz, G', h, by rw [zFz_n.1]; omega, Nat.le_trans zFz_n.2 (Nat.le_of_ble_eq_true rfl)⟩
