/-! How the small machine's state stands in the machine's heap. -/
abbrev zX : Type := (Nat × (Nat → Nat) × (Nat → Nat) × Value) × va_G × (Nat → ClassId) × Heap × zXs
def zB (c : zX) : Nat := c.1.1
def zaK (c : zX) : Nat → Nat := c.1.2.1
def zaV (c : zX) : Nat → Nat := c.1.2.2.1
def zfm (c : zX) : Value := c.1.2.2.2
def zD (c : zX) : va_G := c.2.1
def zcA (c : zX) : Nat → ClassId := c.2.2.1
def zH0 (c : zX) : Heap := c.2.2.2.1
def zxs (c : zX) : zXs := c.2.2.2.2
def ztr (c : zX) : Value → Value
  | .ref a => .ref (zB c + a)
  | .float k => .ref (zaK c k.toNat)
  | .double k => .ref (zaV c k.toNat)
  | .retAddr _ => zfm c
  | v => v
def zrv (c : zX) (o : Option Nat) : Value := va_rf (o.map fun b => zB c + b)
def zfv (c : zX) (F : zF) (G : zG) (ci a k : Nat) : Value := match zty ci k with
  | .int => .int (G.1 a k)
  | .boolean => .int (G.1 a k)
  | .long => .long (G.2 a k)
  | _ => zrv c (zrf F a k)
def zfs (c : zX) (F : zF) (G : zG) (ci a : Nat) : List Value := (List.range (zN ci)).map (zfv c F G ci a)
def zrl (c : zX) (F : zF) (a : Nat) : Nat → Option Nat := fun j => (zrf F a j).map fun b => zB c + b
abbrev zA (c : zX) : Nat → Prop := fun q => zB c ≤ q
def zelt (t : Nat) : FieldType := match t with
  | 0 => .int
  | 1 => .boolean
  | 2 => .object "GleanersForGaps$Text"
  | _ => .object "GleanersForGaps$Sheet"
def ztys (c : zX) : List (ClassId × FieldType) := [(zcA c 0, .int), (zcA c 1, .boolean), (zcA c 2, .object "GleanersForGaps$Text"), (zcA c 3, .object "GleanersForGaps$Sheet")]
theorem ztys_at {c : zX} {t : Nat} (h : t < 4) : (ztys c)[t]? = some (zcA c t, zelt t) := by
  match t, h with
  | 0, _ => rfl
  | 1, _ => rfl
  | 2, _ => rfl
  | 3, _ => rfl
def zI (c : zX) (F : zF) (G : zG) (H : Heap) : Prop :=
  H.size = zB c + F.1 ∧ (∀ q : Nat, q < zB c → H[q]? = (zH0 c)[q]?) ∧
  (∀ a ci : Nat, zsh F a = ci → ci < 9 → va_at (zD c) zcs (zB c + a, .inr (ci, zfs c F G ci a)) H) ∧
  (∀ a t : Nat, zsh F a = 100 + t → t < 2 → va_at (zD c) zcs (zB c + a, .inl (zcA c t, zln F a, .inl (G.1 a))) H) ∧
  (∀ a t : Nat, zsh F a = 100 + t → 2 ≤ t → t < 4 → va_at (zD c) zcs (zB c + a, .inl (zcA c t, zln F a, .inr (.inr (.inr (.inr (zrl c F a)))))) H)
def zKK (c : zX) (U : State) : Prop :=
  va_K (zD c) zcs (ztys c) U ∧ (∀ own idx y, Cond.methodLinkNest own idx y "GleanersForGaps" ∈ lw_tbl → va_Nw (.methodLinkNest own idx y "GleanersForGaps") U) ∧
  (va_AO "GleanersForGaps$Text" U ∧ va_AO "GleanersForGaps$Sheet" U) ∧
  (va_Z "java/lang/String" "COMPACT_STRINGS" "Z" (.int 1) (zA c) U (zH0 c) ∧ va_Z "GleanersForGaps" "KIND_ABOVE" "[I" (.ref (zaV c 0)) (zA c) U (zH0 c) ∧ va_Z "jdk/internal/util/Preconditions" "SIOOBE_FORMATTER" "Ljava/util/function/BiFunction;" (zfm c) (zA c) U (zH0 c)) ∧
  (va_T .int (zaV c 0) 6 (fun j => .int (([-1, 0, 0, 1, 2, 0] : List Int32).getD j 0)) (zA c) U (zH0 c) ∧ va_T .int (zaV c 50) (zxs c).1 (fun j => .int ((zxs c).2 j)) (zA c) U (zH0 c)) ∧
  vk_S 12 (zbl.map List.length) zbl (zaK c) (fun k => zaV c (1 + k)) (zA c) U (zH0 c) ∧
  (∀ (k : Nat) (q : Nat × Nat × String × Nat), zsl[k]? = some q → vk_R (zC q.1) q.2.1 q.2.2.1 (zaK c k) U)
def zCx (c : zX) : Prop := (zH0 c).size = zB c ∧ (zfm c = .null ∨ ∃ a, zfm c = .ref a)
theorem zKK_warm {c : zX} {s U : State} (h : zKK c s) (hW : s.WarmedH U.vm) : zKK c U := by
  obtain ⟨h1, h2, ⟨h3, h4⟩, ⟨h5, h6, h7⟩, ⟨h8, h9⟩, h10, h11⟩ := h
  have hA := hW.alike
  exact ⟨h1.moved hA, fun own idx y hw => (h2 own idx y hw).warmM hW, ⟨h3.moved hA, h4.moved hA⟩, ⟨h5.moved hA, h6.moved hA, h7.moved hA⟩, ⟨h8.moved hA, h9.moved hA⟩, h10.moved hA, fun k q hq => (h11 k q hq).warm hW⟩
theorem zKK_vm {c : zX} {s U : State} (h : zKK c s) (hv : U.vm = s.vm) : zKK c U := by
  obtain ⟨h1, h2, ⟨h3, h4⟩, ⟨h5, h6, h7⟩, ⟨h8, h9⟩, h10, h11⟩ := h
  have hA : s.vm.Alike U.vm := by rw [hv]; exact Vm.Alike.refl _
  exact ⟨h1.moved hA, fun own idx y hw => va_Nw.same rfl hv.symm (h2 own idx y hw), ⟨h3.moved hA, h4.moved hA⟩, ⟨h5.moved hA, h6.moved hA, h7.moved hA⟩, ⟨h8.moved hA, h9.moved hA⟩, h10.moved hA, fun k q hq => (h11 k q hq).same hv⟩
theorem zcs_of {ci : Nat} {q : vw_C} (h : zcs[ci]? = some q) : ci < 9 ∧ q = zclw ci := by
  have hl : ci < 9 := by
    have := (List.getElem?_eq_some_iff.mp h).1
    simpa [zcs] using this
  rw [zcs_at hl] at h
  exact ⟨hl, (Option.some.inj h).symm⟩
theorem zfs_len {c : zX} {F : zF} {G : zG} {ci a : Nat} : (zfs c F G ci a).length = zN ci := by simp [zfs]
theorem zfs_at {c : zX} {F : zF} {G : zG} {ci a k : Nat} (h : k < zN ci) : (zfs c F G ci a)[k]? = some (zfv c F G ci a k) := by simp [zfs, h]
theorem zfs_congr {c : zX} {F F' : zF} {G G' : zG} {ci a : Nat} (h : ∀ k, k < zN ci → zfv c F' G' ci a k = zfv c F G ci a k) : zfs c F' G' ci a = zfs c F G ci a := by
  unfold zfs
  exact List.map_congr_left fun k hk => h k (List.mem_range.mp hk)
theorem zfv_congr {c : zX} {F F' : zF} {G G' : zG} {ci a k : Nat} (h1 : G'.1 a k = G.1 a k) (h2 : G'.2 a k = G.2 a k) (h3 : zrf F' a k = zrf F a k) : zfv c F' G' ci a k = zfv c F G ci a k := by
  unfold zfv
  rw [h1, h2, h3]
theorem zfs_set {c : zX} {F F' : zF} {G G' : zG} {ci a k : Nat} {v : Value} (hk : k < zN ci) (h1 : zfv c F' G' ci a k = v) (h2 : ∀ j, j ≠ k → zfv c F' G' ci a j = zfv c F G ci a j) : zfs c F' G' ci a = (zfs c F G ci a).set k v := by
  refine List.ext_getElem? fun j => ?_
  by_cases hj : j = k
  · subst hj
    rw [zfs_at hk, List.getElem?_set_self (by rw [zfs_len]; exact hk), h1]
  · rw [List.getElem?_set_ne (Ne.symm hj)]
    by_cases hl : j < zN ci
    · rw [zfs_at hl, zfs_at hl, h2 j hj]
    · rw [List.getElem?_eq_none (by rw [zfs_len]; omega), List.getElem?_eq_none (by rw [zfs_len]; omega)]
/-- one cell changes -/
theorem zI_upd {c : zX} {F F' : zF} {G G' : zG} {H H' : Heap} {a : Nat} (hI : zI c F G H) (hz : H'.size = H.size) (oq : ∀ q : Nat, q ≠ zB c + a → H'[q]? = H[q]?)
    (e1 : F'.1 = F.1) (e2 : ∀ b, zsh F' b = zsh F b) (e3 : ∀ b, zln F' b = zln F b) (e4 : ∀ b, b ≠ a → F'.2.2.2.2 b = F.2.2.2.2 b) (e5 : ∀ b, b ≠ a → G'.1 b = G.1 b) (e6 : ∀ b, b ≠ a → G'.2 b = G.2 b)
    (n1 : ∀ ci : Nat, zsh F a = ci → ci < 9 → va_at (zD c) zcs (zB c + a, .inr (ci, zfs c F' G' ci a)) H')
    (n2 : ∀ t : Nat, zsh F a = 100 + t → t < 2 → va_at (zD c) zcs (zB c + a, .inl (zcA c t, zln F a, .inl (G'.1 a))) H')
    (n3 : ∀ t : Nat, zsh F a = 100 + t → 2 ≤ t → t < 4 → va_at (zD c) zcs (zB c + a, .inl (zcA c t, zln F a, .inr (.inr (.inr (.inr (zrl c F' a)))))) H') : zI c F' G' H' := by
  obtain ⟨i1, i2, i3, i4, i5⟩ := hI
  refine ⟨by rw [hz, i1, e1], fun q hq => ?_, fun b ci hb hc => ?_, fun b t hb ht => ?_, fun b t hb h2 h4 => ?_⟩
  · rw [oq q (by omega)]
    exact i2 q hq
  · rw [e2] at hb
    by_cases hba : b = a
    · subst hba
      exact n1 ci hb hc
    · have h := (i3 b ci hb hc).kept (oq (zB c + b) (by omega))
      rwa [← zfs_congr (F' := F') (G' := G') (fun k _ => zfv_congr (by rw [e5 b hba]) (by rw [e6 b hba]) (by unfold zrf; rw [e4 b hba]))] at h
  · rw [e2] at hb
    by_cases hba : b = a
    · subst hba
      rw [e3]
      exact n2 t hb ht
    · have h := (i4 b t hb ht).kept (oq (zB c + b) (by omega))
      rw [e3, e5 b hba]
      exact h
  · rw [e2] at hb
    by_cases hba : b = a
    · subst hba
      rw [e3]
      exact n3 t hb h2 h4
    · have h := (i5 b t hb h2 h4).kept (oq (zB c + b) (by omega))
      have e : zrl c F' b = zrl c F b := by funext j; unfold zrl zrf; rw [e4 b hba]
      rw [e3, e]
      exact h
theorem zur_s {α : Type} {V : Nat → α} {a : Nat} {f : α} : zur V a f a = f := by simp [zur]
theorem zur_n {α : Type} {V : Nat → α} {a b : Nat} {f : α} (h : b ≠ a) : zur V a f b = V b := by simp [zur, h]
theorem zu_n {α : Type} {V : Nat → Nat → α} {a k b : Nat} {v : α} (h : b ≠ a) : zu V a k v b = V b := by simp [zu, h]
theorem zu_s {α : Type} {V : Nat → Nat → α} {a k : Nat} {v : α} : zu V a k v a k = v := by simp [zu]
theorem zu_o {α : Type} {V : Nat → Nat → α} {a k j : Nat} {v : α} (h : j ≠ k) : zu V a k v a j = V a j := by simp [zu, h]
theorem zsh_lt {F : zF} {a ci : Nat} (h : zsh F a = ci) (hc : ci ≠ 999) : a < F.1 := by
  unfold zsh at h
  split at h
  · assumption
  · exact absurd h.symm hc
theorem zsh_new {F : zF} {sh len b : Nat} : zsh (znewF F sh len) b = if b = F.1 then sh else zsh F b := by
  unfold zsh znewF zur
  by_cases hb : b = F.1
  · subst hb
    simp
  · by_cases hl : b < F.1
    · have h2 : b < F.1 + 1 := by omega
      simp [hb, hl, h2]
    · have h2 : ¬ b < F.1 + 1 := by omega
      simp [hb, hl, h2]
/-- a new cell -/
theorem zI_new {c : zX} {F : zF} {G : zG} {H H' : Heap} {sh len : Nat} (hI : zI c F G H) (hz : H'.size = H.size + 1) (oq : ∀ q : Nat, q < H.size → H'[q]? = H[q]?)
    (n1 : sh < 9 → va_at (zD c) zcs (zB c + F.1, .inr (sh, zfs c (znewF F sh len) (znewG F G) sh F.1)) H')
    (n2 : ∀ t : Nat, sh = 100 + t → t < 2 → va_at (zD c) zcs (zB c + F.1, .inl (zcA c t, len, .inl (fun _ => 0))) H')
    (n3 : ∀ t : Nat, sh = 100 + t → 2 ≤ t → t < 4 → va_at (zD c) zcs (zB c + F.1, .inl (zcA c t, len, .inr (.inr (.inr (.inr (fun _ => none)))))) H') : zI c (znewF F sh len) (znewG F G) H' := by
  obtain ⟨i1, i2, i3, i4, i5⟩ := hI
  refine ⟨by rw [hz, i1]; rfl, fun q hq => ?_, fun b ci hb hc => ?_, fun b t hb ht => ?_, fun b t hb h2 h4 => ?_⟩
  · rw [oq q (by omega)]
    exact i2 q hq
  · rw [zsh_new] at hb
    by_cases hba : b = F.1
    · rw [if_pos hba] at hb
      subst hba; subst hb
      exact n1 hc
    · rw [if_neg hba] at hb
      have hl := zsh_lt hb (by omega)
      have h := (i3 b ci hb hc).kept (oq (zB c + b) (by omega))
      rwa [← zfs_congr (F' := znewF F sh len) (G' := znewG F G) (fun k _ => zfv_congr (by show zur G.1 F.1 _ b k = _; rw [zur_n hba]) (by show zur G.2 F.1 _ b k = _; rw [zur_n hba]) (by show zur F.2.2.2.2 F.1 _ b k = _; rw [zur_n hba]; rfl))] at h
  · rw [zsh_new] at hb
    by_cases hba : b = F.1
    · rw [if_pos hba] at hb
      subst hba
      have h := n2 t hb ht
      rw [show zln (znewF F sh len) F.1 = len from zur_s, show (znewG F G).1 F.1 = fun _ => 0 from zur_s]
      exact h
    · rw [if_neg hba] at hb
      have hl := zsh_lt hb (by omega)
      have h := (i4 b t hb ht).kept (oq (zB c + b) (by omega))
      rw [show zln (znewF F sh len) b = zln F b from zur_n hba, show (znewG F G).1 b = G.1 b from zur_n hba]
      exact h
  · rw [zsh_new] at hb
    by_cases hba : b = F.1
    · rw [if_pos hba] at hb
      subst hba
      have h := n3 t hb h2 h4
      rw [show zln (znewF F sh len) F.1 = len from zur_s, show zrl c (znewF F sh len) F.1 = fun _ => none from by funext j; unfold zrl zrf znewF; dsimp only; rw [zur_s]; rfl]
      exact h
    · rw [if_neg hba] at hb
      have hl := zsh_lt hb (by omega)
      have h := (i5 b t hb h2 h4).kept (oq (zB c + b) (by omega))
      rw [show zln (znewF F sh len) b = zln F b from zur_n hba, show zrl c (znewF F sh len) b = zrl c F b from by funext j; unfold zrl zrf znewF; dsimp only; rw [zur_n hba]]
      exact h
theorem zupd_eq {V : Nat → Nat → Int32} {a k : Nat} {v : Int32} : zu V a k v a = upd (V a) k v := by funext j; simp [zu, upd]
/-- the locals -/
def zL (c : zX) (LS : List Nat) (nL : Nat) (mls : Array Slot) (ls : zLs) : Prop := mls.size = nL ∧ ls.length = nL ∧ lv_wf mls ∧ (∀ i v, zgt ls i = some v → mls[i]? = some (.val (ztr c v))) ∧ ∀ j x, zgt ls j = some (.long x) → j ∈ LS
theorem zgt_lt {ls : zLs} {i : Nat} {v : Value} (h : zgt ls i = some v) : i < ls.length := by
  unfold zgt at h
  split at h
  · rename_i o ho
    exact (List.getElem?_eq_some_iff.mp ho).1
  · cases h
theorem zgt_set {ls : zLs} {i j : Nat} {o : Option Value} : zgt (ls.set i o) j = if j = i then (if i < ls.length then o else none) else zgt ls j := by
  unfold zgt
  by_cases hj : j = i
  · subst hj
    by_cases hl : j < ls.length
    · rw [List.getElem?_set_self hl]
      simp [hl]
    · rw [List.getElem?_eq_none (by rw [List.length_set]; omega)]
      simp [hl]
  · rw [List.getElem?_set_ne (Ne.symm hj)]
    simp [hj]
/-- the listed locals, as the kit's rows want them -/
def zas (c : zX) (ls : zLs) : List (Nat × Value) := (List.range ls.length).filterMap fun i => (zgt ls i).map fun v => (i, ztr c v)
theorem zas_mem {c : zX} {ls : zLs} {q : Nat × Value} : q ∈ zas c ls ↔ ∃ v, zgt ls q.1 = some v ∧ q.2 = ztr c v := by
  unfold zas
  rw [List.mem_filterMap]
  constructor
  · rintro ⟨i, -, hi⟩
    cases hg : zgt ls i with
    | none => rw [hg] at hi; cases hi
    | some v =>
      rw [hg] at hi
      cases hi
      exact ⟨v, hg, rfl⟩
  · rintro ⟨v, hg, hv⟩
    refine ⟨q.1, List.mem_range.mpr (zgt_lt hg), ?_⟩
    rw [hg]
    show some (q.1, ztr c v) = some q
    rw [← hv]
theorem zL_has {c : zX} {LS : List Nat} {nL : Nat} {mls : Array Slot} {ls : zLs} (h : zL c LS nL mls ls) : lv_has mls nL (zas c ls) := by
  refine ⟨h.1, h.2.2.1, fun q hq => ?_⟩
  obtain ⟨v, hg, hv⟩ := zas_mem.mp hq
  rw [hv]
  exact h.2.2.2.1 _ _ hg
theorem zcat_tr {c : zX} (hc : zCx c) {v : Value} (h : ∀ r, v ≠ .retAddr r → True) : (ztr c v).category = zcat v := by
  cases v with
  | retAddr r =>
    show (zfm c).category = 1
    rcases hc.2 with e | ⟨a, e⟩ <;> rw [e] <;> rfl
  | _ => rfl
theorem zcats {c : zX} (hc : zCx c) (st : List Value) : ((st.map (ztr c)).map fun v => v.category).sum = (st.map zcat).sum := by
  rw [List.map_map]
  congr 1
  exact List.map_congr_left fun v _ => zcat_tr hc (fun _ _ => trivial)
theorem ztr_isr {c : zX} {v : Value} (h : zisr v = true) : ∃ a, ztr c v = .ref a := by
  cases v <;> first | exact ⟨_, rfl⟩ | cases h
theorem ztr_long {c : zX} (hc : zCx c) {v : Value} (h : (ztr c v).category = 2) : ∃ x, v = .long x := by
  rw [zcat_tr hc (fun _ _ => trivial)] at h
  cases v <;> first | exact ⟨_, rfl⟩ | (simp [zcat] at h)
/-- behind a store of one slot -/
theorem zL_st1 {c : zX} (hc : zCx c) {LS : List Nat} {nL i : Nat} {mls mls' : Array Slot} {ls : zLs} {v : Value} (h : zL c LS nL mls ls) (hi : i < ls.length) (hv : ∀ x, v ≠ .long x) (hLS : ∀ j ∈ LS, j + 1 ≠ i ∧ j ≠ i)
    (h' : lv_has mls' nL ((i, ztr c v) :: (zas c ls).filter (fun q => !(q.1 == i) && !(q.1 + 1 == i && q.2.category == 2)))) : zL c LS nL mls' (ls.set i (some v)) := by
  refine ⟨h'.1, by rw [List.length_set]; exact h.2.1, h'.2.1, fun j w hw => ?_, fun j x hx => ?_⟩
  · rw [zgt_set] at hw
    by_cases hj : j = i
    · rw [if_pos hj, if_pos hi] at hw
      cases hw
      subst hj
      exact h'.2.2 (j, ztr c v) List.mem_cons_self
    · rw [if_neg hj] at hw
      refine h'.2.2 (j, ztr c w) (List.mem_cons_of_mem _ (List.mem_filter.mpr ⟨zas_mem.mpr ⟨w, hw, rfl⟩, ?_⟩))
      have h1 : (j == i) = false := by simpa using hj
      simp only [h1, Bool.not_false, Bool.true_and, Bool.not_eq_true', Bool.and_eq_false_iff, beq_eq_false_iff_ne]
      by_cases h2 : j + 1 = i
      · refine Or.inr fun h3 => ?_
        obtain ⟨x, rfl⟩ := ztr_long hc h3
        exact (hLS j (h.2.2.2.2 j x hw)).1 h2
      · exact Or.inl h2
  · rw [zgt_set] at hx
    by_cases hj : j = i
    · rw [if_pos hj, if_pos hi] at hx
      exact absurd (Option.some.inj hx) (hv x)
    · rw [if_neg hj] at hx
      exact h.2.2.2.2 j x hx
theorem zL_st2 {c : zX} (hc : zCx c) {LS : List Nat} {nL i : Nat} {mls mls' : Array Slot} {ls : zLs} {x : Int64} (h : zL c LS nL mls ls) (hi : i + 1 < ls.length) (hm : i ∈ LS) (hLS : ∀ j ∈ LS, j + 1 ≠ i ∧ j ≠ i + 1)
    (h' : lv_has mls' nL ((i, .long x) :: (zas c ls).filter (fun q => !(q.1 == i) && (!(q.1 == i + 1) && !(q.1 + 1 == i && q.2.category == 2))))) : zL c LS nL mls' ((ls.set i (some (.long x))).set (i + 1) none) := by
  refine ⟨h'.1, by rw [List.length_set, List.length_set]; exact h.2.1, h'.2.1, fun j w hw => ?_, fun j y hx => ?_⟩
  · rw [zgt_set] at hw
    by_cases hj : j = i + 1
    · rw [if_pos hj] at hw
      split at hw <;> cases hw
    · rw [if_neg hj, zgt_set] at hw
      by_cases hj2 : j = i
      · rw [if_pos hj2, if_pos (by omega)] at hw
        cases hw
        subst hj2
        exact h'.2.2 (j, .long x) List.mem_cons_self
      · rw [if_neg hj2] at hw
        refine h'.2.2 (j, ztr c w) (List.mem_cons_of_mem _ (List.mem_filter.mpr ⟨zas_mem.mpr ⟨w, hw, rfl⟩, ?_⟩))
        have h1 : (j == i) = false := by simpa using hj2
        have h1' : (j == i + 1) = false := by simpa using hj
        simp only [h1, h1', Bool.not_false, Bool.true_and, Bool.not_eq_true', Bool.and_eq_false_iff, beq_eq_false_iff_ne]
        by_cases h2 : j + 1 = i
        · refine Or.inr fun h3 => ?_
          obtain ⟨y, rfl⟩ := ztr_long hc h3
          exact (hLS j (h.2.2.2.2 j y hw)).1 h2
        · exact Or.inl h2
  · rw [zgt_set] at hx
    by_cases hj : j = i + 1
    · rw [if_pos hj] at hx
      split at hx <;> cases hx
    · rw [if_neg hj, zgt_set] at hx
      by_cases hj2 : j = i
      · rw [hj2]; exact hm
      · rw [if_neg hj2] at hx
        exact h.2.2.2.2 j y hx
