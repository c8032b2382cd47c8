/-! Each instruction of the small machine is the machine's. -/
def zFr (c : zX) (p : Program) (R : Room) (s : State) (m : MethodId) (args : Array Value) (meth : Method) (cd : Code) (mi : zE) (d : Nat) : Prop :=
  p.tables.exec = Jvm.exec ∧ cd.code = mi.2.2.1 ∧ cd.maxLocals = mi.2.2.2.1 ∧ s.vm.findClass (zC mi.1) = some m.cls ∧ (∀ w ∈ ztb, w.before args s = true) ∧ zKK c s ∧ zCx c ∧ (mi.2.1.name = "<init>" → meth.name = "<init>") ∧ (∀ q : Nat, q < zB c → s.heap[q]? = (zH0 c)[q]?) ∧ zB c ≤ s.heap.size ∧ d + 1 ≤ R.frames ∧ 64 * (d + 1) ≤ R.locals
abbrev zGo (c : zX) (p : Program) (l : Launch) (e : Env) (R : Room) (s : State) (m : MethodId) (args : Array Value) (below : List Frame) (meth : Method) (cd : Code) (Q : State → Prop) (LS : List Nat) (nL n0 s0 : Nat) (q : zCf) : Prop :=
  ∀ (H1 : Heap) (locs1 : List Loc) (mls1 : Array Slot) (cells1 slots1 : Nat), zI c q.2.2.2.1 q.2.2.2.2 H1 → (∀ x ∈ locs1, zB c ≤ x.base) → zL c LS nL mls1 q.2.1 → cells1 + n0 = q.2.2.2.1.1 → slots1 + s0 = q.2.2.2.1.2.1 → W p l e R s m args below meth cd H1 locs1 cells1 slots1 Q (F0 m q.1 mls1 (q.2.2.1.map (ztr c)))
theorem zld_inv {i n : Nat} {ok : Value → Bool} {ls : zLs} {st : List Value} {F : zF} {G : zG} {q : zCf} (h : zld i ok n ls st F G = some q) : ∃ v, zgt ls i = some v ∧ ok v = true ∧ q = (n, ls, v :: st, F, G) := by
  unfold zld at h
  split at h
  · rename_i v hv
    split at h
    · rename_i ho
      exact ⟨v, hv, ho, (Option.some.inj h).symm⟩
    · cases h
  · cases h
theorem zki_inv {v : Value} (h : zki v = true) : ∃ x, v = .int x := by
  cases v <;> first | exact ⟨_, rfl⟩ | cases h
theorem zkl_inv {v : Value} (h : zkl2 v = true) : ∃ x, v = .long x := by
  cases v <;> first | exact ⟨_, rfl⟩ | cases h
theorem zisr_nl {v : Value} (h : zisr v = true) : ∀ x, v ≠ .long x := by
  intro x e
  subst e
  cases h
theorem zst1_inv {i n : Nat} {ok : Value → Bool} {LS : List Nat} {ls : zLs} {st : List Value} {F : zF} {G : zG} {q : zCf} (h : zst1 i ok LS n ls st F G = some q) : ∃ v rest, st = v :: rest ∧ ok v = true ∧ i < ls.length ∧ (∀ j ∈ LS, j + 1 ≠ i ∧ j ≠ i) ∧ q = (n, ls.set i (some v), rest, F, G) := by
  unfold zst1 at h
  split at h
  · rename_i v rest
    split at h
    · rename_i ho
      exact ⟨v, rest, rfl, ho.1, ho.2.1, ho.2.2, (Option.some.inj h).symm⟩
    · cases h
  · cases h
theorem zst2_inv {i n : Nat} {LS : List Nat} {ls : zLs} {st : List Value} {F : zF} {G : zG} {q : zCf} (h : zst2 i LS n ls st F G = some q) : ∃ x rest, st = .long x :: rest ∧ i + 1 < ls.length ∧ i ∈ LS ∧ (∀ j ∈ LS, j + 1 ≠ i ∧ j ≠ i + 1) ∧ q = (n, (ls.set i (some (.long x))).set (i + 1) none, rest, F, G) := by
  unfold zst2 at h
  split at h
  · rename_i x rest
    split at h
    · rename_i ho
      exact ⟨x, rest, rfl, ho.1, ho.2.1, ho.2.2, (Option.some.inj h).symm⟩
    · cases h
  · cases h
theorem zbin_inv {f : Int32 → Int32 → Option Int32} {n : Nat} {ls : zLs} {st : List Value} {F : zF} {G : zG} {q : zCf} (h : zbin f n ls st F G = some q) : ∃ x y rest v, st = .int y :: .int x :: rest ∧ f x y = some v ∧ q = (n, ls, .int v :: rest, F, G) := by
  unfold zbin at h
  split at h
  · rename_i y x rest
    split at h
    · rename_i v hv
      exact ⟨x, y, rest, v, rfl, hv, (Option.some.inj h).symm⟩
    · cases h
  · cases h
theorem zbin2_inv {f : Int64 → Int64 → Option Int64} {n : Nat} {ls : zLs} {st : List Value} {F : zF} {G : zG} {q : zCf} (h : zbin2 f n ls st F G = some q) : ∃ x y rest v, st = .long y :: .long x :: rest ∧ f x y = some v ∧ q = (n, ls, .long v :: rest, F, G) := by
  unfold zbin2 at h
  split at h
  · rename_i y x rest
    split at h
    · rename_i v hv
      exact ⟨x, y, rest, v, rfl, hv, (Option.some.inj h).symm⟩
    · cases h
  · cases h
theorem zun_inv {f : Int32 → Value} {n : Nat} {ls : zLs} {st : List Value} {F : zF} {G : zG} {q : zCf} (h : zun f n ls st F G = some q) : ∃ x rest, st = .int x :: rest ∧ q = (n, ls, f x :: rest, F, G) := by
  unfold zun at h
  split at h
  · rename_i x rest
    exact ⟨x, rest, rfl, (Option.some.inj h).symm⟩
  · cases h
theorem zpj_inv {pc tg : Nat} {off : Int} (h : zpj pc off = some tg) : (pc : Int) + off = (tg : Int) := by
  unfold zpj at h
  split at h
  · rename_i h0
    cases h
    omega
  · cases h
theorem zbr_inv {t : Bool} {pc : Nat} {off : Int} {ls : zLs} {st : List Value} {F : zF} {G : zG} {q : zCf} (h : zbr t pc off ls st F G = some q) : ∃ tg : Nat, (pc : Int) + off = (tg : Int) ∧ ((t = true ∧ q = (tg, ls, st, F, G)) ∨ (t = false ∧ q = (pc + 3, ls, st, F, G))) := by
  unfold zbr at h
  split at h
  · rename_i tg ht
    refine ⟨tg, zpj_inv ht, ?_⟩
    split at h
    · rename_i h1
      exact Or.inl ⟨h1, (Option.some.inj h).symm⟩
    · rename_i h1
      exact Or.inr ⟨by simpa using h1, (Option.some.inj h).symm⟩
  · cases h
theorem zix_in {i : Int32} {n : Nat} (h : zix i n = true) : vp_in i n := by
  have h1 : ¬ (i < 0 ∨ n ≤ i.toNatClampNeg) := of_decide_eq_true h
  exact h1
section ZS
variable {c : zX} {p : Program} {l : Launch} {e : Env} {R : Room} {s : State} {m : MethodId} {args : Array Value} {below : List Frame} {meth : Method} {cd : Code} {H : Heap} {locs : List Loc} {cells slots : Nat} {Q : State → Prop} {mi : zE} {d n0 s0 : Nat} {LS : List Nat} {mls : Array Slot}
theorem z_S {F : zF} {G : zG} (hI : zI c F G H) (hlow : ∀ q : Nat, q < zB c → s.heap[q]? = (zH0 c)[q]?) (hss : s.heap.size ≤ H.size) (hlo : ∀ x ∈ locs, zB c ≤ x.base) : va_S (zA c) s.heap H locs :=
  ⟨hss, fun q _ h2 => by
    have hq : q < zB c := Nat.not_le.mp h2
    rw [hI.2.1 q hq, hlow q hq], hlo⟩
theorem z_kept {s : State} (hlow : ∀ q : Nat, q < zB c → s.heap[q]? = (zH0 c)[q]?) : ∀ a : Nat, a < (zH0 c).size → ¬ (zA c) a → s.heap[a]? = (zH0 c)[a]? := fun a _ h => hlow a (Nat.not_le.mp h)
theorem z_P1 {q : Nat × va_E} (h : va_at (zD c) zcs q H) : va_P (zD c) zcs [q] H := fun k x hk => by
  cases k with
  | zero => cases hk; exact h
  | succ k => simp at hk
theorem z_fitb (v : Int32) : fits .boolean (narrow .boolean (.int v)) = true := by
  simp only [narrow, fits]
  obtain ⟨j, hj, e⟩ := pk_andE v (m := 1) 1 (by decide)
  rw [e]
  rcases (show j = 0 ∨ j = 1 by omega) with rfl | rfl <;> decide
theorem z_xt {s : State} {k : Nat} {y : Bool × Nat × (Nat → Int32)} (hKK : zKK c s) (hlow : ∀ q : Nat, q < zB c → s.heap[q]? = (zH0 c)[q]?) (hy : zxt (zxs c) k = some y) : ∃ (_ : Unit) (f : Nat → Value) (cell : Cell), s.heap[zaV c k]? = some cell ∧ s.isArrayOf cell (if y.1 = true then .int else .byte) ∧ cell.vm ≠ .unknown ∧ y.2.1 ≤ cell.slots.size ∧ cell.slots.size.toInt32 = Int32.ofNat y.2.1 ∧ (∀ j : Nat, j < y.2.1 → cell.slots[j]? = some (.int (y.2.2 j))) ∧ ¬ (zA c) (zaV c k) := by
  unfold zxt at hy
  split at hy
  · rename_i h0
    cases hy
    subst h0
    obtain ⟨cell, h1, h2, h3, h4, h5, h6, h7⟩ := hKK.2.2.2.2.1.1.kept (z_kept hlow)
    exact ⟨(), fun _ => .null, cell, h1, h2, h3, h4, h5, h6, h7⟩
  · split at hy
    · rename_i h0
      split at hy
      · cases hy
        subst h0
        obtain ⟨cell, h1, h2, h3, h4, h5, h6, h7⟩ := hKK.2.2.2.2.1.2.kept (z_kept hlow)
        exact ⟨(), fun _ => .null, cell, h1, h2, h3, h4, h5, h6, h7⟩
      · cases hy
    · rename_i hk0 _
      split at hy
      · rename_i lst hl
        cases hy
        have hlt : k - 1 < 12 := by have := (List.getElem?_eq_some_iff.mp hl).1; rw [zsl_len.2] at this; exact this
        obtain ⟨cell, h1, h2, h3, h4, h5, h6, h7⟩ := ((hKK.2.2.2.2.2.1.kept (z_kept hlow)).1 (k - 1) hlt).2.2.2
        have hk : 1 + (k - 1) = k := by omega
        dsimp only at h1 h7
        rw [hk] at h1 h7
        have e1 : (zbl.map List.length).getD (k - 1) 0 = lst.length := by rw [List.getD_eq_getElem?_getD, List.getElem?_map, hl]; rfl
        have e2 : zbl.getD (k - 1) [] = lst := by rw [List.getD_eq_getElem?_getD, hl]; rfl
        rw [e1] at h4 h5 h6
        rw [e2] at h6
        exact ⟨(), fun _ => .null, cell, h1, h2, h3, h4, h5, h6, h7⟩
      · cases hy

theorem z_gf {pc : Nat} {ls : zLs} {st : List Value} {F : zF} {G : zG} {q : zCf} (hx : p.tables.exec = Jvm.exec) (hb : cd.code = mi.2.2.1) {idx ci kf : Nat} (hown : s.vm.findClass (zC mi.1) = some m.cls) (hts : ∀ w ∈ ztb, w.before args s = true) (hKK : zKK c s) (hw : Cond.fieldLink (zC mi.1) idx (zT ci kf).1 (zT ci kf).2.1 (zT ci kf).2.2.1 ∈ ztb ∧ ci < 9 ∧ kf < zN ci) (hI : zI c F G H) (hd : decode mi.2.2.1 pc = .ok (.getfield idx, 3)) (hs : zgf ci kf (pc + 3) ls st F G = some q) (k : zGo c p l e R s m args below meth cd Q LS mi.2.2.2.1 n0 s0 q) (hlo : ∀ x ∈ locs, zB c ≤ x.base) (hL : zL c LS mi.2.2.2.1 mls ls) (hc1 : cells + n0 = F.1) (hc2 : slots + s0 = F.2.1) : W p l e R s m args below meth cd H locs cells slots Q (F0 m pc mls (st.map (ztr c))) := by
  unfold zgf at hs
  split at hs
  · rename_i a rest
    split at hs
    · rename_i hh
      have hat := hI.2.2.1 a ci hh.1 hh.2.2
      have hgo : ∀ v, zfv c F G ci a kf = v → W p l e R s m args below meth cd H locs cells slots Q (F0 m (pc + 3) mls (v :: rest.map (ztr c))) → W p l e R s m args below meth cd H locs cells slots Q (F0 m pc mls ((Value.ref a :: rest).map (ztr c))) := by
        intro v hv h6
        exact va_get (D := zD c) (cl := zcs) (ci := ci) (C := zC ci) (T := zT ci) (N := zN ci) (q0 := 0) (k := kf) hx hb hts (z_uws hh.2.2) hown hKK.1 (z_P1 hat) rfl (zcs_at hh.2.2) hh.2.1 (hts _ hw.1) (fun _ h => by rw [zdec_ok ci hh.2.2 kf hh.2.1] at h ⊢; exact h) (v := v) (by rw [← hv]; exact zfs_at hh.2.1) hd h6
      split at hs
      · rename_i e1
        cases hs
        exact hgo _ (by unfold zfv; rw [e1]; rfl) (k _ _ _ _ _ hI hlo hL hc1 hc2)
      · rename_i e1
        cases hs
        exact hgo _ (by unfold zfv; rw [e1]; rfl) (k _ _ _ _ _ hI hlo hL hc1 hc2)
      · rename_i e1
        cases hs
        exact hgo _ (by unfold zfv; rw [e1]; rfl) (k _ _ _ _ _ hI hlo hL hc1 hc2)
      · rename_i e1
        split at hs
        · rename_i b hb1
          cases hs
          exact hgo _ (by unfold zfv; rw [e1]; dsimp only; rw [hb1]; rfl) (k _ _ _ _ _ hI hlo hL hc1 hc2)
        · cases hs
      · rename_i e1
        split at hs
        · rename_i b hb1
          cases hs
          exact hgo _ (by unfold zfv; rw [e1]; dsimp only; rw [hb1]; rfl) (k _ _ _ _ _ hI hlo hL hc1 hc2)
        · cases hs
      · cases hs
    · cases hs
  · cases hs
theorem z_gj {pc : Nat} {ls : zLs} {st : List Value} {F : zF} {G : zG} {q : zCf} (hx : p.tables.exec = Jvm.exec) (hb : cd.code = mi.2.2.1) {idx kf : Nat} (hown : s.vm.findClass (zC mi.1) = some m.cls) (hts : ∀ w ∈ ztb, w.before args s = true) (hKK : zKK c s) (hlow : ∀ q : Nat, q < zB c → s.heap[q]? = (zH0 c)[q]?) (hSS : va_S (zA c) s.heap H locs) (hw : (kf = 0 ∧ Cond.fieldLink (zC mi.1) idx "java/lang/String" "value" "[B" ∈ ztb) ∨ (kf = 1 ∧ Cond.fieldLink (zC mi.1) idx "java/lang/String" "coder" "B" ∈ ztb)) (hI : zI c F G H) (hd : decode mi.2.2.1 pc = .ok (.getfield idx, 3)) (hs : zgj kf (pc + 3) ls st F G = some q) (k : zGo c p l e R s m args below meth cd Q LS mi.2.2.2.1 n0 s0 q) (hlo : ∀ x ∈ locs, zB c ≤ x.base) (hL : zL c LS mi.2.2.2.1 mls ls) (hc1 : cells + n0 = F.1) (hc2 : slots + s0 = F.2.1) : W p l e R s m args below meth cd H locs cells slots Q (F0 m pc mls (st.map (ztr c))) := by
  unfold zgj at hs
  split at hs
  · rename_i u rest
    split at hs
    · rename_i hu
      have hE := ((hKK.2.2.2.2.2.1).kept (z_kept hlow)).1 u.toNat hu
      rcases hw with ⟨h1, h2⟩ | ⟨h1, h2⟩
      · rw [if_pos h1] at hs
        cases hs
        refine vk_getf hx hb hE.2.2.1 hSS hown (hts _ h2) (fun _ h => h) hd ?_
        have e5 : (UInt64.ofNat (1 + u.toNat)).toNat = 1 + u.toNat := (by decide +kernel : ∀ k, k < 13 → (UInt64.ofNat k).toNat = k) (1 + u.toNat) (by omega)
        have h6 := k _ _ _ _ _ hI hlo hL hc1 hc2
        have e6 : ztr c (.double (UInt64.ofNat (1 + u.toNat))) = .ref (zaV c (1 + u.toNat)) := by show Value.ref (zaV c (UInt64.ofNat (1 + u.toNat)).toNat) = _; rw [e5]
        simp only [List.map_cons, e6] at h6
        exact h6
      · rw [if_neg (by omega)] at hs
        cases hs
        exact vk_getf hx hb hE.2.1 hSS hown (hts _ h2) (fun _ h => h) hd (k _ _ _ _ _ hI hlo hL hc1 hc2)
    · cases hs
  · cases hs
theorem z_put {a ci kf : Nat} {idx pc : Nat} {F : zF} {G : zG} {v : Value} {rest : List Value} (hx : p.tables.exec = Jvm.exec) (hb : cd.code = mi.2.2.1) (hown : s.vm.findClass (zC mi.1) = some m.cls) (hts : ∀ w ∈ ztb, w.before args s = true) (hKK : zKK c s) (hw : Cond.fieldLink (zC mi.1) idx (zT ci kf).1 (zT ci kf).2.1 (zT ci kf).2.2.1 ∈ ztb ∧ ci < 9 ∧ kf < zN ci) (hI : zI c F G H) (ha : zsh F a = ci) (hn : narrow (zty ci kf) v = v) (hfit : fits (zty ci kf) v = true) (hfin : (zT ci kf).2.2.2 = false ∨ (meth.name = "<init>" ∧ mi.1 = ci))
    (hd : decode mi.2.2.1 pc = .ok (.putfield idx, 3)) (kk : ∀ (H1 : Heap) (loc : Loc), H1.size = H.size → (∀ q : Nat, q ≠ zB c + a → H1[q]? = H[q]?) → va_at (zD c) zcs (zB c + a, .inr (ci, (zfs c F G ci a).set kf v)) H1 → loc.base = zB c + a → W p l e R s m args below meth cd H1 (locs ++ [loc]) cells slots Q (F0 m (pc + 3) mls rest)) : W p l e R s m args below meth cd H locs cells slots Q (F0 m pc mls (v :: .ref (zB c + a) :: rest)) := by
  obtain ⟨hw1, hc9, hk⟩ := hw
  have hap := va_apart (own := zC mi.1) (D := zD c) (cl := zcs) (s := s) (args := args) hts (z_uws hc9) (zty ci) (zty_ok ci hc9) (znm_ok ci hc9) hKK.1 (zcs_at hc9)
  obtain ⟨r, h1, cell, q1, q2, q3, q4⟩ := hI.2.2.1 a ci ha hc9
  have hr : r = (zC ci, zT ci, zN ci) := Option.some.inj (h1.symm.trans (zcs_at hc9))
  subst hr
  obtain ⟨hS, hfc, kC, hkC, hkind⟩ := hKK.1.1 ci _ (zcs_at hc9)
  obtain ⟨cf, kf1, fi, f, hi, hsl⟩ := hS kf hk
  have hlay := hts _ (z_uws hc9 _ (u_in_lay hk))
  have hst := (u_facts hfc hkC (u_lays hts (z_uws hc9) hk) hi).1
  have hlk := hts _ hw1
  have hi' := hi
  rw [zdec_ok ci hc9 kf hk] at hlk
  have hi2 : s.fieldFound? (zC ci) (zT ci kf).2.1 (zT ci kf).2.2.1 = some (cf, kf1, fi, f) := by rw [← zdec_ok ci hc9 kf hk]; exact hi
  have end_ : ∀ H' : Heap, H'[zB c + a]? = some (cell.setSlot f.slot v) → H'.size = H.size → (∀ q : Nat, q ≠ zB c + a → H'[q]? = H[q]?) → W p l e R s m args below meth cd H' (locs ++ [⟨zB c + a, f.slot⟩]) cells slots Q (F0 m (pc + 3) mls rest) := by
    intro H' e1 e2 e3
    rw [hsl] at e1
    exact kk H' _ e2 e3 ⟨_, zcs_at hc9, t_OB.to (V := updV (vp_V (zfs c F G ci a)) kf v) ⟨_, e1, q2, q3, t_set q4 hap hk v⟩ (fun j _ => vp_updV_set (by rw [zfs_len]; exact hk) v j)⟩ rfl
  by_cases hff : (zT ci kf).2.2.2 = true
  · rcases hfin with hf | ⟨hf1, hf2⟩
    · rw [hf] at hff; cases hff
    · unfold u_lay at hlay
      rw [if_pos hff] at hlay
      have hcf : m.cls = cf := by
        obtain ⟨_, _, c', _, _, _, -, -, hf', -, -, -, hown2, -⟩ := Cond.laysFinal_spec hlay
        have e1 : c' = cf := by have := hi.symm.trans hf'; simp at this; exact this.1.symm
        rw [zdec_ok ci hc9 kf hk, ← hf2] at hown2
        rw [← e1]; exact Option.some.inj (hown.symm.trans hown2)
      have h6 := u_fits hfc hkC hkind (Or.inr hlay) hi (zty_ok ci hc9 kf hk) hn hfit
      exact W.putFinK hx hb hown hlk hi2 hst hcf hf1 (by rw [q2]; exact h6) q1 q3 (by rw [hsl]; exact k2_hasslot (q4 kf hk)) rfl rfl hd end_
  · unfold u_lay at hlay
    rw [if_neg hff] at hlay
    have h6 := u_store hfc hkC hkind hlay hi (zty_ok ci hc9 kf hk) hn hfit
    exact W.putK hx hb (f := f) ⟨hown, hlk, ⟨_, _, _, hi2⟩, hst⟩ (by rw [q2]; exact h6) q1 q3 (by rw [hsl]; exact k2_hasslot (q4 kf hk)) rfl rfl hd end_
theorem z_lo {a : Nat} {loc : Loc} (hlo : ∀ x ∈ locs, zB c ≤ x.base) (h : loc.base = zB c + a) : ∀ x ∈ locs ++ [loc], zB c ≤ x.base := by
  intro x hx
  rcases List.mem_append.mp hx with h1 | h1
  · exact hlo x h1
  · rw [List.mem_singleton.mp h1, h]; omega
theorem z_pf {pc : Nat} {ls : zLs} {st : List Value} {F : zF} {G : zG} {q : zCf} (hx : p.tables.exec = Jvm.exec) (hb : cd.code = mi.2.2.1) {idx ci kf : Nat} (hown : s.vm.findClass (zC mi.1) = some m.cls) (hts : ∀ w ∈ ztb, w.before args s = true) (hKK : zKK c s) (hnm : mi.2.1.name = "<init>" → meth.name = "<init>") (hw : Cond.fieldLink (zC mi.1) idx (zT ci kf).1 (zT ci kf).2.1 (zT ci kf).2.2.1 ∈ ztb ∧ ci < 9 ∧ kf < zN ci) (hI : zI c F G H) (hd : decode mi.2.2.1 pc = .ok (.putfield idx, 3)) (hs : zpf mi.1 ci kf (mi.2.1.name == "<init>") (pc + 3) ls st F G = some q) (k : zGo c p l e R s m args below meth cd Q LS mi.2.2.2.1 n0 s0 q) (hlo : ∀ x ∈ locs, zB c ≤ x.base) (hL : zL c LS mi.2.2.2.1 mls ls) (hc1 : cells + n0 = F.1) (hc2 : slots + s0 = F.2.1) : W p l e R s m args below meth cd H locs cells slots Q (F0 m pc mls (st.map (ztr c))) := by
  unfold zpf at hs
  split at hs
  · rename_i v a rest
    split at hs
    · rename_i hh
      obtain ⟨ha, hk, hc9, hf⟩ := hh
      have hi1 : ∀ (H1 : Heap), H1.size = H.size → (∀ q : Nat, q ≠ zB c + a → H1[q]? = H[q]?) → va_at (zD c) zcs (zB c + a, .inr (ci, (zfs c F G ci a).set kf (.int v))) H1 → (zty ci kf = .int ∨ zty ci kf = .boolean) → zI c F (zu G.1 a kf v, G.2) H1 := by
        intro H1 z1 o1 at1 hty
        refine zI_upd hI z1 o1 rfl (fun _ => rfl) (fun _ => rfl) (fun _ _ => rfl) (fun b h => zu_n h) (fun _ _ => rfl) (fun ci2 h2 h9 => ?_) (fun t h2 h3 => ?_) (fun t h2 h3 h4 => ?_)
        · have : ci2 = ci := by rw [← h2, ← ha]
          subst this
          rw [zfs_set (F := F) (F' := F) (G := G) (G' := (zu G.1 a kf v, G.2)) (v := .int v) hk (by unfold zfv; rcases hty with e | e <;> rw [e] <;> show Value.int (zu G.1 a kf v a kf) = _ <;> rw [zu_s]) (fun j hj => zfv_congr (show zu G.1 a kf v a j = G.1 a j from zu_o hj) rfl rfl)]
          exact at1
        · omega
        · omega
      split at hs
      · rename_i e1
        cases hs
        exact z_put hx hb hown hts hKK hw hI ha (by rw [e1]; rfl) (by rw [e1]; rfl) (Or.inl hf) hd (fun H1 loc z1 o1 at1 hl => k _ _ _ _ _ (hi1 H1 z1 o1 at1 (Or.inl e1)) (z_lo hlo hl) hL hc1 hc2)
      · rename_i e1
        split at hs
        · rename_i hnr
          cases hs
          exact z_put hx hb hown hts hKK hw hI ha (by rw [e1]; exact hnr) (by rw [e1, ← hnr]; exact z_fitb v) (Or.inl hf) hd (fun H1 loc z1 o1 at1 hl => k _ _ _ _ _ (hi1 H1 z1 o1 at1 (Or.inr e1)) (z_lo hlo hl) hL hc1 hc2)
        · cases hs
      · cases hs
    · cases hs
  · rename_i v a rest
    split at hs
    · rename_i hh
      obtain ⟨ha, hk, hc9, hf⟩ := hh
      split at hs
      · rename_i e1
        cases hs
        refine z_put hx hb hown hts hKK hw hI ha (by rw [e1]; rfl) (by rw [e1]; rfl) (Or.inl hf) hd (fun H1 loc z1 o1 at1 hl => k _ _ _ _ _ ?_ (z_lo hlo hl) hL hc1 hc2)
        refine zI_upd hI z1 o1 rfl (fun _ => rfl) (fun _ => rfl) (fun _ _ => rfl) (fun _ _ => rfl) (fun b h => zu_n h) (fun ci2 h2 h9 => ?_) (fun t h2 h3 => ?_) (fun t h2 h3 h4 => ?_)
        · have : ci2 = ci := by rw [← h2, ← ha]
          subst this
          show va_at (zD c) zcs (zB c + a, .inr (ci2, zfs c F (G.1, zu G.2 a kf v) ci2 a)) H1
          rw [zfs_set (F := F) (F' := F) (G := G) (G' := (G.1, zu G.2 a kf v)) (v := .long v) hk (by unfold zfv; rw [e1]; show Value.long (zu G.2 a kf v a kf) = _; rw [zu_s]) (fun j hj => zfv_congr rfl (show zu G.2 a kf v a j = G.2 a j from zu_o hj) rfl)]
          exact at1
        · omega
        · omega
      · cases hs
    · cases hs
  · rename_i b a rest
    split at hs
    · rename_i hh
      obtain ⟨ha, hk, hc9, hf, hin, ho⟩ := hh
      have hin2 : meth.name = "<init>" := hnm (by simpa using hin)
      have hi1 : ∀ (H1 : Heap), H1.size = H.size → (∀ q : Nat, q ≠ zB c + a → H1[q]? = H[q]?) → va_at (zD c) zcs (zB c + a, .inr (ci, (zfs c F G ci a).set kf (.ref (zB c + b)))) H1 → (∃ o, zty ci kf = .object o) ∨ (∃ o, zty ci kf = .array o) → zI c (zputr F a kf b) G H1 := by
        intro H1 z1 o1 at1 hty
        refine zI_upd hI z1 o1 rfl (fun _ => rfl) (fun _ => rfl) (fun b h => zu_n h) (fun _ _ => rfl) (fun _ _ => rfl) (fun ci2 h2 h9 => ?_) (fun t h2 h3 => ?_) (fun t h2 h3 h4 => ?_)
        · have : ci2 = ci := by rw [← h2, ← ha]
          subst this
          rw [zfs_set (F := F) (F' := zputr F a kf b) (G := G) (G' := G) (v := .ref (zB c + b)) hk (by unfold zfv; rcases hty with ⟨o, e⟩ | ⟨o, e⟩ <;> rw [e] <;> show zrv c (zu F.2.2.2.2 a kf (some b) a kf) = _ <;> rw [zu_s] <;> rfl) (fun j hj => zfv_congr rfl rfl (show zu F.2.2.2.2 a kf (some b) a j = F.2.2.2.2 a j from zu_o hj))]
          exact at1
        · omega
        · omega
      split at hs
      · rename_i o e1
        cases hs
        exact z_put hx hb hown hts hKK hw hI ha (by rw [e1]; rfl) (by rw [e1]; rfl) (Or.inr ⟨hin2, ho⟩) hd (fun H1 loc z1 o1 at1 hl => k _ _ _ _ _ (hi1 H1 z1 o1 at1 (Or.inl ⟨o, e1⟩)) (z_lo hlo hl) hL hc1 hc2)
      · rename_i o e1
        cases hs
        exact z_put hx hb hown hts hKK hw hI ha (by rw [e1]; rfl) (by rw [e1]; rfl) (Or.inr ⟨hin2, ho⟩) hd (fun H1 loc z1 o1 at1 hl => k _ _ _ _ _ (hi1 H1 z1 o1 at1 (Or.inr ⟨o, e1⟩)) (z_lo hlo hl) hL hc1 hc2)
      · cases hs
    · cases hs
  · cases hs
theorem z_al {pc : Nat} {ls : zLs} {st : List Value} {F : zF} {G : zG} {q : zCf} (hx : p.tables.exec = Jvm.exec) (hb : cd.code = mi.2.2.1) (hown : s.vm.findClass (zC mi.1) = some m.cls) (hKK : zKK c s) (hlow : ∀ q : Nat, q < zB c → s.heap[q]? = (zH0 c)[q]?) (hSS : va_S (zA c) s.heap H locs) (hI : zI c F G H) (hd : decode mi.2.2.1 pc = .ok (.arraylength, 1)) (hs : (match st with
    | .ref a :: rest => if 100 ≤ zsh F a ∧ zsh F a < 104 then some (pc + 1, ls, .int (Int32.ofNat (zln F a)) :: rest, F, G) else none
    | .double k :: rest => match zxt (zxs c) k.toNat with
      | some q => some (pc + 1, ls, .int (Int32.ofNat q.2.1) :: rest, F, G)
      | none => none
    | _ => none) = some q) (k : zGo c p l e R s m args below meth cd Q LS mi.2.2.2.1 n0 s0 q) (hlo : ∀ x ∈ locs, zB c ≤ x.base) (hL : zL c LS mi.2.2.2.1 mls ls) (hc1 : cells + n0 = F.1) (hc2 : slots + s0 = F.2.1) : W p l e R s m args below meth cd H locs cells slots Q (F0 m pc mls (st.map (ztr c))) := by
  split at hs
  · rename_i a rest
    split at hs
    · rename_i hh
      cases hs
      obtain ⟨t, ht⟩ : ∃ t, zsh F a = 100 + t := ⟨zsh F a - 100, by omega⟩
      by_cases h2 : t < 2
      · exact va_alen (D := zD c) (cl := zcs) hx hb hKK.1 (z_P1 (hI.2.2.2.1 a t ht h2)) 0 t rfl (ztys_at (by omega)) rfl hd (k _ _ _ _ _ hI hlo hL hc1 hc2)
      · exact va_alen (D := zD c) (cl := zcs) hx hb hKK.1 (z_P1 (hI.2.2.2.2 a t ht (by omega) (by omega))) 0 t rfl (ztys_at (by omega)) rfl hd (k _ _ _ _ _ hI hlo hL hc1 hc2)
    · cases hs
  · rename_i u rest
    split at hs
    · rename_i y hy
      cases hs
      obtain ⟨-, f, cell, h1, h2, h3, h4, h5, -, h7⟩ := z_xt hKK hlow hy
      exact W.alen (n := Int32.ofNat y.2.1) hx hb (by rw [hSS.2.1 _ (Array.getElem?_eq_some_iff.mp h1).1 h7]; exact h1) h2 h5 rfl rfl hd (k _ _ _ _ _ hI hlo hL hc1 hc2)
    · cases hs
  · cases hs
theorem z_ia {pc : Nat} {ls : zLs} {st : List Value} {F : zF} {G : zG} {q : zCf} (hx : p.tables.exec = Jvm.exec) (hb : cd.code = mi.2.2.1) (hown : s.vm.findClass (zC mi.1) = some m.cls) (hKK : zKK c s) (hlow : ∀ q : Nat, q < zB c → s.heap[q]? = (zH0 c)[q]?) (hSS : va_S (zA c) s.heap H locs) (hI : zI c F G H) (hd : decode mi.2.2.1 pc = .ok (.iaload, 1)) (hs : (match st with
    | .int i :: .ref a :: rest => if zsh F a = 100 ∧ zix i (zln F a) = true then some (pc + 1, ls, .int (G.1 a i.toNatClampNeg) :: rest, F, G) else none
    | .int i :: .double k :: rest => match zxt (zxs c) k.toNat with
      | some q => if q.1 = true ∧ zix i q.2.1 = true then some (pc + 1, ls, .int (q.2.2 i.toNatClampNeg) :: rest, F, G) else none
      | none => none
    | _ => none) = some q) (k : zGo c p l e R s m args below meth cd Q LS mi.2.2.2.1 n0 s0 q) (hlo : ∀ x ∈ locs, zB c ≤ x.base) (hL : zL c LS mi.2.2.2.1 mls ls) (hc1 : cells + n0 = F.1) (hc2 : slots + s0 = F.2.1) : W p l e R s m args below meth cd H locs cells slots Q (F0 m pc mls (st.map (ztr c))) := by
  split at hs
  · rename_i i a rest
    split at hs
    · rename_i hh
      cases hs
      exact va_iald (D := zD c) (cl := zcs) hx hb hKK.1 (z_P1 (hI.2.2.2.1 a 0 hh.1 (by omega))) 0 0 rfl rfl (zix_in hh.2) hd (k _ _ _ _ _ hI hlo hL hc1 hc2)
    · cases hs
  · rename_i i u rest
    split at hs
    · rename_i y hy
      split at hs
      · rename_i hh
        cases hs
        obtain ⟨-, f, cell, h1, h2, h3, h4, h5, h6, h7⟩ := z_xt hKK hlow hy
        have hv := zix_in hh.2
        have hlt : i.toNatClampNeg < y.2.1 := Nat.not_le.mp fun z => hv (Or.inr z)
        rw [hh.1] at h2
        exact W.iald (v := .int (y.2.2 i.toNatClampNeg)) hx hb (by rw [hSS.2.1 _ (Array.getElem?_eq_some_iff.mp h1).1 h7]; exact h1) h2 h3 (fun z => hv (z.imp id (fun w => Nat.le_trans h4 w))) (h6 _ hlt) rfl rfl hd (k _ _ _ _ _ hI hlo hL hc1 hc2)
      · cases hs
    · cases hs
  · cases hs
theorem z_ba {pc : Nat} {ls : zLs} {st : List Value} {F : zF} {G : zG} {q : zCf} (hx : p.tables.exec = Jvm.exec) (hb : cd.code = mi.2.2.1) (hown : s.vm.findClass (zC mi.1) = some m.cls) (hKK : zKK c s) (hlow : ∀ q : Nat, q < zB c → s.heap[q]? = (zH0 c)[q]?) (hSS : va_S (zA c) s.heap H locs) (hI : zI c F G H) (hd : decode mi.2.2.1 pc = .ok (.baload, 1)) (hs : (match st with
    | .int i :: .ref a :: rest => if zsh F a = 101 ∧ zix i (zln F a) = true then some (pc + 1, ls, .int (G.1 a i.toNatClampNeg) :: rest, F, G) else none
    | .int i :: .double k :: rest => match zxt (zxs c) k.toNat with
      | some q => if q.1 = false ∧ zix i q.2.1 = true then some (pc + 1, ls, .int (q.2.2 i.toNatClampNeg) :: rest, F, G) else none
      | none => none
    | _ => none) = some q) (k : zGo c p l e R s m args below meth cd Q LS mi.2.2.2.1 n0 s0 q) (hlo : ∀ x ∈ locs, zB c ≤ x.base) (hL : zL c LS mi.2.2.2.1 mls ls) (hc1 : cells + n0 = F.1) (hc2 : slots + s0 = F.2.1) : W p l e R s m args below meth cd H locs cells slots Q (F0 m pc mls (st.map (ztr c))) := by
  split at hs
  · rename_i i a rest
    split at hs
    · rename_i hh
      cases hs
      exact va_zald (D := zD c) (cl := zcs) hx hb hKK.1 (z_P1 (hI.2.2.2.1 a 1 hh.1 (by omega))) 0 1 rfl rfl (zix_in hh.2) hd (k _ _ _ _ _ hI hlo hL hc1 hc2)
    · cases hs
  · rename_i i u rest
    split at hs
    · rename_i y hy
      split at hs
      · rename_i hh
        cases hs
        obtain ⟨-, f, cell, h1, h2, h3, h4, h5, h6, h7⟩ := z_xt hKK hlow hy
        have hv := zix_in hh.2
        have hlt : i.toNatClampNeg < y.2.1 := Nat.not_le.mp fun z => hv (Or.inr z)
        rw [hh.1] at h2
        exact W.bald (v := .int (y.2.2 i.toNatClampNeg)) hx hb (by rw [hSS.2.1 _ (Array.getElem?_eq_some_iff.mp h1).1 h7]; exact h1) h2 h3 (fun z => hv (z.imp id (fun w => Nat.le_trans h4 w))) (h6 _ hlt) rfl rfl hd (k _ _ _ _ _ hI hlo hL hc1 hc2)
      · cases hs
    · cases hs
  · cases hs
theorem z_aa {pc : Nat} {ls : zLs} {st : List Value} {F : zF} {G : zG} {q : zCf} (hx : p.tables.exec = Jvm.exec) (hb : cd.code = mi.2.2.1) (hown : s.vm.findClass (zC mi.1) = some m.cls) (hKK : zKK c s) (hI : zI c F G H) (hd : decode mi.2.2.1 pc = .ok (.aaload, 1)) (hs : (match st with
    | .int i :: .ref a :: rest => if (zsh F a = 102 ∨ zsh F a = 103) ∧ zix i (zln F a) = true then match zrf F a i.toNatClampNeg with
      | some b => some (pc + 1, ls, .ref b :: rest, F, G)
      | none => none else none
    | _ => none) = some q) (k : zGo c p l e R s m args below meth cd Q LS mi.2.2.2.1 n0 s0 q) (hlo : ∀ x ∈ locs, zB c ≤ x.base) (hL : zL c LS mi.2.2.2.1 mls ls) (hc1 : cells + n0 = F.1) (hc2 : slots + s0 = F.2.1) : W p l e R s m args below meth cd H locs cells slots Q (F0 m pc mls (st.map (ztr c))) := by
  split at hs
  · rename_i i a rest
    split at hs
    · rename_i hh
      split at hs
      · rename_i b hb1
        cases hs
        have e6 : zrl c F a i.toNatClampNeg = some (zB c + b) := by unfold zrl; rw [hb1]; rfl
        rcases hh.1 with h1 | h1
        · refine va_aldq (D := zD c) (cl := zcs) (C := "GleanersForGaps$Text") hx hb hKK.1 (z_P1 (hI.2.2.2.2 a 2 h1 (by omega) (by omega))) 0 2 rfl rfl (zix_in hh.2) hd ?_
          rw [e6]
          exact k _ _ _ _ _ hI hlo hL hc1 hc2
        · refine va_aldq (D := zD c) (cl := zcs) (C := "GleanersForGaps$Sheet") hx hb hKK.1 (z_P1 (hI.2.2.2.2 a 3 h1 (by omega) (by omega))) 0 3 rfl rfl (zix_in hh.2) hd ?_
          rw [e6]
          exact k _ _ _ _ _ hI hlo hL hc1 hc2
      · cases hs
    · cases hs
  · cases hs
theorem z_is {pc : Nat} {ls : zLs} {st : List Value} {F : zF} {G : zG} {q : zCf} (hx : p.tables.exec = Jvm.exec) (hb : cd.code = mi.2.2.1) (hown : s.vm.findClass (zC mi.1) = some m.cls) (hKK : zKK c s) (hI : zI c F G H) (hd : decode mi.2.2.1 pc = .ok (.iastore, 1)) (hs : (match st with
    | .int v :: .int i :: .ref a :: rest => if zsh F a = 100 ∧ zix i (zln F a) = true then some (pc + 1, ls, rest, F, (zu G.1 a i.toNatClampNeg v, G.2)) else none
    | _ => none) = some q) (k : zGo c p l e R s m args below meth cd Q LS mi.2.2.2.1 n0 s0 q) (hlo : ∀ x ∈ locs, zB c ≤ x.base) (hL : zL c LS mi.2.2.2.1 mls ls) (hc1 : cells + n0 = F.1) (hc2 : slots + s0 = F.2.1) : W p l e R s m args below meth cd H locs cells slots Q (F0 m pc mls (st.map (ztr c))) := by
  split at hs
  · rename_i v i a rest
    split at hs
    · rename_i hh
      cases hs
      have hat := hI.2.2.2.1 a 0 hh.1 (by omega)
      refine W.iast hx hb hat ((hKK.1.2 0 _ (ztys_at (by omega))).1 (zln F a) (fun j => .int (G.1 a j))) (fun z => by cases z) (by show ¬ (i < 0 ∨ (arrV _ _ _).slots.size ≤ _); rw [arrV_size]; exact zix_in hh.2) rfl rfl hd fun H1 e z oq => ?_
      refine k _ _ _ _ _ (zI_upd hI z oq rfl (fun _ => rfl) (fun _ => rfl) (fun _ _ => rfl) (fun b h => zu_n h) (fun _ _ => rfl) (fun ci h2 h9 => ?_) (fun t h2 h3 => ?_) (fun t h2 h3 h4 => ?_)) (z_lo hlo rfl) hL hc1 hc2
      · omega
      · have ht : t = 0 := by omega
        subst ht
        show H1[zB c + a]? = some (vp_cell _ _)
        rw [e]
        rw [vp_cell_i, vp_cell_i, arrV_store]
        congr 2
        funext z
        by_cases hz : z = i.toNatClampNeg
        · subst hz
          simp [updV, zu]
        · simp [updV, zu, hz]
      · omega
    · cases hs
  · cases hs
theorem z_bs {pc : Nat} {ls : zLs} {st : List Value} {F : zF} {G : zG} {q : zCf} (hx : p.tables.exec = Jvm.exec) (hb : cd.code = mi.2.2.1) (hown : s.vm.findClass (zC mi.1) = some m.cls) (hKK : zKK c s) (hI : zI c F G H) (hd : decode mi.2.2.1 pc = .ok (.bastore, 1)) (hs : (match st with
    | .int v :: .int i :: .ref a :: rest => if zsh F a = 101 ∧ zix i (zln F a) = true then some (pc + 1, ls, rest, F, (zu G.1 a i.toNatClampNeg (vp_nar .boolean v), G.2)) else none
    | _ => none) = some q) (k : zGo c p l e R s m args below meth cd Q LS mi.2.2.2.1 n0 s0 q) (hlo : ∀ x ∈ locs, zB c ≤ x.base) (hL : zL c LS mi.2.2.2.1 mls ls) (hc1 : cells + n0 = F.1) (hc2 : slots + s0 = F.2.1) : W p l e R s m args below meth cd H locs cells slots Q (F0 m pc mls (st.map (ztr c))) := by
  split at hs
  · rename_i v i a rest
    split at hs
    · rename_i hh
      cases hs
      have hat := hI.2.2.2.1 a 1 hh.1 (by omega)
      refine W.zast hx hb hat ((hKK.1.2 1 _ (ztys_at (by omega))).1 (zln F a) (fun j => .int (G.1 a j))) (fun z => by cases z) (by show ¬ (i < 0 ∨ (arrV _ _ _).slots.size ≤ _); rw [arrV_size]; exact zix_in hh.2) rfl rfl hd fun H1 e z oq => ?_
      refine k _ _ _ _ _ (zI_upd hI z oq rfl (fun _ => rfl) (fun _ => rfl) (fun _ _ => rfl) (fun b h => zu_n h) (fun _ _ => rfl) (fun ci h2 h9 => ?_) (fun t h2 h3 => ?_) (fun t h2 h3 h4 => ?_)) (z_lo hlo rfl) hL hc1 hc2
      · omega
      · have ht : t = 1 := by omega
        subst ht
        show H1[zB c + a]? = some (vp_cell _ _)
        rw [e]
        rw [vp_cell_i, vp_cell_i, arrV_store]
        congr 2
        funext z
        by_cases hz : z = i.toNatClampNeg
        · subst hz
          simp [updV, zu, vp_nar]
          try rfl
        · simp [updV, zu, hz]
      · omega
    · cases hs
  · cases hs
theorem z_as {pc : Nat} {ls : zLs} {st : List Value} {F : zF} {G : zG} {q : zCf} (hx : p.tables.exec = Jvm.exec) (hb : cd.code = mi.2.2.1) (hown : s.vm.findClass (zC mi.1) = some m.cls) (hKK : zKK c s) (hI : zI c F G H) (hd : decode mi.2.2.1 pc = .ok (.aastore, 1)) (hs : (match st with
    | .ref b :: .int i :: .ref a :: rest => if ((zsh F a = 102 ∧ zsh F b = 6) ∨ (zsh F a = 103 ∧ zsh F b = 3)) ∧ zix i (zln F a) = true then some (pc + 1, ls, rest, zputr F a i.toNatClampNeg b, G) else none
    | _ => none) = some q) (k : zGo c p l e R s m args below meth cd Q LS mi.2.2.2.1 n0 s0 q) (hlo : ∀ x ∈ locs, zB c ≤ x.base) (hL : zL c LS mi.2.2.2.1 mls ls) (hc1 : cells + n0 = F.1) (hc2 : slots + s0 = F.2.1) : W p l e R s m args below meth cd H locs cells slots Q (F0 m pc mls (st.map (ztr c))) := by
  split at hs
  · rename_i b i a rest
    split at hs
    · rename_i hh
      cases hs
      have hv := zix_in hh.2
      have hlt : i.toNatClampNeg < zln F a := Nat.not_le.mp fun z => hv (Or.inr z)
      have h0 : ¬ i < 0 := fun z => hv (Or.inl z)
      have go : ∀ t ci : Nat, zsh F a = 100 + t → 2 ≤ t → t < 4 → zsh F b = ci → ci < 9 → zelt t = .object (zC ci) → W p l e R s m args below meth cd H locs cells slots Q (F0 m pc mls ((Value.ref b :: Value.int i :: Value.ref a :: rest).map (ztr c))) := by
        intro t ci hta h2 h4 hcb hc9 he
        have hat := hI.2.2.2.2 a t hta h2 h4
        obtain ⟨r', hr', cellV, g1, g2, g3, -⟩ := hI.2.2.1 b ci hcb hc9
        have hcls := (hKK.1.1 ci _ (zcs_at hc9)).2
        have hRA := (hKK.1.2 t _ (ztys_at h4)).2
        dsimp only at hRA
        rw [he] at hRA
        obtain ⟨kA, comp, k1, k2, k3, -⟩ := hRA
        have hcomp : comp = (zD c).1 ci := Option.some.inj (k3.symm.trans hcls.1)
        subst hcomp
        obtain ⟨kC, hkC, -⟩ := hcls.2
        refine W.aast hx hb hat (fun z h => by cases h) (fun h => by cases h) k1 k2 rfl hkC ⟨h0, by show _ < (arrV _ _ _).slots.size; rw [arrV_size]; exact hlt⟩ g1 (fun z h => by rw [g3] at h; cases h) (by rw [g2]; exact hkC) (by rw [g2]; exact va_assign hcls) rfl rfl hd fun H1 e z oq => ?_
        refine k _ _ _ _ _ (zI_upd hI z oq rfl (fun _ => rfl) (fun _ => rfl) (fun b h => zu_n h) (fun _ _ => rfl) (fun _ _ => rfl) (fun ci h2 h9 => ?_) (fun t h2 h3 => ?_) (fun t2 h2 h3 h4 => ?_)) (z_lo hlo rfl) hL hc1 hc2
        · omega
        · omega
        · have ht : t2 = t := by omega
          subst ht
          show H1[zB c + a]? = some (vp_cell _ _)
          rw [e]
          rw [vp_cell_q, vp_cell_q, arrV_store]
          congr 2
          funext z
          by_cases hz : z = i.toNatClampNeg
          · subst hz
            simp [updV, zu, zrl, zrf, zputr, va_rf]
          · simp [updV, zu, zrl, zrf, zputr, hz]
      rcases hh.1 with ⟨h1, h2⟩ | ⟨h1, h2⟩
      · exact go 2 6 h1 (by omega) (by omega) h2 (by omega) rfl
      · exact go 3 3 h1 (by omega) (by omega) h2 (by omega) rfl
    · cases hs
  · cases hs
theorem z_nn {v : Int32} (h : v.toNatClampNeg ≤ 100000) : v.toNatClampNeg * 4 ≤ 536870912 := by omega
theorem z_na {pc : Nat} {ls : zLs} {st : List Value} {F : zF} {G : zG} {q : zCf} (hx : p.tables.exec = Jvm.exec) (hb : cd.code = mi.2.2.1) {t : ArrayType} (hts : ∀ w ∈ ztb, w.before args s = true) (hKK : zKK c s) (hI : zI c F G H) (hd : decode mi.2.2.1 pc = .ok (.newarray t, 2)) (hs : (match st with
    | .int v :: rest => if ¬ v < 0 ∧ v.toNatClampNeg ≤ 100000 ∧ (t = .int ∨ t = .boolean) then some (pc + 2, ls, .ref F.1 :: rest, znewF F (if t = .int then 100 else 101) v.toNatClampNeg, znewG F G) else none
    | _ => none) = some q) (k : zGo c p l e R s m args below meth cd Q LS mi.2.2.2.1 n0 s0 q) (hlo : ∀ x ∈ locs, zB c ≤ x.base) (hL : zL c LS mi.2.2.2.1 mls ls) (hc1 : cells + n0 = F.1) (hc2 : slots + s0 = F.2.1) (hr1 : q.2.2.2.1.1 ≤ R.cells + n0) (hr2 : q.2.2.2.1.2.1 ≤ R.slots + s0) : W p l e R s m args below meth cd H locs cells slots Q (F0 m pc mls (st.map (ztr c))) := by
  split at hs
  · rename_i v rest
    split at hs
    · rename_i hh
      cases hs
      have r1 : F.1 + 1 ≤ R.cells + n0 := hr1
      have r2 : F.2.1 + v.toNatClampNeg ≤ R.slots + s0 := hr2
      have go : ∀ tt : Nat, tt < 2 → newarray.typeOf t = zelt tt → (if t = .int then 100 else 101) = 100 + tt → Cond.arrayClass (newarray.typeOf t) ∈ ztb → defaultValue (newarray.typeOf t) = .int 0 → componentBytes (newarray.typeOf t) ≤ 4 → W p l e R s m args below meth cd H locs cells slots Q (F0 m pc mls ((Value.int v :: rest).map (ztr c))) := by
        intro tt htt hty hsh hac hdv hcb
        refine va_newaK hx hb (hts _ hac) rfl hd rfl hh.1 rfl (Nat.le_trans (Nat.mul_le_mul_left _ hcb) (z_nn hh.2.1)) (by omega) (by omega) rfl fun H1 cA e1 z1 o1 hAr hNm => ?_
        have hcA : cA = zcA c tt := by
          have hRA := (hKK.1.2 tt _ (ztys_at (by omega))).2
          dsimp only at hRA
          rw [hty] at hNm
          have : s.vm.findClass ("[" ++ (zelt tt).toString) = some (zcA c tt) := by
            rcases (show tt = 0 ∨ tt = 1 by omega) with rfl | rfl <;> exact hRA
          exact Option.some.inj (hNm.symm.trans this)
        have hsz := hI.1
        have h6 := k H1 locs mls (cells + 1) (slots + v.toNatClampNeg) (zI_new hI z1 o1 (fun h9 => by omega) (fun t2 h2 h3 => ?_) (fun t2 h2 h3 h4 => by omega)) hlo hL (by show _ = F.1 + 1; omega) (by show _ = F.2.1 + _; omega)
        · have e6 : ztr c (.ref F.1) = .ref H.size := by show Value.ref _ = _; rw [hsz]
          simp only [List.map_cons, e6] at h6
          exact h6
        · have ht : t2 = tt := by omega
          subst ht
          show H1[zB c + F.1]? = some (vp_cell _ _)
          rw [← hsz, e1, hdv, hcA]
          rfl
      rcases hh.2.2 with rfl | rfl
      · exact go 0 (by omega) rfl rfl z_arr.1 rfl (by decide)
      · exact go 1 (by omega) rfl rfl z_arr.2.1 rfl (by decide)
    · cases hs
  · cases hs
theorem z_nq {pc : Nat} {ls : zLs} {st : List Value} {F : zF} {G : zG} {q : zCf} (hx : p.tables.exec = Jvm.exec) (hb : cd.code = mi.2.2.1) {idx : Nat} (hown : s.vm.findClass (zC mi.1) = some m.cls) (hts : ∀ w ∈ ztb, w.before args s = true) (hKK : zKK c s) (hI : zI c F G H) (hd : decode mi.2.2.1 pc = .ok (.anewarray idx, 3)) (hs : (match st with
    | .int v :: rest => match zkln mi.1 idx with
      | some q => if ¬ v < 0 ∧ v.toNatClampNeg ≤ 100000 ∧ (q.2.2.1 = 6 ∨ q.2.2.1 = 3) then some (pc + 3, ls, .ref F.1 :: rest, znewF F (if q.2.2.1 = 6 then 102 else 103) v.toNatClampNeg, znewG F G) else none
      | none => none
    | _ => none) = some q) (k : zGo c p l e R s m args below meth cd Q LS mi.2.2.2.1 n0 s0 q) (hlo : ∀ x ∈ locs, zB c ≤ x.base) (hL : zL c LS mi.2.2.2.1 mls ls) (hc1 : cells + n0 = F.1) (hc2 : slots + s0 = F.2.1) (hr1 : q.2.2.2.1.1 ≤ R.cells + n0) (hr2 : q.2.2.2.1.2.1 ≤ R.slots + s0) : W p l e R s m args below meth cd H locs cells slots Q (F0 m pc mls (st.map (ztr c))) := by
  split at hs
  · rename_i v rest
    split at hs
    · rename_i y hy
      split at hs
      · rename_i hh
        cases hs
        have r1 : F.1 + 1 ≤ R.cells + n0 := hr1
        have r2 : F.2.1 + v.toNatClampNeg ≤ R.slots + s0 := hr2
        have hlk := hts _ (z_kln hy)
        have go : ∀ (tt : Nat) (C : String), 2 ≤ tt → tt < 4 → zC y.2.2.1 = C → zelt tt = .object C → (if y.2.2.1 = 6 then 102 else 103) = 100 + tt → va_AO C s → W p l e R s m args below meth cd H locs cells slots Q (F0 m pc mls ((Value.int v :: rest).map (ztr c))) := by
          intro tt C htt htt4 hC hty hsh hao
          rw [hC] at hlk
          refine W.anew hx hb hown hlk (va_AO.use hao) rfl hd rfl hh.1 (z_nn hh.2.1) (by omega) (by omega) fun cA kA comp f1 f2 f3 f4 => ?_
          have hRA := (hKK.1.2 tt _ (ztys_at htt4)).2
          dsimp only at hRA
          rw [hty] at hRA
          obtain ⟨kA', comp', k1, k2, k3, k4⟩ := hRA
          have hcA : cA = zcA c tt := Option.some.inj (f1.symm.trans k4)
          generalize hH1 : H.push ({ cls := cA, slots := Array.replicate v.toNatClampNeg .null, vm := .none } : Cell) = H1
          have z1 : H1.size = H.size + 1 := by rw [← hH1, Array.size_push]
          have e1 : H1[H.size]? = some (arrV cA v.toNatClampNeg (fun _ => .null)) := by rw [← hH1, Array.getElem?_push_size, ← arrV_new]
          have o1 : ∀ q : Nat, q < H.size → H1[q]? = H[q]? := fun q hq => by rw [← hH1, Array.getElem?_push, if_neg (Nat.ne_of_lt hq)]
          have hsz := hI.1
          have h6 := k H1 locs mls (cells + 1) (slots + v.toNatClampNeg) (zI_new hI z1 o1 (fun h9 => by omega) (fun t2 h2 h3 => by omega) (fun t2 h2 h3 h4 => ?_)) hlo hL (by show _ = F.1 + 1; omega) (by show _ = F.2.1 + _; omega)
          · have e6 : ztr c (.ref F.1) = .ref H.size := by show Value.ref _ = _; rw [hsz]
            simp only [List.map_cons, e6] at h6
            exact h6
          · have ht : t2 = tt := by omega
            subst ht
            show H1[zB c + F.1]? = some (vp_cell _ _)
            rw [← hsz, e1, hcA]
            rfl
        rcases hh.2.2 with e | e
        · exact go 2 "GleanersForGaps$Text" (by omega) (by omega) (by rw [e]; rfl) rfl (by rw [if_pos e]) hKK.2.2.1.1
        · exact go 3 "GleanersForGaps$Sheet" (by omega) (by omega) (by rw [e]; rfl) rfl (by rw [if_neg (by omega)]) hKK.2.2.1.2
      · cases hs
    · cases hs
  · cases hs
theorem z_nw {pc : Nat} {ls : zLs} {st : List Value} {F : zF} {G : zG} {q : zCf} (hx : p.tables.exec = Jvm.exec) (hb : cd.code = mi.2.2.1) {idx ci : Nat} (hown : s.vm.findClass (zC mi.1) = some m.cls) (hts : ∀ w ∈ ztb, w.before args s = true) (hKK : zKK c s) (hlk : Cond.classLink (zC mi.1) idx (zC ci) ∈ ztb) (hI : zI c F G H) (hd : decode mi.2.2.1 pc = .ok (.new idx, 3)) (hs : (if ci < 9 then some (pc + 3, ls, .ref F.1 :: st, znewF F ci (zN ci), znewG F G) else none) = some q) (k : zGo c p l e R s m args below meth cd Q LS mi.2.2.2.1 n0 s0 q) (hlo : ∀ x ∈ locs, zB c ≤ x.base) (hL : zL c LS mi.2.2.2.1 mls ls) (hc1 : cells + n0 = F.1) (hc2 : slots + s0 = F.2.1) (hr1 : q.2.2.2.1.1 ≤ R.cells + n0) (hr2 : q.2.2.2.1.2.1 ≤ R.slots + s0) : W p l e R s m args below meth cd H locs cells slots Q (F0 m pc mls (st.map (ztr c))) := by
  split at hs
  · rename_i hc9
    cases hs
    have r1 : F.1 + 1 ≤ R.cells + n0 := hr1
    have r2 : F.2.1 + zN ci ≤ R.slots + s0 := hr2
    have hKn := hKK.1.1 ci _ (zcs_at hc9)
    refine W.newcK hx hb hown (hts _ hlk) (hts _ (z_ins hc9).1) (hts _ (z_ins hc9).2) rfl hd (by omega) (by omega) hKn.2.1 rfl fun H1 kC hkC e1 z1 o1 => ?_
    have hsz := hI.1
    have h6 := k H1 locs mls (cells + 1) (slots + zN ci) (zI_new hI z1 o1 (fun h9 => ?_) (fun t2 h2 h3 => by omega) (fun t2 h2 h3 h4 => by omega)) hlo hL (by show _ = F.1 + 1; omega) (by show _ = F.2.1 + _; omega)
    · have e6 : ztr c (.ref F.1) = .ref H.size := by show Value.ref _ = _; rw [hsz]
      simp only [List.map_cons, e6] at h6
      exact h6
    · refine ⟨_, zcs_at hc9, ?_⟩
      have hborn := u_born (zty ci) hts (z_uws hc9) hKn hkC e1 (zty_ok ci hc9)
      dsimp only
      rw [← hsz]
      refine hborn.to (fun j hj => ?_)
      unfold vp_V
      rw [List.getD_eq_getElem?_getD, zfs_at hj]
      show _ = zfv c (znewF F ci (zN ci)) (znewG F G) ci F.1 j
      have g1 : (znewG F G).1 F.1 j = 0 := by show zur G.1 F.1 _ F.1 j = 0; rw [zur_s]
      have g2 : (znewG F G).2 F.1 j = 0 := by show zur G.2 F.1 _ F.1 j = 0; rw [zur_s]
      have g3 : zrf (znewF F ci (zN ci)) F.1 j = none := by show zur F.2.2.2.2 F.1 _ F.1 j = none; rw [zur_s]
      unfold zfv
      rw [g1, g2, g3]
      rcases ztyk_ok ci hc9 j hj with e | e | e | e
      · rw [e]; rfl
      · rw [e]; rfl
      · rw [e]; rfl
      · cases hz : zty ci j <;> rw [hz] at e <;> first | rfl | cases e
  · cases hs
theorem z_mx {pc : Nat} {ls : zLs} {st : List Value} {F : zF} {G : zG} {q : zCf} (hx : p.tables.exec = Jvm.exec) (hb : cd.code = mi.2.2.1) {idx y : Nat} (hml : cd.maxLocals = mi.2.2.2.1) (hown : s.vm.findClass (zC mi.1) = some m.cls) (hts : ∀ w ∈ ztb, w.before args s = true) (hCx : zCx c) (hw : (y = 1 ∧ Cond.methodLink (zC mi.1) idx Lib.Math.max.name ∈ ztb) ∨ (y = 0 ∧ Cond.methodLink (zC mi.1) idx Lib.Math.min.name ∈ ztb)) (hI : zI c F G H) (hd : decode mi.2.2.1 pc = .ok (.invokestatic idx, 3)) (hs : (match st with
      | .int y' :: .int v :: rest => if (rest.map zcat).sum ≤ 8 then if y = 1 then some (pc + 3, ls, .int (if v < y' then y' else v) :: rest, F, G) else some (pc + 3, ls, .int (if y' < v then y' else v) :: rest, F, G) else none
      | _ => none) = some q) (k : zGo c p l e R s m args below meth cd Q LS mi.2.2.2.1 n0 s0 q) (hlo : ∀ x ∈ locs, zB c ≤ x.base) (hL : zL c LS mi.2.2.2.1 mls ls) (hc1 : cells + n0 = F.1) (hc2 : slots + s0 = F.2.1) (hr1 : q.2.2.2.1.1 ≤ R.cells + n0) (hr2 : q.2.2.2.1.2.1 ≤ R.slots + s0) (hfr : d + 1 ≤ R.frames) (hlc : 64 * (d + 1) ≤ R.locals) : W p l e R s m args below meth cd H locs cells slots Q (F0 m pc mls (st.map (ztr c))) := by
  split at hs
  · rename_i y' v rest
    split at hs
    · rename_i h8
      rw [← zcats hCx] at h8
      have hq : q.2.2.2.1 = F := by split at hs <;> (cases hs; rfl)
      rw [hq] at hr1 hr2
      rcases hw with ⟨h1, h2⟩ | ⟨h1, h2⟩
      · rw [if_pos h1] at hs
        cases hs
        exact va_mmax hx hb (by rw [hml, hL.1]) hown (hts _ h2) (hts _ z_mxw.1.1) (hts _ z_mxw.2.2) (hts _ z_mxw.1.2) (by omega) (by omega) (by omega) (by omega) hd (k _ _ _ _ _ hI hlo hL hc1 hc2)
      · rw [if_neg (by omega)] at hs
        cases hs
        exact va_mmin hx hb (by rw [hml, hL.1]) hown (hts _ h2) (hts _ z_mxw.2.1.1) (hts _ z_mxw.2.2) (hts _ z_mxw.2.1.2) (by omega) (by omega) (by omega) (by omega) hd (k _ _ _ _ _ hI hlo hL hc1 hc2)
    · cases hs
  · cases hs
theorem z_nnn {z : Int32} (hz : ¬ z < 0) : z.toInt = (z.toNatClampNeg : Int) := by
  have hz0 : (0 : Int) ≤ z.toInt := by
    have := Int32.not_lt.mp hz
    simpa using Int32.le_iff_toInt_le.mp this
  show z.toInt = ((z.toInt.toNat : Nat) : Int)
  omega
theorem z_ac {pc : Nat} {ls : zLs} {st : List Value} {F : zF} {G : zG} {q : zCf} (hx : p.tables.exec = Jvm.exec) (hb : cd.code = mi.2.2.1) {idx : Nat} {q2 : List Value × zG} (hml : cd.maxLocals = mi.2.2.2.1) (hown : s.vm.findClass (zC mi.1) = some m.cls) (hts : ∀ w ∈ ztb, w.before args s = true) (hKK : zKK c s) (hCx : zCx c) (hlk : Cond.methodLink (zC mi.1) idx arraycopyName ∈ ztb) (hI : zI c F G H) (hd : decode mi.2.2.1 pc = .ok (.invokestatic idx, 3)) (hs : zacp F G st = some q2) (hq : (pc + 3, ls, q2.1, F, q2.2) = q) (k : zGo c p l e R s m args below meth cd Q LS mi.2.2.2.1 n0 s0 q) (hlo : ∀ x ∈ locs, zB c ≤ x.base) (hL : zL c LS mi.2.2.2.1 mls ls) (hc1 : cells + n0 = F.1) (hc2 : slots + s0 = F.2.1) (hfr : d + 1 ≤ R.frames) (hlc : 64 * (d + 1) ≤ R.locals) : W p l e R s m args below meth cd H locs cells slots Q (F0 m pc mls (st.map (ztr c))) := by
  subst hq
  unfold zacp at hs
  split at hs
  · rename_i n dp b sp a rest
    split at hs
    · rename_i hh
      cases hs
      obtain ⟨ha, hb1, h1, h2, h3, h4, h5, h8⟩ := hh
      rw [← zcats hCx] at h8
      intro T hT X
      have hc0 : H[zB c + a]? = some (vp_cell (zcA c 0) (zln F a, .inl (G.1 a))) := hI.2.2.2.1 a 0 ha (by omega)
      have hc3 : H[zB c + b]? = some (vp_cell (zcA c 0) (zln F b, .inl (G.1 b))) := hI.2.2.2.1 b 0 hb1 (by omega)
      obtain ⟨-, k0, hk0, cm0, hkk0⟩ := (hKK.1.2 0 _ (ztys_at (by omega))).1 (zln F a) (fun j => .int (G.1 a j))
      obtain ⟨-, k1, hk1, cm1, hkk1⟩ := (hKK.1.2 0 _ (ztys_at (by omega))).1 (zln F b) (fun j => .int (G.1 b j))
      obtain ⟨vm', X', step⟩ := X.arraycopy hx hown (hts _ hlk) (hts _ z_acw.1) (hts _ z_acw.2.1) (hts _ z_acw.2.2) (src := zB c + a) (dst := zB c + b) (cs := vp_cell (zcA c 0) (zln F a, .inl (G.1 a))) (cd := vp_cell (zcA c 0) (zln F b, .inl (G.1 b))) (srcPos := sp) (destPos := dp) (n := n) (by rw [hT]; exact hc0) (by rw [hT]; exact hc3)
        (fun _ h => by cases h) (fun _ h => by cases h) (fun h => by cases h) (fun h => by cases h) hk0 hk1 hkk0 hkk1 (by simp [zelt, refKind]) h1 h2 h3
        (by rw [z_nnn h1, z_nnn h3]; show ¬ _ > ((arrV (zcA c 0) (zln F a) (fun j => .int (G.1 a j))).slots.size : Int); rw [arrV_size]; omega)
        (by rw [z_nnn h2, z_nnn h3]; show ¬ _ > ((arrV (zcA c 0) (zln F b) (fun j => .int (G.1 b j))).slots.size : Int); rw [arrV_size]; omega)
        (fun vm₁ _ i hi => by
          have e : (vp_cell (zcA c 0) (zln F a, .inl (G.1 a))).slots.getD (sp.toNatClampNeg + i) .null = .int (G.1 a (sp.toNatClampNeg + i)) := by
            show (arrV (zcA c 0) (zln F a) (fun j => .int (G.1 a j))).slots.getD _ _ = _
            rw [Array.getD_eq_getD_getElem?, arrV_read _ _ (by omega)]
            rfl
          refine ⟨?_, ?_⟩
          · rw [e]
            rfl
          · rw [e]
            exact trivial)
        (g := F0 m pc mls (.int n :: .int dp :: .ref (zB c + b) :: .int sp :: .ref (zB c + a) :: rest.map (ztr c))) rfl (by rw [hml, ← hL.1]) (rest := rest.map (ztr c)) rfl (by rw [hb]; exact hd) (by omega) (by
          have : nativeFrameWords "java/lang/System" "arraycopy" 5 + 11 ≤ 48 := by decide
          show 2 * 0 + _ + _ ≤ _
          omega)
      have e1 : copied (vp_cell (zcA c 0) (zln F a, .inl (G.1 a))) (vp_cell (zcA c 0) (zln F b, .inl (G.1 b))) sp dp n = vp_cell (zcA c 0) (zln F b, .inl (va_cpy (G.1 a) (G.1 b) sp.toNatClampNeg dp.toNatClampNeg n.toNatClampNeg)) := va_copied (fun z => .int z) (zcA c 0) (zcA c 0) (G.1 a) (G.1 b) h4
      rw [e1] at X' step
      have hl : zB c + b < H.size := (Array.getElem?_eq_some_iff.mp hc3).1
      generalize hH1 : H.setIfInBounds (zB c + b) (vp_cell (zcA c 0) (zln F b, .inl (va_cpy (G.1 a) (G.1 b) sp.toNatClampNeg dp.toNatClampNeg n.toNatClampNeg))) = H1
      have hheap : ((T.setVm vm').setCell (zB c + b) (vp_cell (zcA c 0) (zln F b, .inl (va_cpy (G.1 a) (G.1 b) sp.toNatClampNeg dp.toNatClampNeg n.toNatClampNeg)))).heap = H1 := by rw [← hH1, ← hT]; rfl
      have oq : ∀ q : Nat, q ≠ zB c + b → H1[q]? = H[q]? := fun q hq => by rw [← hH1]; simp [Array.getElem?_setIfInBounds, Ne.symm hq]
      obtain ⟨t, a1, b1⟩ := k H1 _ _ _ _ (zI_upd (a := b) hI (by rw [← hH1]; simp) oq rfl (fun _ => rfl) (fun _ => rfl) (fun _ _ => rfl) (fun b' h => zur_n h) (fun _ _ => rfl) (fun ci h2 h9 => by omega) (fun t h2 h3 => by
        have ht : t = 0 := by omega
        subst ht
        show H1[zB c + b]? = some (vp_cell _ _)
        rw [← hH1]
        show _ = some (vp_cell _ (_, .inl (zur G.1 b _ b)))
        rw [zur_s, Array.getElem?_setIfInBounds, if_pos rfl, if_pos hl]) (fun t h2 h3 h4 => by omega)) (fun x hx => by
          rcases List.mem_append.mp hx with h | h
          · exact hlo x h
          · obtain ⟨z, -, hz⟩ := List.mem_map.mp h
            rw [← hz]
            exact Nat.le_add_right _ _) hL hc1 hc2 _ hheap X'
      exact ⟨t, step t a1, b1⟩
    · cases hs
  · cases hs
theorem z_oi {pc : Nat} {ls : zLs} {st : List Value} {F : zF} {G : zG} (hx : p.tables.exec = Jvm.exec) (hb : cd.code = mi.2.2.1) {idx : Nat} {rest : List Value} (hml : cd.maxLocals = mi.2.2.2.1) (hown : s.vm.findClass (zC mi.1) = some m.cls) (hts : ∀ w ∈ ztb, w.before args s = true) (hCx : zCx c) (hlk : Cond.methodLink (zC mi.1) idx objectInit ∈ ztb) (hI : zI c F G H) (hd : decode mi.2.2.1 pc = .ok (.invokespecial idx, 3)) (hs : zoi F st = some rest) (k : zGo c p l e R s m args below meth cd Q LS mi.2.2.2.1 n0 s0 (pc + 3, ls, rest, F, G)) (hlo : ∀ x ∈ locs, zB c ≤ x.base) (hL : zL c LS mi.2.2.2.1 mls ls) (hc1 : cells + n0 = F.1) (hc2 : slots + s0 = F.2.1) (hfr : d + 1 ≤ R.frames) (hlc : 64 * (d + 1) ≤ R.locals) : W p l e R s m args below meth cd H locs cells slots Q (F0 m pc mls (st.map (ztr c))) := by
  unfold zoi at hs
  split at hs
  · rename_i a rest'
    split at hs
    · rename_i hh
      cases hs
      have h8 := hh.2
      rw [← zcats hCx] at h8
      exact W.objInit hx hb hown (hts _ hlk) (hts _ z_oiw.1) (hts _ z_oiw.2) rfl (by rw [hml]; exact hL.1) rfl hd (by omega) (by show 2 * 0 + _ + 12 ≤ _; omega) (k _ _ _ _ _ hI hlo hL hc1 hc2)
    · cases hs
  · cases hs
set_option maxHeartbeats 4000000 in
theorem z_si {op : Instr} {len pc : Nat} {ls : zLs} {st : List Value} {F : zF} {G : zG} {q : zCf} (X : zFr c p R s m args meth cd mi d) (hd : decode mi.2.2.1 pc = .ok (op, len)) (hs : zsi (zxs c) mi.1 LS (mi.2.1.name == "<init>") op len pc ls st F G = some q) (hI : zI c F G H) (hss : s.heap.size ≤ H.size) (hlo : ∀ x ∈ locs, zB c ≤ x.base) (hL : zL c LS mi.2.2.2.1 mls ls) (hc1 : cells + n0 = F.1) (hc2 : slots + s0 = F.2.1) (hr1 : q.2.2.2.1.1 ≤ R.cells + n0) (hr2 : q.2.2.2.1.2.1 ≤ R.slots + s0)
    (k : zGo c p l e R s m args below meth cd Q LS mi.2.2.2.1 n0 s0 q) : W p l e R s m args below meth cd H locs cells slots Q (F0 m pc mls (st.map (ztr c))) := by
  obtain ⟨hx, hb, hml, hown, hts, hKK, hCx, hnm, hlow, hbs, hfr, hlc⟩ := X
  cases op with
  | iconst n =>
    simp only [zsi] at hs
    split at hs
    · rename_i hlen
      subst hlen
      cases hs
      exact lv_iconst hx hb hd rfl (k _ _ _ _ _ hI hlo hL hc1 hc2)
    · cases hs
  | bipush n =>
    simp only [zsi] at hs
    split at hs
    · rename_i hlen
      subst hlen
      cases hs
      exact lv_bipush hx hb hd rfl (k _ _ _ _ _ hI hlo hL hc1 hc2)
    · cases hs
  | sipush n =>
    simp only [zsi] at hs
    split at hs
    · rename_i hlen
      subst hlen
      cases hs
      exact lv_sipush hx hb hd rfl (k _ _ _ _ _ hI hlo hL hc1 hc2)
    · cases hs
  | lconst n =>
    simp only [zsi] at hs
    split at hs
    · rename_i hlen
      subst hlen
      cases hs
      exact lv_lconst hx hb hd rfl (k _ _ _ _ _ hI hlo hL hc1 hc2)
    · cases hs
  | ldc idx =>
    simp only [zsi] at hs
    split at hs
    · rename_i hlen
      subst hlen
      split at hs
      · rename_i q hq
        cases hs
        exact lv_ldc hx hb hown (hts _ (z_num hq)) hd (k _ _ _ _ _ hI hlo hL hc1 hc2)
      · split at hs
        · rename_i kk hk
          cases hs
          obtain ⟨q, h1, h2, h3, h4⟩ := z_str hk
          have h5 := hKK.2.2.2.2.2.2 kk q h1
          rw [h2, h3] at h5
          have e5 : (UInt32.ofNat kk).toNat = kk := (by decide +kernel : ∀ k, k < 13 → (UInt32.ofNat k).toNat = k) kk (by omega)
          refine va_ldcS hx hb hown h5 hd ?_
          have h6 := k _ _ _ _ _ hI hlo hL hc1 hc2
          have e6 : ztr c (.float (UInt32.ofNat kk)) = .ref (zaK c kk) := by show Value.ref (zaK c (UInt32.ofNat kk).toNat) = _; rw [e5]
          simp only [List.map_cons, e6] at h6
          exact h6
        · cases hs
    · cases hs
  | ldc_w idx =>
    simp only [zsi] at hs
    split at hs
    · rename_i hlen
      subst hlen
      split at hs
      · rename_i q hq
        cases hs
        exact lv_ldcw hx hb hown (hts _ (z_num hq)) hd (k _ _ _ _ _ hI hlo hL hc1 hc2)
      · cases hs
    · cases hs
  | ldc2_w idx =>
    simp only [zsi] at hs
    split at hs
    · rename_i hlen
      subst hlen
      split at hs
      · rename_i q hq
        cases hs
        exact lv_ldc2 hx hb hown (hts _ (z_lng hq)) hd (k _ _ _ _ _ hI hlo hL hc1 hc2)
      · cases hs
    · cases hs
  | iload_n j =>
    simp only [zsi] at hs
    split at hs
    · rename_i hlen
      subst hlen
      obtain ⟨v, hg, ho, rfl⟩ := zld_inv hs
      obtain ⟨y, rfl⟩ := zki_inv ho
      exact lv_iload_n hx hb hd rfl (hL.2.2.2.1 _ _ hg) (k _ _ _ _ _ hI hlo hL hc1 hc2)
    · cases hs
  | iload j =>
    simp only [zsi] at hs
    split at hs
    · rename_i hlen
      subst hlen
      obtain ⟨v, hg, ho, rfl⟩ := zld_inv hs
      obtain ⟨y, rfl⟩ := zki_inv ho
      exact lv_iload hx hb hd (hL.2.2.2.1 _ _ hg) (k _ _ _ _ _ hI hlo hL hc1 hc2)
    · cases hs
  | lload_n j =>
    simp only [zsi] at hs
    split at hs
    · rename_i hlen
      subst hlen
      obtain ⟨v, hg, ho, rfl⟩ := zld_inv hs
      obtain ⟨y, rfl⟩ := zkl_inv ho
      exact lv_lload_n hx hb hd rfl (hL.2.2.2.1 _ _ hg) (k _ _ _ _ _ hI hlo hL hc1 hc2)
    · cases hs
  | lload j =>
    simp only [zsi] at hs
    split at hs
    · rename_i hlen
      subst hlen
      obtain ⟨v, hg, ho, rfl⟩ := zld_inv hs
      obtain ⟨y, rfl⟩ := zkl_inv ho
      exact lv_lload hx hb hd (hL.2.2.2.1 _ _ hg) (k _ _ _ _ _ hI hlo hL hc1 hc2)
    · cases hs
  | aload_n j =>
    simp only [zsi] at hs
    split at hs
    · rename_i hlen
      subst hlen
      obtain ⟨v, hg, ho, rfl⟩ := zld_inv hs
      obtain ⟨a, ha⟩ := ztr_isr (c := c) ho
      have h6 := k _ _ _ _ _ hI hlo hL hc1 hc2
      have h7 := hL.2.2.2.1 _ _ hg
      simp only [List.map_cons, ha] at h6 h7
      exact lv_aload_n hx hb hd rfl h7 h6
    · cases hs
  | aload j =>
    simp only [zsi] at hs
    split at hs
    · rename_i hlen
      subst hlen
      obtain ⟨v, hg, ho, rfl⟩ := zld_inv hs
      obtain ⟨a, ha⟩ := ztr_isr (c := c) ho
      have h6 := k _ _ _ _ _ hI hlo hL hc1 hc2
      have h7 := hL.2.2.2.1 _ _ hg
      simp only [List.map_cons, ha] at h6 h7
      exact lv_aload hx hb hd h7 h6
    · cases hs
  | istore_n j =>
    simp only [zsi] at hs
    split at hs
    · rename_i hlen
      subst hlen
      obtain ⟨v, rest, rfl, ho, hi, hls, rfl⟩ := zst1_inv hs
      obtain ⟨y, rfl⟩ := zki_inv ho
      exact lv_istore_n hx hb hd rfl (zL_has hL) (by rw [← hL.2.1]; exact hi) rfl (fun mls1 h1 => k _ _ _ _ _ hI hlo (zL_st1 hCx hL hi (fun _ h => by cases h) hls h1) hc1 hc2)
    · cases hs
  | astore_n j =>
    simp only [zsi] at hs
    split at hs
    · rename_i hlen
      subst hlen
      obtain ⟨v, rest, rfl, ho, hi, hls, rfl⟩ := zst1_inv hs
      obtain ⟨a, ha⟩ := ztr_isr (c := c) ho
      have h6 : ∀ mls1 : Array Slot, lv_has mls1 mi.2.2.2.1 (((j : Nat), ztr c v) :: (zas c ls).filter (fun q => !(q.1 == (j : Nat)) && !(q.1 + 1 == (j : Nat) && q.2.category == 2))) → _ := fun mls1 h1 => k _ _ _ _ _ hI hlo (zL_st1 hCx hL hi (zisr_nl ho) hls h1) hc1 hc2
      simp only [List.map_cons, ha] at h6 ⊢
      exact lv_astore_n hx hb hd rfl (zL_has hL) (by rw [← hL.2.1]; exact hi) rfl h6
    · cases hs
  | lstore_n j =>
    simp only [zsi] at hs
    split at hs
    · rename_i hlen
      subst hlen
      obtain ⟨y, rest, rfl, hi, hm, hls, rfl⟩ := zst2_inv hs
      exact lv_lstore_n hx hb hd rfl (zL_has hL) (by rw [← hL.2.1]; exact hi) rfl (fun mls1 h1 => k _ _ _ _ _ hI hlo (zL_st2 hCx hL hi hm hls h1) hc1 hc2)
    · cases hs
  | istore j =>
    simp only [zsi] at hs
    split at hs
    · rename_i hlen
      subst hlen
      obtain ⟨v, rest, rfl, ho, hi, hls, rfl⟩ := zst1_inv hs
      obtain ⟨y, rfl⟩ := zki_inv ho
      exact lv_istore hx hb hd (zL_has hL) (by rw [← hL.2.1]; exact hi) rfl (fun mls1 h1 => k _ _ _ _ _ hI hlo (zL_st1 hCx hL hi (fun _ h => by cases h) hls h1) hc1 hc2)
    · cases hs
  | astore j =>
    simp only [zsi] at hs
    split at hs
    · rename_i hlen
      subst hlen
      obtain ⟨v, rest, rfl, ho, hi, hls, rfl⟩ := zst1_inv hs
      obtain ⟨a, ha⟩ := ztr_isr (c := c) ho
      have h6 : ∀ mls1 : Array Slot, lv_has mls1 mi.2.2.2.1 (((j : Nat), ztr c v) :: (zas c ls).filter (fun q => !(q.1 == (j : Nat)) && !(q.1 + 1 == (j : Nat) && q.2.category == 2))) → _ := fun mls1 h1 => k _ _ _ _ _ hI hlo (zL_st1 hCx hL hi (zisr_nl ho) hls h1) hc1 hc2
      simp only [List.map_cons, ha] at h6 ⊢
      exact lv_astore hx hb hd (zL_has hL) (by rw [← hL.2.1]; exact hi) rfl h6
    · cases hs
  | lstore j =>
    simp only [zsi] at hs
    split at hs
    · rename_i hlen
      subst hlen
      obtain ⟨y, rest, rfl, hi, hm, hls, rfl⟩ := zst2_inv hs
      exact lv_lstore hx hb hd (zL_has hL) (by rw [← hL.2.1]; exact hi) rfl (fun mls1 h1 => k _ _ _ _ _ hI hlo (zL_st2 hCx hL hi hm hls h1) hc1 hc2)
    · cases hs
  | iinc j n =>
    simp only [zsi] at hs
    split at hs
    · rename_i hlen
      subst hlen
      split at hs
      · rename_i v hv
        split at hs
        · rename_i hi
          cases hs
          obtain ⟨kk, hk⟩ := List.getElem?_of_mem (zas_mem.mpr ⟨_, hv, rfl⟩ : ((j, ztr c (.int v)) : Nat × Value) ∈ zas c ls)
          exact lv_iinc hx hb hd (zL_has hL) hk rfl (by rw [← hL.2.1]; exact hi.1) rfl (fun mls1 h1 => k _ _ _ _ _ hI hlo (zL_st1 hCx hL hi.1 (fun _ h => by cases h) hi.2 h1) hc1 hc2)
        · cases hs
      · cases hs
    · cases hs
  | iadd =>
    simp only [zsi] at hs
    split at hs
    · rename_i hlen
      subst hlen
      obtain ⟨x, y, rest, v, rfl, hv, rfl⟩ := zbin_inv hs
      cases hv
      exact lv_iadd hx hb hd (k _ _ _ _ _ hI hlo hL hc1 hc2)
    · cases hs
  | isub =>
    simp only [zsi] at hs
    split at hs
    · rename_i hlen
      subst hlen
      obtain ⟨x, y, rest, v, rfl, hv, rfl⟩ := zbin_inv hs
      cases hv
      exact lv_isub hx hb hd (k _ _ _ _ _ hI hlo hL hc1 hc2)
    · cases hs
  | imul =>
    simp only [zsi] at hs
    split at hs
    · rename_i hlen
      subst hlen
      obtain ⟨x, y, rest, v, rfl, hv, rfl⟩ := zbin_inv hs
      cases hv
      exact lv_imul hx hb hd (k _ _ _ _ _ hI hlo hL hc1 hc2)
    · cases hs
  | iand =>
    simp only [zsi] at hs
    split at hs
    · rename_i hlen
      subst hlen
      obtain ⟨x, y, rest, v, rfl, hv, rfl⟩ := zbin_inv hs
      cases hv
      exact lv_iand hx hb hd (k _ _ _ _ _ hI hlo hL hc1 hc2)
    · cases hs
  | ior =>
    simp only [zsi] at hs
    split at hs
    · rename_i hlen
      subst hlen
      obtain ⟨x, y, rest, v, rfl, hv, rfl⟩ := zbin_inv hs
      cases hv
      exact lv_ior hx hb hd (k _ _ _ _ _ hI hlo hL hc1 hc2)
    · cases hs
  | ixor =>
    simp only [zsi] at hs
    split at hs
    · rename_i hlen
      subst hlen
      obtain ⟨x, y, rest, v, rfl, hv, rfl⟩ := zbin_inv hs
      cases hv
      exact lv_ixor hx hb hd (k _ _ _ _ _ hI hlo hL hc1 hc2)
    · cases hs
  | ishl =>
    simp only [zsi] at hs
    split at hs
    · rename_i hlen
      subst hlen
      obtain ⟨x, y, rest, v, rfl, hv, rfl⟩ := zbin_inv hs
      cases hv
      exact lv_ishl hx hb hd (k _ _ _ _ _ hI hlo hL hc1 hc2)
    · cases hs
  | ishr =>
    simp only [zsi] at hs
    split at hs
    · rename_i hlen
      subst hlen
      obtain ⟨x, y, rest, v, rfl, hv, rfl⟩ := zbin_inv hs
      cases hv
      exact lv_ishr hx hb hd (k _ _ _ _ _ hI hlo hL hc1 hc2)
    · cases hs
  | iushr =>
    simp only [zsi] at hs
    split at hs
    · rename_i hlen
      subst hlen
      obtain ⟨x, y, rest, v, rfl, hv, rfl⟩ := zbin_inv hs
      cases hv
      exact lv_iushr hx hb hd rfl (k _ _ _ _ _ hI hlo hL hc1 hc2)
    · cases hs
  | idiv =>
    simp only [zsi] at hs
    split at hs
    · rename_i hlen
      subst hlen
      obtain ⟨x, y, rest, v, rfl, hv, rfl⟩ := zbin_inv hs
      split at hv
      · cases hv
      · rename_i hy
        cases hv
        exact lv_idiv hx hb hd hy (k _ _ _ _ _ hI hlo hL hc1 hc2)
    · cases hs
  | irem =>
    simp only [zsi] at hs
    split at hs
    · rename_i hlen
      subst hlen
      obtain ⟨x, y, rest, v, rfl, hv, rfl⟩ := zbin_inv hs
      split at hv
      · cases hv
      · rename_i hy
        cases hv
        exact lv_irem hx hb hd hy (k _ _ _ _ _ hI hlo hL hc1 hc2)
    · cases hs
  | ineg =>
    simp only [zsi] at hs
    split at hs
    · rename_i hlen
      subst hlen
      obtain ⟨x, rest, rfl, rfl⟩ := zun_inv hs
      exact lv_ineg hx hb hd (k _ _ _ _ _ hI hlo hL hc1 hc2)
    · cases hs
  | i2l =>
    simp only [zsi] at hs
    split at hs
    · rename_i hlen
      subst hlen
      obtain ⟨x, rest, rfl, rfl⟩ := zun_inv hs
      exact lv_i2l hx hb hd rfl (k _ _ _ _ _ hI hlo hL hc1 hc2)
    · cases hs
  | i2b =>
    simp only [zsi] at hs
    split at hs
    · rename_i hlen
      subst hlen
      obtain ⟨x, rest, rfl, rfl⟩ := zun_inv hs
      exact lv_i2b hx hb hd rfl (k _ _ _ _ _ hI hlo hL hc1 hc2)
    · cases hs
  | i2s =>
    simp only [zsi] at hs
    split at hs
    · rename_i hlen
      subst hlen
      obtain ⟨x, rest, rfl, rfl⟩ := zun_inv hs
      exact lv_i2s hx hb hd rfl (k _ _ _ _ _ hI hlo hL hc1 hc2)
    · cases hs
  | i2c =>
    simp only [zsi] at hs
    split at hs
    · rename_i hlen
      subst hlen
      obtain ⟨x, rest, rfl, rfl⟩ := zun_inv hs
      exact lv_i2c hx hb hd rfl (k _ _ _ _ _ hI hlo hL hc1 hc2)
    · cases hs
  | l2i =>
    simp only [zsi] at hs
    split at hs
    · rename_i hlen
      subst hlen
      split at hs
      · cases hs
        exact lv_l2i hx hb hd rfl (k _ _ _ _ _ hI hlo hL hc1 hc2)
      · cases hs
    · cases hs
  | ladd =>
    simp only [zsi] at hs
    split at hs
    · rename_i hlen
      subst hlen
      obtain ⟨x, y, rest, v, rfl, hv, rfl⟩ := zbin2_inv hs
      cases hv
      exact lv_ladd hx hb hd (k _ _ _ _ _ hI hlo hL hc1 hc2)
    · cases hs
  | lsub =>
    simp only [zsi] at hs
    split at hs
    · rename_i hlen
      subst hlen
      obtain ⟨x, y, rest, v, rfl, hv, rfl⟩ := zbin2_inv hs
      cases hv
      exact lv_lsub hx hb hd (k _ _ _ _ _ hI hlo hL hc1 hc2)
    · cases hs
  | lmul =>
    simp only [zsi] at hs
    split at hs
    · rename_i hlen
      subst hlen
      obtain ⟨x, y, rest, v, rfl, hv, rfl⟩ := zbin2_inv hs
      cases hv
      exact lv_lmul hx hb hd (k _ _ _ _ _ hI hlo hL hc1 hc2)
    · cases hs
  | ldiv =>
    simp only [zsi] at hs
    split at hs
    · rename_i hlen
      subst hlen
      obtain ⟨x, y, rest, v, rfl, hv, rfl⟩ := zbin2_inv hs
      split at hv
      · cases hv
      · rename_i hy
        cases hv
        exact lv_ldiv hx hb hd hy (k _ _ _ _ _ hI hlo hL hc1 hc2)
    · cases hs
  | lrem =>
    simp only [zsi] at hs
    split at hs
    · rename_i hlen
      subst hlen
      obtain ⟨x, y, rest, v, rfl, hv, rfl⟩ := zbin2_inv hs
      split at hv
      · cases hv
      · rename_i hy
        cases hv
        exact lv_lrem hx hb hd hy (k _ _ _ _ _ hI hlo hL hc1 hc2)
    · cases hs
  | lcmp =>
    simp only [zsi] at hs
    split at hs
    · rename_i hlen
      subst hlen
      split at hs
      · cases hs
        exact W.lcmp hx hb hd (k _ _ _ _ _ hI hlo hL hc1 hc2)
      · cases hs
    · cases hs
  | dup =>
    simp only [zsi] at hs
    split at hs
    · rename_i hlen
      subst hlen
      split at hs
      · split at hs
        · rename_i hv
          cases hs
          exact lv_dup hx hb hd (by rw [zcat_tr hCx (fun _ _ => trivial)]; exact hv) (k _ _ _ _ _ hI hlo hL hc1 hc2)
        · cases hs
      · cases hs
    · cases hs
  | pop =>
    simp only [zsi] at hs
    split at hs
    · rename_i hlen
      subst hlen
      split at hs
      · split at hs
        · rename_i hv
          cases hs
          exact lv_pop hx hb hd (by rw [zcat_tr hCx (fun _ _ => trivial)]; exact hv) (k _ _ _ _ _ hI hlo hL hc1 hc2)
        · cases hs
      · cases hs
    · cases hs
  | dup2 =>
    simp only [zsi] at hs
    split at hs
    · rename_i hlen
      subst hlen
      split at hs
      · split at hs
        · rename_i hv
          cases hs
          exact lv_dup2_11 hx hb hd (by rw [zcat_tr hCx (fun _ _ => trivial)]; exact hv.1) (by rw [zcat_tr hCx (fun _ _ => trivial)]; exact hv.2) (k _ _ _ _ _ hI hlo hL hc1 hc2)
        · cases hs
      · cases hs
    · cases hs
  | ifCond cc off =>
    simp only [zsi] at hs
    split at hs
    · rename_i hlen
      subst hlen
      split at hs
      · obtain ⟨tg, ht, hq⟩ := zbr_inv hs
        cases cc with
        | eq =>
          refine lv_if_eq hx hb hd ht (fun hh => ?_) (fun hh => ?_)
          · rcases hq with ⟨h1, rfl⟩ | ⟨h1, rfl⟩
            · exact k _ _ _ _ _ hI hlo hL hc1 hc2
            · exact absurd h1 (by simp [zc0, hh])
          · rcases hq with ⟨h1, rfl⟩ | ⟨h1, rfl⟩
            · exact absurd h1 (by simp [zc0, hh])
            · exact k _ _ _ _ _ hI hlo hL hc1 hc2
        | ne =>
          refine lv_if_ne hx hb hd ht (fun hh => ?_) (fun hh => ?_)
          · rcases hq with ⟨h1, rfl⟩ | ⟨h1, rfl⟩
            · exact k _ _ _ _ _ hI hlo hL hc1 hc2
            · exact absurd h1 (by simp [zc0, hh])
          · rcases hq with ⟨h1, rfl⟩ | ⟨h1, rfl⟩
            · exact absurd h1 (by simp [zc0, hh])
            · exact k _ _ _ _ _ hI hlo hL hc1 hc2
        | lt =>
          refine lv_if_lt hx hb hd ht (fun hh => ?_) (fun hh => ?_)
          · rcases hq with ⟨h1, rfl⟩ | ⟨h1, rfl⟩
            · exact k _ _ _ _ _ hI hlo hL hc1 hc2
            · exact absurd h1 (by simp [zc0, hh])
          · rcases hq with ⟨h1, rfl⟩ | ⟨h1, rfl⟩
            · exact absurd h1 (by simp [zc0, hh])
            · exact k _ _ _ _ _ hI hlo hL hc1 hc2
        | ge =>
          refine lv_if_ge hx hb hd ht (fun hh => ?_) (fun hh => ?_)
          · rcases hq with ⟨h1, rfl⟩ | ⟨h1, rfl⟩
            · exact k _ _ _ _ _ hI hlo hL hc1 hc2
            · exact absurd h1 (by simp [zc0, hh])
          · rcases hq with ⟨h1, rfl⟩ | ⟨h1, rfl⟩
            · exact absurd h1 (by simp [zc0, hh])
            · exact k _ _ _ _ _ hI hlo hL hc1 hc2
        | gt =>
          refine lv_if_gt hx hb hd ht (fun hh => ?_) (fun hh => ?_)
          · rcases hq with ⟨h1, rfl⟩ | ⟨h1, rfl⟩
            · exact k _ _ _ _ _ hI hlo hL hc1 hc2
            · exact absurd h1 (by simp [zc0, hh])
          · rcases hq with ⟨h1, rfl⟩ | ⟨h1, rfl⟩
            · exact absurd h1 (by simp [zc0, hh])
            · exact k _ _ _ _ _ hI hlo hL hc1 hc2
        | le =>
          refine lv_if_le hx hb hd ht (fun hh => ?_) (fun hh => ?_)
          · rcases hq with ⟨h1, rfl⟩ | ⟨h1, rfl⟩
            · exact k _ _ _ _ _ hI hlo hL hc1 hc2
            · exact absurd h1 (by simp [zc0, hh])
          · rcases hq with ⟨h1, rfl⟩ | ⟨h1, rfl⟩
            · exact absurd h1 (by simp [zc0, hh])
            · exact k _ _ _ _ _ hI hlo hL hc1 hc2
      · cases hs
    · cases hs
  | if_icmp cc off =>
    simp only [zsi] at hs
    split at hs
    · rename_i hlen
      subst hlen
      split at hs
      · obtain ⟨tg, ht, hq⟩ := zbr_inv hs
        cases cc with
        | eq =>
          refine lv_icmp_eq hx hb hd ht (fun hh => ?_) (fun hh => ?_)
          · rcases hq with ⟨h1, rfl⟩ | ⟨h1, rfl⟩
            · exact k _ _ _ _ _ hI hlo hL hc1 hc2
            · exact absurd h1 (by simp [zc0, hh])
          · rcases hq with ⟨h1, rfl⟩ | ⟨h1, rfl⟩
            · exact absurd h1 (by simp [zc0, hh])
            · exact k _ _ _ _ _ hI hlo hL hc1 hc2
        | ne =>
          refine lv_icmp_ne hx hb hd ht (fun hh => ?_) (fun hh => ?_)
          · rcases hq with ⟨h1, rfl⟩ | ⟨h1, rfl⟩
            · exact k _ _ _ _ _ hI hlo hL hc1 hc2
            · exact absurd h1 (by simp [zc0, hh])
          · rcases hq with ⟨h1, rfl⟩ | ⟨h1, rfl⟩
            · exact absurd h1 (by simp [zc0, hh])
            · exact k _ _ _ _ _ hI hlo hL hc1 hc2
        | lt =>
          refine lv_icmp_lt hx hb hd ht (fun hh => ?_) (fun hh => ?_)
          · rcases hq with ⟨h1, rfl⟩ | ⟨h1, rfl⟩
            · exact k _ _ _ _ _ hI hlo hL hc1 hc2
            · exact absurd h1 (by simp [zc0, hh])
          · rcases hq with ⟨h1, rfl⟩ | ⟨h1, rfl⟩
            · exact absurd h1 (by simp [zc0, hh])
            · exact k _ _ _ _ _ hI hlo hL hc1 hc2
        | ge =>
          refine lv_icmp_ge hx hb hd ht (fun hh => ?_) (fun hh => ?_)
          · rcases hq with ⟨h1, rfl⟩ | ⟨h1, rfl⟩
            · exact k _ _ _ _ _ hI hlo hL hc1 hc2
            · exact absurd h1 (by simp [zc0, hh])
          · rcases hq with ⟨h1, rfl⟩ | ⟨h1, rfl⟩
            · exact absurd h1 (by simp [zc0, hh])
            · exact k _ _ _ _ _ hI hlo hL hc1 hc2
        | gt =>
          refine lv_icmp_gt hx hb hd ht (fun hh => ?_) (fun hh => ?_)
          · rcases hq with ⟨h1, rfl⟩ | ⟨h1, rfl⟩
            · exact k _ _ _ _ _ hI hlo hL hc1 hc2
            · exact absurd h1 (by simp [zc0, hh])
          · rcases hq with ⟨h1, rfl⟩ | ⟨h1, rfl⟩
            · exact absurd h1 (by simp [zc0, hh])
            · exact k _ _ _ _ _ hI hlo hL hc1 hc2
        | le =>
          refine lv_icmp_le hx hb hd ht (fun hh => ?_) (fun hh => ?_)
          · rcases hq with ⟨h1, rfl⟩ | ⟨h1, rfl⟩
            · exact k _ _ _ _ _ hI hlo hL hc1 hc2
            · exact absurd h1 (by simp [zc0, hh])
          · rcases hq with ⟨h1, rfl⟩ | ⟨h1, rfl⟩
            · exact absurd h1 (by simp [zc0, hh])
            · exact k _ _ _ _ _ hI hlo hL hc1 hc2
      · cases hs
    · cases hs
  | goto off =>
    simp only [zsi] at hs
    split at hs
    · rename_i hlen
      subst hlen
      split at hs
      · rename_i tg ht
        cases hs
        exact lv_goto hx hb hd (zpj_inv ht) (k _ _ _ _ _ hI hlo hL hc1 hc2)
      · cases hs
    · cases hs
  | tableswitch dd lo hi offs =>
    simp only [zsi] at hs
    split at hs
    · split at hs
      · rename_i hv
        split at hs
        · rename_i tg ht
          cases hs
          exact lv_tableOut hx hb hd hv (zpj_inv ht) (k _ _ _ _ _ hI hlo hL hc1 hc2)
        · cases hs
      · rename_i hv
        split at hs
        · rename_i off ho
          split at hs
          · rename_i tg ht
            cases hs
            exact lv_tableIn hx hb hd (fun h => hv (Or.inl h)) (fun h => hv (Or.inr h)) ho (zpj_inv ht) (k _ _ _ _ _ hI hlo hL hc1 hc2)
          · cases hs
        · cases hs
    · cases hs
  | lookupswitch dd ps =>
    simp only [zsi] at hs
    split at hs
    · split at hs
      · rename_i hp
        split at hs
        · rename_i tg ht
          cases hs
          exact lv_lookup hx hb hd hp rfl (zpj_inv ht) (k _ _ _ _ _ hI hlo hL hc1 hc2)
        · cases hs
      · cases hs
    · cases hs
  | getfield idx =>
    simp only [zsi] at hs
    split at hs
    · rename_i hlen
      subst hlen
      split at hs
      · rename_i q hq
        exact z_gf hx hb hown hts hKK (z_fld hq) hI hd hs k hlo hL hc1 hc2
      · split at hs
        · rename_i q hq
          exact z_gj hx hb hown hts hKK hlow (z_S hI hlow hss hlo) (z_jfd hq) hI hd hs k hlo hL hc1 hc2
        · cases hs
    · cases hs
  | putfield idx =>
    simp only [zsi] at hs
    split at hs
    · rename_i hlen
      subst hlen
      split at hs
      · rename_i q hq
        exact z_pf hx hb hown hts hKK hnm (z_fld hq) hI hd hs k hlo hL hc1 hc2
      · cases hs
    · cases hs
  | getstatic idx =>
    simp only [zsi] at hs
    split at hs
    · rename_i hlen
      subst hlen
      split at hs
      · rename_i q hq
        cases hs
        have hSS := z_S hI hlow hss hlo
        rcases z_sfd hq with ⟨h1, h2⟩ | ⟨h1, h2⟩ | ⟨h1, h2⟩
        · refine va_gets hx hb (hKK.2.2.2.1.1.kept (z_kept hlow)) hSS hown (hts _ h2) (fun _ h => h) hd ?_
          have h6 := k _ _ _ _ _ hI hlo hL hc1 hc2
          simp only [h1, if_true, List.map_cons] at h6
          exact h6
        · refine va_gets hx hb (hKK.2.2.2.1.2.1.kept (z_kept hlow)) hSS hown (hts _ h2) (fun _ h => h) hd ?_
          have h6 := k _ _ _ _ _ hI hlo hL hc1 hc2
          simp only [h1, if_true, List.map_cons, Nat.one_ne_zero, if_false] at h6
          exact h6
        · refine va_gets hx hb (hKK.2.2.2.1.2.2.kept (z_kept hlow)) hSS hown (hts _ h2) (fun _ h => h) hd ?_
          have h6 := k _ _ _ _ _ hI hlo hL hc1 hc2
          rw [h1] at h6
          exact h6
      · cases hs
    · cases hs
  | arraylength =>
    simp only [zsi] at hs
    split at hs
    · rename_i hlen
      subst hlen
      exact z_al hx hb hown hKK hlow (z_S hI hlow hss hlo) hI hd hs k hlo hL hc1 hc2
    · cases hs
  | iaload =>
    simp only [zsi] at hs
    split at hs
    · rename_i hlen
      subst hlen
      exact z_ia hx hb hown hKK hlow (z_S hI hlow hss hlo) hI hd hs k hlo hL hc1 hc2
    · cases hs
  | baload =>
    simp only [zsi] at hs
    split at hs
    · rename_i hlen
      subst hlen
      exact z_ba hx hb hown hKK hlow (z_S hI hlow hss hlo) hI hd hs k hlo hL hc1 hc2
    · cases hs
  | aaload =>
    simp only [zsi] at hs
    split at hs
    · rename_i hlen
      subst hlen
      exact z_aa hx hb hown hKK hI hd hs k hlo hL hc1 hc2
    · cases hs
  | iastore =>
    simp only [zsi] at hs
    split at hs
    · rename_i hlen
      subst hlen
      exact z_is hx hb hown hKK hI hd hs k hlo hL hc1 hc2
    · cases hs
  | bastore =>
    simp only [zsi] at hs
    split at hs
    · rename_i hlen
      subst hlen
      exact z_bs hx hb hown hKK hI hd hs k hlo hL hc1 hc2
    · cases hs
  | aastore =>
    simp only [zsi] at hs
    split at hs
    · rename_i hlen
      subst hlen
      exact z_as hx hb hown hKK hI hd hs k hlo hL hc1 hc2
    · cases hs
  | newarray t =>
    simp only [zsi] at hs
    split at hs
    · rename_i hlen
      subst hlen
      exact z_na hx hb hts hKK hI hd hs k hlo hL hc1 hc2 hr1 hr2
    · cases hs
  | anewarray idx =>
    simp only [zsi] at hs
    split at hs
    · rename_i hlen
      subst hlen
      exact z_nq hx hb hown hts hKK hI hd hs k hlo hL hc1 hc2 hr1 hr2
    · cases hs
  | new idx =>
    simp only [zsi] at hs
    split at hs
    · rename_i hlen
      subst hlen
      split at hs
      · rename_i q hq
        exact z_nw hx hb hown hts hKK (z_kln hq) hI hd hs k hlo hL hc1 hc2 hr1 hr2
      · cases hs
    · cases hs
  | invokestatic idx =>
    simp only [zsi] at hs
    split at hs
    · rename_i hlen
      subst hlen
      split at hs
      · rename_i q hq
        exact z_mx hx hb hml hown hts hCx (z_mxl hq) hI hd hs k hlo hL hc1 hc2 hr1 hr2 hfr hlc
      · split at hs
        · rename_i q hq
          split at hs
          · rename_i q2 hq2
            exact z_ac hx hb hml hown hts hKK hCx (z_acl hq) hI hd hq2 (Option.some.inj hs) k hlo hL hc1 hc2 hfr hlc
          · cases hs
        · cases hs
    · cases hs
  | invokespecial idx =>
    simp only [zsi] at hs
    split at hs
    · rename_i hlen
      subst hlen
      split at hs
      · rename_i q hq
        split at hs
        · rename_i rest hr
          cases hs
          exact z_oi hx hb hml hown hts hCx (z_oil hq) hI hd hr k hlo hL hc1 hc2 hfr hlc
        · cases hs
      · cases hs
    · cases hs
  | _ => cases hs
end ZS
