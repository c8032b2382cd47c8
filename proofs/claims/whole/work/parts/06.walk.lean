/-! What the evaluator says of a method, the machine does: a contract for each method's each run. -/
theorem zsi_mono {x : zXs} {own : Nat} {LS : List Nat} {isI : Bool} {op : Instr} {len pc : Nat} {ls : zLs} {st : List Value} {F : zF} {G : zG} {q : zCf} (h : zsi x own LS isI op len pc ls st F G = some q) : F.1 ≤ q.2.2.2.1.1 ∧ F.2.1 ≤ q.2.2.2.1.2.1 := by
  unfold zsi at h
  split at h
  all_goals (try (simp only [zint, zld, zst1, zst2, zbin, zbin2, zun, zbr, zgf, zgj, zpf] at h))
  all_goals (repeat' split at h)
  all_goals first
    | (cases h; exact ⟨Nat.le_refl _, Nat.le_refl _⟩)
    | (cases h; exact ⟨Nat.le_succ _, Nat.le_add_right _ _⟩)
    | cases h
/-- one step of the evaluator -/
theorem zev_step {x : zXs} {n d M pc : Nat} {ls : zLs} {st : List Value} {F : zF} {G : zG} {o : Option Value × zF × zG} (h : zev x (n + 1) d M pc ls st F G = some o) :
    ∃ mi op len, zm M = some mi ∧ decode mi.2.2.1 pc = .ok (op, len) ∧
      ((∃ q d1 mj as rest r F1 G1, zck mi.1 op = some q ∧ d = d1 + 1 ∧ len = 3 ∧ zca F q.2.2.1 (zway op) st = some (mj, as, rest) ∧ zev x n d1 q.2.2.1 0 (zent mj.2.2.2.1 as) [] F G = some (r, F1, G1) ∧ zev x n d M (pc + 3) ls (r.toList ++ rest) F1 G1 = some o) ∨
       (∃ r, zrt mi op len st = some r ∧ o = (r, F, G)) ∨
       (∃ q, zsi x mi.1 mi.2.2.2.2.2.2.2.1 (mi.2.1.name == "<init>") op len pc ls st F G = some q ∧ zev x n d M q.1 q.2.1 q.2.2.1 q.2.2.2.1 q.2.2.2.2 = some o)) := by
  unfold zev at h
  split at h
  · cases h
  · rename_i mi hm
    split at h
    · cases h
    · rename_i op len hop
      have hd : decode mi.2.2.1 pc = .ok (op, len) := by
        unfold zop at hop
        rw [hm] at hop
        dsimp only at hop
        split at hop
        · rename_i q hq
          cases hop
          exact hq
        · cases hop
      refine ⟨mi, op, len, hm, hd, ?_⟩
      split at h
      · rename_i q hq
        split at h
        · cases h
        · rename_i d1
          split at h
          · rename_i hlen
            split at h
            · rename_i mj as rest hca
              split at h
              · rename_i r F1 G1 hev
                exact Or.inl ⟨q, d1, mj, as, rest, r, F1, G1, hq, rfl, hlen, hca, hev, h⟩
              · cases h
            · cases h
          · cases h
      · split at h
        · rename_i r hr
          exact Or.inr (Or.inl ⟨r, hr, (Option.some.inj h).symm⟩)
        · split at h
          · rename_i pc1 ls1 st1 F1 G1 hsi
            exact Or.inr (Or.inr ⟨_, hsi, h⟩)
          · cases h
theorem zev_mono {x : zXs} : ∀ (n d M pc : Nat) (ls : zLs) (st : List Value) (F : zF) (G : zG) (o : Option Value × zF × zG), zev x n d M pc ls st F G = some o → F.1 ≤ o.2.1.1 ∧ F.2.1 ≤ o.2.1.2.1 := by
  intro n
  induction n with
  | zero => intro d M pc ls st F G o h; unfold zev at h; cases h
  | succ n ih =>
    intro d M pc ls st F G o h
    obtain ⟨mi, op, len, -, -, h1 | h1 | h1⟩ := zev_step h
    · obtain ⟨q, d1, mj, as, rest, r, F1, G1, -, -, -, -, h2, h3⟩ := h1
      have a := ih _ _ _ _ _ _ _ _ h2
      have b := ih _ _ _ _ _ _ _ _ h3
      dsimp only at a
      exact ⟨Nat.le_trans a.1 b.1, Nat.le_trans a.2 b.2⟩
    · obtain ⟨r, -, rfl⟩ := h1
      exact ⟨Nat.le_refl _, Nat.le_refl _⟩
    · obtain ⟨q, h2, h3⟩ := h1
      have a := zsi_mono h2
      have b := ih _ _ _ _ _ _ _ _ h3
      exact ⟨Nat.le_trans a.1 b.1, Nat.le_trans a.2 b.2⟩
def zQ (c : zX) (r : Option Value) (F : zF) (G : zG) : Array Value → State → Outcome → State → Prop := fun _ _ oc t => oc = .returned (r.map (ztr c)) ∧ zI c F G t.heap
def zrm (d mc ms : Nat) : Room := { frames := d + 1, cells := mc, slots := ms, locals := 64 * (d + 1) }
def zws (mi : zE) : List Cond := Cond.code mi.2.1 mi.2.2.1 mi.2.2.2.1 mi.2.2.2.2.1 :: ztb
def zPc (c : zX) (as : List Value) (F : zF) (G : zG) : Array Value → State → Prop := va_Pc (as.map (ztr c)) (fun U => zKK c U ∧ zI c F G U.heap)
theorem zPc_blind {c : zX} {as : List Value} {F : zF} {G : zG} : FrameBlind (zPc c as F G) := fun a U g mk h => ⟨h.1, zKK_vm h.2.1 rfl, h.2.2⟩
theorem z_good {mj : zE} (h : zgood mj = true) : GoodIn ztb (zws mj) := by
  intro w hw
  have hz := (zgood_of h).1.1
  rcases List.mem_cons.mp hw with rfl | hw
  · exact ⟨hz, (ztb_good hz).2⟩
  · exact ⟨hw, (ztb_good hw).2⟩
theorem zflat_at {c : zX} (hc : zCx c) : ∀ (as : List Value) (i : Nat) (v : Value), (as.flatMap fun v => if zcat v = 2 then [some v, none] else [some v])[i]? = some (some v) → (lg_sl (as.map (ztr c)))[i]? = some (.val (ztr c v)) := by
  intro as
  induction as with
  | nil => intro i v h; simp at h
  | cons a as ih =>
    intro i v h
    have hcat : (ztr c a).category = zcat a := zcat_tr hc (fun _ _ => trivial)
    rw [List.flatMap_cons] at h
    show (lg_sl (ztr c a :: as.map (ztr c)))[i]? = _
    unfold lg_sl
    rw [List.flatMap_cons, hcat]
    by_cases h2 : zcat a = 2
    · rw [if_pos h2] at h ⊢
      match i with
      | 0 => cases h; rfl
      | 1 => cases h
      | i + 2 => exact ih i v h
    · rw [if_neg h2] at h ⊢
      match i with
      | 0 => cases h; rfl
      | i + 1 => exact ih i v h
theorem zflat_len {c : zX} (hc : zCx c) : ∀ (as : List Value), (lg_sl (as.map (ztr c))).length = (as.flatMap fun v => if zcat v = 2 then [some v, none] else [some v]).length := by
  intro as
  induction as with
  | nil => rfl
  | cons a as ih =>
    have hcat : (ztr c a).category = zcat a := zcat_tr hc (fun _ _ => trivial)
    show (lg_sl (ztr c a :: as.map (ztr c))).length = _
    unfold lg_sl at ih ⊢
    rw [List.flatMap_cons, List.flatMap_cons, hcat, List.length_append, List.length_append, ih]
    by_cases h2 : zcat a = 2
    · rw [if_pos h2, if_pos h2]; rfl
    · rw [if_neg h2, if_neg h2]; rfl
theorem zlok_at : ∀ (ls : zLs) (LS : List Nat) (i j : Nat) (x : Int64), zlok LS i ls = true → ls[j]? = some (some (.long x)) → i + j ∈ LS := by
  intro ls
  induction ls with
  | nil => intro LS i j x _ h; simp at h
  | cons o ls ih =>
    intro LS i j x h hj
    unfold zlok at h
    rw [Bool.and_eq_true] at h
    cases j with
    | zero =>
      cases hj
      have h1 := h.1
      simp only [zcat, bne_self_eq_false, Bool.false_or] at h1
      exact List.contains_iff_mem.mp h1
    | succ j =>
      have := ih LS (i + 1) j x h.2 hj
      rw [show i + (j + 1) = i + 1 + j by omega]
      exact this
theorem zgt_get {ls : zLs} {i : Nat} {v : Value} : zgt ls i = some v ↔ ls[i]? = some (some v) := by
  unfold zgt
  constructor
  · intro h
    split at h
    · rename_i o ho
      rw [ho, h]
    · cases h
  · intro h
    rw [h]
theorem zL_entry {c : zX} (hc : zCx c) {LS : List Nat} {nL : Nat} {as : List Value} (hl : (zent nL as).length = nL) (hk : zlok LS 0 (zent nL as) = true) : zL c LS nL ((lg_sl (as.map (ztr c)) ++ List.replicate (nL - (lg_sl (as.map (ztr c))).length) Slot.unset).toArray) (zent nL as) := by
  have hfl := zflat_len hc as
  have hle : (lg_sl (as.map (ztr c))).length ≤ nL := by
    rw [hfl, ← hl]
    unfold zent
    rw [List.length_append]
    exact Nat.le_add_right _ _
  have he := lv_entry (as.map (ztr c)) hle
  refine ⟨he.1, hl, he.2.1, fun i v h => ?_, fun j x h => ?_⟩
  · rw [zgt_get] at h
    unfold zent at h
    by_cases hi : i < (as.flatMap fun v => if zcat v = 2 then [some v, none] else [some v]).length
    · rw [List.getElem?_append_left hi] at h
      have h1 := zflat_at hc as i v h
      rw [List.getElem?_toArray, List.getElem?_append_left (by rw [hfl]; exact hi)]
      exact h1
    · rw [List.getElem?_append_right (by omega)] at h
      have := List.eq_of_mem_replicate (List.mem_of_getElem? h)
      cases this
  · have := zlok_at _ LS 0 j x hk (zgt_get.mp h)
    rwa [Nat.zero_add] at this
theorem zca_inv {F : zF} {m way : Nat} {st as rest : List Value} {mj : zE} (h : zca F m way st = some (mj, as, rest)) : zm m = some mj ∧ st = as.reverse ++ rest ∧ as.length = mj.2.2.2.2.2.2.1 ∧ (rest.map zcat).sum ≤ 8 ∧ (mj.2.2.2.2.2.1 = true ↔ way = 0) ∧ (mj.2.1.name = "<init>" ↔ way = 2) ∧ (way = 0 ∨ zok1 F mj as = true) ∧ (zent mj.2.2.2.1 as).length = mj.2.2.2.1 ∧ zlok mj.2.2.2.2.2.2.2.1 0 (zent mj.2.2.2.1 as) = true ∧ m + 1 < zml.length := by
  unfold zca at h
  split at h
  · cases h
  · rename_i mi hm
    split at h
    · rename_i hh
      cases h
      obtain ⟨h1, h2, h3, h4, h5, h6, h7, h8⟩ := hh
      refine ⟨hm, ?_, ?_, h2, h3, h4, h5, h6, h7, h8⟩
      · rw [List.reverse_reverse, List.take_append_drop]
      · rw [List.length_reverse, List.length_take]; omega
    · cases h
section ZW
variable {c : zX} {p : Program} {l : Launch} {e : Env} {R : Room} {s : State} {m : MethodId} {args : Array Value} {below : List Frame} {meth : Method} {cd : Code} {H : Heap} {locs : List Loc} {cells slots : Nat} {Q : State → Prop} {mi : zE} {d n0 s0 : Nat} {mls : Array Slot}
theorem z_back {mc ms pc : Nat} {st0 rest : List Value} {a : Array Value} {r : Option Value} {F1 : zF} {G1 : zG} (hr : va_Run p l e R s m args below meth cd H locs cells slots mc ms (F0 m pc mls st0) rest (zQ c r F1 G1 a) (zA c)) (hlo : ∀ x ∈ locs, zB c ≤ x.base)
    (kk : ∀ (H1 : Heap) (locs1 : List Loc), zI c F1 G1 H1 → (∀ x ∈ locs1, zB c ≤ x.base) → W p l e R s m args below meth cd H1 locs1 (cells + mc) (slots + ms) Q (F0 m (pc + 3) mls ((r.map (ztr c)).toList ++ rest))) : W p l e R s m args below meth cd H locs cells slots Q (F0 m pc mls st0) := by
  intro T hT X
  obtain ⟨v, st₀, t, T', L, h0, X', hL, e1, e2, ⟨hv, hI1⟩, st⟩ := hr T hT X
  have hv2 : v = r.map (ztr c) := Outcome.returned.inj hv
  subst hv2
  obtain ⟨t2, a1, b1⟩ := kk T'.heap (locs ++ L) (by rw [e1]; exact hI1) (fun x hx => by
    rcases List.mem_append.mp hx with h | h
    · exact hlo x h
    · exact hL x h) T' rfl X'
  exact ⟨t2, st t2 a1, b1⟩
/-- a call of a method that has its contract -/
theorem z_callm {q : Nat × Nat × Nat × Bool × Nat} {op : Instr} {pc d1 mc ms : Nat} {st as rest : List Value} {mj : zE} {F F1 : zF} {G G1 : zG} {r : Option Value} (X : zFr c p R s m args meth cd mi d) (hd : decode mi.2.2.1 pc = .ok (op, 3)) (hck : zck mi.1 op = some q) (hdd : d = d1 + 1) (hca : zca F q.2.2.1 (zway op) st = some (mj, as, rest)) (hI : zI c F G H) (hss : s.heap.size ≤ H.size) (hlo : ∀ x ∈ locs, zB c ≤ x.base) (hsz : mls.size = mi.2.2.2.1)
    (hM : Met l mj.2.1 (zws mj) (zrm d1 mc ms) (zPc c as F G) (zQ c r F1 G1) mc ms (zA c)) (hf : cells + mc ≤ R.cells ∧ slots + ms ≤ R.slots)
    (kk : ∀ (H1 : Heap) (locs1 : List Loc), zI c F1 G1 H1 → (∀ x ∈ locs1, zB c ≤ x.base) → W p l e R s m args below meth cd H1 locs1 (cells + mc) (slots + ms) Q (F0 m (pc + 3) mls ((r.toList ++ rest).map (ztr c)))) : W p l e R s m args below meth cd H locs cells slots Q (F0 m pc mls (st.map (ztr c))) := by
  obtain ⟨hx, hb, hml, hown, hts, hKK, hCx, hnm, hlow, hbs, hfr, hlc⟩ := X
  obtain ⟨hm, hst, hal, h8, hst1, hin1, hrec, hel, hlk, hm1⟩ := zca_inv hca
  have hg := z_mi hm hm1
  have hG := z_good hg
  obtain ⟨⟨g1, g2⟩, g3, g4, g5, g6, g7, g8, g9, g10⟩ := zgood_of hg
  rw [← zcats hCx] at h8
  have kk' : ∀ (H1 : Heap) (locs1 : List Loc), zI c F1 G1 H1 → (∀ x ∈ locs1, zB c ≤ x.base) → W p l e R s m args below meth cd H1 locs1 (cells + mc) (slots + ms) Q (F0 m (pc + 3) mls ((r.map (ztr c)).toList ++ rest.map (ztr c))) := by
    intro H1 locs1 h1 h2
    have := kk H1 locs1 h1 h2
    rw [List.map_append] at this
    cases r <;> exact this
  have hR : (zrm d1 mc ms).frames + 1 ≤ R.frames ∧ 8 + (mj.2.2.2.1 + 11) + (zrm d1 mc ms).locals ≤ R.locals := by
    subst hdd
    refine ⟨hfr, ?_⟩
    show 8 + (mj.2.2.2.1 + 11) + 64 * (d1 + 1) ≤ R.locals
    omega
  have hfix : CallFix p m cd mi.2.2.1 mi.2.2.2.1 s args ztb (zC mi.1) := ⟨hx, hb, hml, hown, hts⟩
  have hPre : ∀ U : State, U.heap = H → s.WarmedH U.vm → zPc c as F G ((as.map (ztr c)).toArray) U := fun U hU hW => ⟨rfl, zKK_warm hKK hW, by rw [hU]; exact hI⟩
  have hroom : 2 * (F0 m pc mls (st.map (ztr c))).monitorRoom + ((rest.map (ztr c)).map fun v => v.category).sum ≤ 8 := lv_room h8
  have hstk : st.map (ztr c) = (as.map (ztr c)).reverse ++ rest.map (ztr c) := by rw [hst, List.map_append, List.map_reverse]
  have hini : (Cond.initialized mj.2.1.cls).before args s = true := hts _ g2
  have hpar : ∀ k : Nat, mj.2.2.2.2.2.2.1 = k + (if mj.2.2.2.2.2.1 = true then 0 else 1) → (parseMethodDescriptor mj.2.1.desc).map (fun d => d.parameters.length) = some k := by
    intro k hk
    cases hp : parseMethodDescriptor mj.2.1.desc with
    | none => rw [hp] at g7; cases g7
    | some dd =>
      rw [hp] at g7
      have h9 : dd.parameters.length + (if mj.2.2.2.2.2.1 = true then 0 else 1) = mj.2.2.2.2.2.2.1 := Option.some.inj g7
      show some dd.parameters.length = some k
      congr 1
      omega
  have hnst : ∀ own' idx', Cond.methodLinkNest own' idx' mj.2.1 "GleanersForGaps" ∈ lw_tbl → va_Nw (.methodLinkNest own' idx' mj.2.1 "GleanersForGaps") s := fun o i hh => hKK.2.1 o i _ hh
  -- the receiver of an instance call
  have hrcv : zway op ≠ 0 → ∃ (b : Nat) (As : List Value), as.map (ztr c) = .ref b :: As ∧ ∃ cellB : Cell, H[b]? = some cellB ∧ cellB.vm.isStatics = false ∧ s.vm.findClass mj.2.1.cls = some cellB.cls := by
    intro hw
    rcases hrec with h | h
    · exact absurd h hw
    · unfold zok1 at h
      split at h
      · rename_i a as'
        rw [Bool.and_eq_true, beq_iff_eq, decide_eq_true_eq] at h
        obtain ⟨r', hr', cell, c1, c2, c3, -⟩ := hI.2.2.1 a mj.1 h.1 h.2
        refine ⟨zB c + a, as'.map (ztr c), rfl, cell, c1, by rw [c3]; rfl, ?_⟩
        rw [g8, c2]
        exact (hKK.1.1 mj.1 _ (zcs_at h.2)).2.1
      · rename_i u as'
        rw [Bool.and_eq_true, beq_iff_eq, decide_eq_true_eq] at h
        obtain ⟨cell, c1, c2, c3⟩ := vk_recv ((hKK.2.2.2.2.2.1).kept (z_kept hlow)) h.2 (z_S hI hlow hss hlo)
        refine ⟨_, as'.map (ztr c), rfl, cell, c1, c2, ?_⟩
        rw [g8, h.1]
        exact c3
      · cases h
  cases op with
  | invokestatic idx =>
    have hs1 : mj.2.2.2.2.2.1 = true := hst1.mpr rfl
    have hp := hpar as.length (by rw [hs1, if_pos rfl]; omega)
    rcases z_call hck hm with ⟨-, hl⟩ | ⟨-, hl⟩
    · exact z_back (va_runSN (As := as.map (ztr c)) (rest := rest.map (ztr c)) hfix hM ⟨va_cnB as.length hts hG rfl rfl rfl (hnst _ _ hl) hini ⟨g6.1, g6.2, hp⟩ hR, hts _ (g3 hs1), trivial⟩ ⟨zPc_blind, hPre⟩ rfl (by rw [List.length_map]) hsz hstk hroom hd hf) hlo kk'
    · exact z_back (va_runS (As := as.map (ztr c)) (rest := rest.map (ztr c)) hfix hM ⟨callB_of as.length hts hG rfl rfl rfl hini (hts _ hl) ⟨g6.1, g6.2, hp⟩ hR, hts _ (g3 hs1)⟩ ⟨zPc_blind, hPre⟩ rfl (by rw [List.length_map]) hsz hstk hroom hd hf) hlo kk'
  | invokevirtual idx =>
    obtain ⟨b, As, hA, hcell⟩ := hrcv (show ¬ (1 : Nat) = 0 by decide)
    have hs1 : mj.2.2.2.2.2.1 = false := by
      cases hh : mj.2.2.2.2.2.1
      · rfl
      · exact absurd (hst1.mp hh) (show ¬ (1 : Nat) = 0 by decide)
    have hlen : as.length = As.length + 1 := by have := congrArg List.length hA; rw [List.length_map] at this; exact this
    have hp := hpar As.length (by rw [hs1, if_neg (by decide)]; omega)
    have hnm2 : mj.2.1.name ≠ "<init>" := fun h => absurd (hin1.mp h) (show ¬ (1 : Nat) = 2 by decide)
    have hstk2 : st.map (ztr c) = As.reverse ++ .ref b :: rest.map (ztr c) := by rw [hstk, hA, List.reverse_cons, List.append_assoc]; rfl
    have hPre2 : ∀ U : State, U.heap = H → s.WarmedH U.vm → zPc c as F G ((Value.ref b :: As).toArray) U := by rw [← hA]; exact hPre
    rcases z_call hck hm with ⟨-, hl⟩ | ⟨-, hl⟩
    · exact z_back (va_runVN (C := mj.2.1.cls) (As := As) (rest := rest.map (ztr c)) hfix hM ⟨va_cnB As.length hts hG rfl rfl rfl (hnst _ _ hl) hini ⟨g6.1, g6.2, hp⟩ hR, hts _ (g4 hs1).1, hts _ ((g4 hs1).2 hnm2)⟩ ⟨zPc_blind, hcell, hPre2⟩ rfl rfl hsz hstk2 hroom hd hf) hlo kk'
    · exact z_back (va_runV (C := mj.2.1.cls) (As := As) (rest := rest.map (ztr c)) hfix hM ⟨callB_of As.length hts hG rfl rfl rfl hini (hts _ hl) ⟨g6.1, g6.2, hp⟩ hR, hts _ (g4 hs1).1, hts _ ((g4 hs1).2 hnm2)⟩ ⟨zPc_blind, hcell, hPre2⟩ rfl rfl hsz hstk2 hroom hd hf) hlo kk'
  | invokespecial idx =>
    obtain ⟨b, As, hA, hcell⟩ := hrcv (show ¬ (2 : Nat) = 0 by decide)
    have hs1 : mj.2.2.2.2.2.1 = false := by
      cases hh : mj.2.2.2.2.2.1
      · rfl
      · exact absurd (hst1.mp hh) (show ¬ (2 : Nat) = 0 by decide)
    have hlen : as.length = As.length + 1 := by have := congrArg List.length hA; rw [List.length_map] at this; exact this
    have hp := hpar As.length (by rw [hs1, if_neg (by decide)]; omega)
    have hnm2 : mj.2.1.name = "<init>" := hin1.mpr rfl
    have hret := g10 hnm2
    have hstk2 : st.map (ztr c) = As.reverse ++ .ref b :: rest.map (ztr c) := by rw [hstk, hA, List.reverse_cons, List.append_assoc]; rfl
    have hPre2 : ∀ U : State, U.heap = H → s.WarmedH U.vm → zPc c as F G ((Value.ref b :: As).toArray) U := by rw [← hA]; exact hPre
    have hws : zws mj = Cond.code mj.2.1 mj.2.2.1 mj.2.2.2.1 none :: ztb := by unfold zws; rw [hret]
    rcases z_call hck hm with ⟨-, hl⟩ | ⟨-, hl⟩
    · exact z_back (va_runIN (As := As) (rest := rest.map (ztr c)) hfix hM ⟨va_cnB As.length hts hG hws rfl rfl (hnst _ _ hl) hini ⟨g6.1, g6.2, hp⟩ hR, hnm2, hts _ (g4 hs1).1⟩ ⟨zPc_blind, hPre2⟩ rfl rfl hsz hstk2 hroom hd hf) hlo kk'
    · exact z_back (va_runI (As := As) (rest := rest.map (ztr c)) hfix hM ⟨callB_of As.length hts hG hws rfl rfl hini (hts _ hl) ⟨g6.1, g6.2, hp⟩ hR, hnm2, hts _ (g4 hs1).1⟩ ⟨zPc_blind, hPre2⟩ rfl rfl hsz hstk2 hroom hd hf) hlo kk'
  | _ => cases hck
end ZW
/-- how a walk ends -/
abbrev zEnd (c : zX) (p : Program) (l : Launch) (e : Env) (R : Room) (s : State) (m : MethodId) (args : Array Value) (below : List Frame) (meth : Method) (cd : Code) (Q : State → Prop) (mi : zE) (n0 s0 : Nat) (o : Option Value × zF × zG) : Prop :=
  ∀ (H1 : Heap) (locs1 : List Loc) (mls1 : Array Slot) (cells1 slots1 pc1 len1 : Nat) (op1 : Instr) (st1 : List Value), decode mi.2.2.1 pc1 = .ok (op1, len1) → zrt mi op1 len1 st1 = some o.1 → zI c o.2.1 o.2.2 H1 → (∀ x ∈ locs1, zB c ≤ x.base) → mls1.size = mi.2.2.2.1 → cells1 + n0 = o.2.1.1 → slots1 + s0 = o.2.1.2.1 → W p l e R s m args below meth cd H1 locs1 cells1 slots1 Q (F0 m pc1 mls1 (st1.map (ztr c)))
def zWk (c : zX) (l : Launch) (n : Nat) : Prop := ∀ (p : Program) (e : Env) (R : Room) (s : State) (m : MethodId) (args : Array Value) (below : List Frame) (meth : Method) (cd : Code) (H : Heap) (locs : List Loc) (cells slots : Nat) (Q : State → Prop) (mi : zE) (d n0 s0 : Nat) (mls : Array Slot) (M pc : Nat) (ls : zLs) (st : List Value) (F : zF) (G : zG) (o : Option Value × zF × zG),
  zm M = some mi → zFr c p R s m args meth cd mi d → zev (zxs c) n d M pc ls st F G = some o → zI c F G H → s.heap.size ≤ H.size → (∀ x ∈ locs, zB c ≤ x.base) → zL c mi.2.2.2.2.2.2.2.1 mi.2.2.2.1 mls ls → cells + n0 = F.1 → slots + s0 = F.2.1 → o.2.1.1 ≤ R.cells + n0 → o.2.1.2.1 ≤ R.slots + s0 → zEnd c p l e R s m args below meth cd Q mi n0 s0 o → W p l e R s m args below meth cd H locs cells slots Q (F0 m pc mls (st.map (ztr c)))
theorem z_met {c : zX} {l : Launch} {n : Nat} (hW : zWk c l n) (hCx : zCx c) {m d : Nat} {mj : zE} {as : List Value} {F : zF} {G : zG} {o : Option Value × zF × zG} (hm : zm m = some mj) (hm1 : m + 1 < zml.length) (hel : (zent mj.2.2.2.1 as).length = mj.2.2.2.1) (hlk : zlok mj.2.2.2.2.2.2.2.1 0 (zent mj.2.2.2.1 as) = true) (hev : zev (zxs c) n d m 0 (zent mj.2.2.2.1 as) [] F G = some o) :
    Met l mj.2.1 (zws mj) (zrm d (o.2.1.1 - F.1) (o.2.1.2.1 - F.2.1)) (zPc c as F G) (zQ c o.1 o.2.1 o.2.2) (o.2.1.1 - F.1) (o.2.1.2.1 - F.2.1) (zA c) := by
  have hg := z_mi hm hm1
  obtain ⟨⟨g1, g2⟩, g3, g4, g5, g6, g7, g8, g9, g10⟩ := zgood_of hg
  refine Met.ofW (cc := mj.2.2.1) (maxL := mj.2.2.2.1) (ret := mj.2.2.2.2.1) g5 rfl ?_
  intro p e s m' args below meth cd s₁ B hml hv
  obtain ⟨rfl, hKK, hI⟩ := hv
  have hr := B.returns
  have hts := atoms_spec (ws := zws mj) B.pre
  have hown : s.vm.findClass mj.2.1.cls = some m'.cls := findClass_of_methodNamed B.named
  have hlocks := B.notSynchronized
  have hmono := zev_mono _ _ _ _ _ _ _ _ _ hev
  rw [lg_entry_eq]
  rw [g8] at hown
  refine hW p e _ s m' _ below meth cd s.heap [] 0 0 _ mj d F.1 F.2.1 _ m 0 _ [] F G o hm ⟨B.exec, B.bytes, hml, hown, fun w hw => hts w (List.mem_cons_of_mem _ hw), hKK, hCx, (fun h => by rw [(name_of_methodNamed B.named B.method).1]; exact h), hI.2.1, by rw [hI.1]; exact Nat.le_add_right _ _, Nat.le_refl _, Nat.le_refl _⟩ hev hI (Nat.le_refl _) (fun x hx => by cases hx) (zL_entry hCx hel hlk) (Nat.zero_add _) (Nat.zero_add _) (by show o.2.1.1 ≤ (o.2.1.1 - F.1) + F.1; omega) (by show o.2.1.2.1 ≤ (o.2.1.2.1 - F.2.1) + F.2.1; omega) ?_
  intro H1 locs1 mls1 cells1 slots1 pc1 len1 op1 st1 hd hrt hI1 hlo1 hsz1 hc1 hc2
  have ec : cells1 = o.2.1.1 - F.1 := by omega
  have es : slots1 = o.2.1.2.1 - F.2.1 := by omega
  subst ec; subst es
  have hfin : ∀ (v : Option Value) (t : State), v = o.1.map (ztr c) → t.heap = H1 → s.WarmedH t.vm → zQ c o.1 o.2.1 o.2.2 ((as.map (ztr c)).toArray) s (.returned v) t := fun v t hv ht _ => ⟨by rw [hv], by rw [ht]; exact hI1⟩
  unfold zrt at hrt
  split at hrt
  · rename_i hlen
    subst hlen
    split at hrt
    · split at hrt
      · rename_i v
        split at hrt
        · rename_i ty hty
          split at hrt
          · rename_i hn
            rw [hty] at hr
            have ho := Option.some.inj hrt
            exact W.zret B.exec B.bytes hr hn.1 (fun t ht hW => hfin _ t (by rw [← ho]; rfl) ht hW) hlo1 hd
          · cases hrt
        · cases hrt
      · cases hrt
    · split at hrt
      · rename_i v
        split at hrt
        · rename_i hty
          rw [hty] at hr
          have ho := Option.some.inj hrt
          exact W.lret B.exec B.bytes hr (fun t ht hW => hfin _ t (by rw [← ho]; rfl) ht hW) hlo1 hd
        · cases hrt
      · cases hrt
    · split at hrt
      · rename_i v
        split at hrt
        · rename_i hisr
          split at hrt
          · rename_i nm hty
            rw [hty] at hr
            have ho := Option.some.inj hrt
            exact W.aret B.exec B.bytes hr (Or.inl ⟨_, rfl⟩) (Or.inr (ztr_isr hisr)) (fun t ht hW => hfin _ t (by rw [← ho]; rfl) ht hW) hlo1 hd
          · cases hrt
        · cases hrt
      · cases hrt
    · split at hrt
      · split at hrt
        · rename_i hty
          rw [hty] at hr
          have ho := Option.some.inj hrt
          exact W.vret B.exec B.bytes hr (fun t ht hW => hfin _ t (by rw [← ho]; rfl) ht hW) hlo1 hd
        · cases hrt
      · cases hrt
    · cases hrt
  · cases hrt
theorem z_walk {c : zX} (hCx : zCx c) {l : Launch} : ∀ n, zWk c l n := by
  intro n
  induction n with
  | zero =>
    intro p e R s m args below meth cd H locs cells slots Q mi d n0 s0 mls M pc ls st F G o hm X hev
    unfold zev at hev
    cases hev
  | succ n ih =>
    intro p e R s m args below meth cd H locs cells slots Q mi d n0 s0 mls M pc ls st F G o hm X hev hI hss hlo hL hc1 hc2 hr1 hr2 hend
    obtain ⟨mi', op, len, hm', hd, h1 | h1 | h1⟩ := zev_step hev
    · cases hm.symm.trans hm'
      obtain ⟨q, d1, mj, as, rest, r, F1, G1, hck, hdd, hlen, hca, hev1, hev2⟩ := h1
      subst hlen
      obtain ⟨hmj, -, -, -, -, -, -, hel, hlk, hm1⟩ := zca_inv hca
      have hMet := z_met ih hCx hmj hm1 hel hlk hev1
      have mo1 := zev_mono _ _ _ _ _ _ _ _ _ hev1
      have mo2 := zev_mono _ _ _ _ _ _ _ _ _ hev2
      dsimp only at mo1 hMet
      refine z_callm X hd hck hdd hca hI hss hlo hL.1 hMet ⟨by omega, by omega⟩ (fun H1 locs1 hI1 hlo1 => ?_)
      refine ih p e R s m args below meth cd H1 locs1 _ _ Q mi d n0 s0 mls M (pc + 3) ls _ F1 G1 o hm X hev2 hI1 ?_ hlo1 hL (by omega) (by omega) hr1 hr2 hend
      rw [hI1.1]
      have := hI.1
      omega
    · cases hm.symm.trans hm'
      obtain ⟨r, hrt, rfl⟩ := h1
      exact hend H locs mls cells slots pc len op st hd hrt hI hlo hL.1 hc1 hc2
    · cases hm.symm.trans hm'
      obtain ⟨q, hsi, hev2⟩ := h1
      have mo1 := zsi_mono hsi
      have mo2 := zev_mono _ _ _ _ _ _ _ _ _ hev2
      refine z_si X hd hsi hI hss hlo hL hc1 hc2 (by omega) (by omega) (fun H1 locs1 mls1 cells1 slots1 hI1 hlo1 hL1 hc3 hc4 => ?_)
      refine ih p e R s m args below meth cd H1 locs1 cells1 slots1 Q mi d n0 s0 mls1 M q.1 q.2.1 q.2.2.1 q.2.2.2.1 q.2.2.2.2 o hm X hev2 hI1 ?_ hlo1 hL1 hc3 hc4 hr1 hr2 hend
      rw [hI1.1]
      have := hI.1
      omega
