/-! THE CLAIM OUT OF ONE RUN OF THE EVALUATOR: the law's body, begun on the empty heap of the small machine. -/
def R_law : String := "GleanersForGapsLaw"
def lw_P (b : Addr) (xs : List Int32) (args : Array Value) (s : State) : Prop := args = #[.ref b] ∧ s.IntsAt b xs ∧ xs.length ≤ 3072 ∧ (Jvm.Cond.and given_1 narrow_1).before args s = true
def lw_Q (_ : Array Value) (s : State) (o : Outcome) (t : State) : Prop := o = .returned (some (.int 1)) ∧ Framed s o t [] 600000 7302250
def lw_Z (below : List Frame) (a : Array Value) (s : State) : State → Prop := fun t => ∃ o, t.status = .running ∧ Ended t below o ∧ lw_Q a s o t
/-- the law's own end, with 1 on the stack, nothing written that was there before, its room as the claim has it -/
theorem lw_ret {p : Program} {l : Launch} {e : Env} {s : State} {m : MethodId} {below : List Frame} {meth : Method} {c : Code} {b : Nat} (hx : p.tables.exec = Jvm.exec) (hb : c.code = code) (hr : meth.sig.returnType = ret) (hlocks : meth.locks = false) {pc : Nat} {H : Heap} {ls : Array Slot} (hdg : decode code pc = .ok (.ireturn, 1)) : W p l e room_1 s m #[Value.ref b] below meth c H [] 600000 7302250 (lw_Z below #[Value.ref b] s) (F0 m pc ls [.int 1]) := by
  intro T hT X
  obtain ⟨fs, hret, hrun, hended, hW, hframe⟩ := X.leave (v := some (.int 1)) (hlocks := hlocks) (fun h => by rw [hr] at h; cases h)
  have hmeth' : T.vm.method? m = some meth := X.method'
  refine ⟨T.setFrames fs, ?_, .returned (some (.int 1)), hrun, hended, rfl, ⟨_, rfl⟩, hW, hframe⟩
  jvm_step X.here [X.here.top, hx, hb, hdg, hmeth', hr, ret, narrow_b1]
  (try refine ⟨rfl, ?_⟩); (try refine ⟨rfl, ?_⟩)
  first | (intro acts; rw [hret _ acts rfl rfl rfl]) | rw [hret _ _ rfl rfl rfl]
  exact Steps.refl _
def lw_At (p : Program) (s : State) (m : MethodId) (meth : Method) (c : Code) (b L : Nat) (xs : Nat → Int32) : Prop :=
  p.tables.exec = Jvm.exec ∧ c.code = code ∧ meth.sig.returnType = ret ∧ c.maxLocals = 4 ∧ s.vm.findClass R_law = some m.cls ∧ (∀ w ∈ lw_tbl, w.before #[Value.ref b] s = true) ∧ va_X b L xs s s.heap ∧ b < s.heap.size ∧ meth.locks = false ∧ (Jvm.Cond.and given_1 narrow_1).before #[Value.ref b] s = true


def zstm (i : Nat) : Term := .string "GleanersForGaps$Tape" ((zsl.getD i (0, 0, "", 0)).2.1)
def zflt : List Cond := flatC (Jvm.Cond.and given_1 narrow_1)
theorem zs_ex : ∀ i : Nat, i < 12 → Cond.exactly (zstm i) "java/lang/String" ∈ zflt := by decide +kernel
theorem zs_co : ∀ i : Nat, i < 12 → Cond.eq (.field (zstm i) "java/lang/String" "coder" "B") (.int 0) ∈ zflt := by decide +kernel
theorem zs_ar : ∀ i : Nat, i < 12 → Cond.arrayOf (.field (zstm i) "java/lang/String" "value" "[B") .byte ∈ zflt := by decide +kernel
theorem zs_le : ∀ i : Nat, i < 12 → Cond.eq (.length (.field (zstm i) "java/lang/String" "value" "[B")) (.int (Int32.ofNat ((zbl.map List.length).getD i 0))) ∈ zflt := by decide +kernel
theorem zs_el : ∀ i : Nat, i < 12 → ∀ j : Nat, j < (zbl.map List.length).getD i 0 → Cond.eq (.elem (.field (zstm i) "java/lang/String" "value" "[B") (.int (Int32.ofNat j))) (.int ((zbl.getD i []).getD j 0)) ∈ zflt := by decide +kernel
theorem zs_ne : ∀ i : Nat, i < 12 → ∀ j : Nat, j < 12 → i ≠ j → Cond.not (Cond.eq (zstm i) (zstm j)) ∈ zflt ∨ Cond.not (Cond.eq (zstm j) (zstm i)) ∈ zflt := by decide +kernel
theorem zs_ka : Cond.arrayOf (.static "GleanersForGaps" "KIND_ABOVE" "[I") .int ∈ zflt ∧ Cond.eq (.length (.static "GleanersForGaps" "KIND_ABOVE" "[I")) (.int (Int32.ofNat 6)) ∈ zflt ∧ Cond.eq (.static "java/lang/String" "COMPACT_STRINGS" "Z") (.int 1) ∈ zflt ∧ Cond.isRef (.static "jdk/internal/util/Preconditions" "SIOOBE_FORMATTER" "Ljava/util/function/BiFunction;") ∈ zflt := by decide +kernel
theorem zs_ke : ∀ j : Nat, j < 6 → Cond.eq (.elem (.static "GleanersForGaps" "KIND_ABOVE" "[I") (.int (Int32.ofNat j))) (.int (([-1, 0, 0, 1, 2, 0] : List Int32).getD j 0)) ∈ zflt := by decide +kernel
theorem zs_ls : Cond.laysStatic "java/lang/String" "COMPACT_STRINGS" "Z" ∈ lw_tbl ∧ Cond.laysStatic "GleanersForGaps" "KIND_ABOVE" "[I" ∈ lw_tbl ∧ Cond.laysStatic "jdk/internal/util/Preconditions" "SIOOBE_FORMATTER" "Ljava/util/function/BiFunction;" ∈ lw_tbl := by decide +kernel
theorem zs_in : Cond.initialized "java/lang/String" ∈ lw_tbl ∧ Cond.initialized "GleanersForGaps" ∈ lw_tbl ∧ Cond.initialized "jdk/internal/util/Preconditions" ∈ lw_tbl := by decide +kernel
theorem zsl_own : ∀ k : Nat, k < 12 → (zsl.getD k (0, 0, "", 0)).1 = 5 := by decide +kernel
theorem zm_law : zm 211 = some (15, ⟨"GleanersForGapsLaw", "law", "([I)Z"⟩, code, 4, some .boolean, true, 1, [], []) := by rfl
theorem zI_empty {c : zX} (h0 : (zH0 c).size = zB c) : zI c zF00 zG00 (zH0 c) := by
  have hs : ∀ a, zsh zF00 a = 999 := by intro a; unfold zsh zF00; rw [if_neg (by simp)]
  exact ⟨h0, fun _ _ => rfl, fun a ci h h9 => by rw [hs] at h; omega, fun a t h h2 => by rw [hs] at h; omega, fun a t h h2 h4 => by rw [hs] at h; omega⟩
set_option maxHeartbeats 4000000 in
theorem z_start {p : Program} {e : Env} {s : State} {m : MethodId} {below : List Frame} {meth : Method} {cd : Code} (l : Launch) {b L : Nat} {xs : Nat → Int32} (C0 : lw_At p s m meth cd b L xs)
    (hrun : ∃ (n : Nat) (F' : zF) (G' : zG), zev (L, xs) n 200 211 0 (zent 4 [.double 50]) [] zF00 zG00 = some (some (.int 1), F', G') ∧ F'.1 ≤ 600000 ∧ F'.2.1 ≤ 7302250) :
    W p l e room_1 s m #[Value.ref b] below meth cd s.heap [] 0 0 (lw_Z below #[Value.ref b] s) (entryFrame m ([Value.ref b] : List Value).toArray 4) := by
  obtain ⟨hx, hb, hr, hml, hown, hts, hX, hbl, hlocks, hgv⟩ := C0
  obtain ⟨n, F', G', hev, hf1, hf2⟩ := hrun
  have hfl : ∀ w ∈ zflt, w.before #[Value.ref b] s = true := flat_of_before _ hgv
  have htz : ∀ w ∈ ztb, w.before #[Value.ref b] s = true := fun w hw => hts w (ztb_good hw).1
  generalize hB : s.heap.size = B
  have hA : ∀ a : Nat, a < s.heap.size → ¬ (fun q : Nat => B ≤ q) a := fun a h => by rw [hB] at h; exact Nat.not_le.mpr h
  -- the classes
  have hcl : ∀ ci : Nat, ∃ q : ClassId × (Nat → Nat), ci < 9 → u_Kn s (zC ci) (zT ci) (zN ci) q.1 q.2 := by
    intro ci
    by_cases h : ci < 9
    · obtain ⟨cC, iS, hk⟩ := u_known (C := zC ci) (T := zT ci) (N := zN ci) (n := zN ci) htz (z_uws h) (htz _ (z_ins h).1)
      exact ⟨(cC, iS), fun _ => hk⟩
    · exact ⟨(0, fun _ => 0), fun h2 => absurd h2 h⟩
  obtain ⟨fcl, hfcl⟩ := Classical.axiomOfChoice hcl
  -- the arrays' classes
  obtain ⟨a0, k0, p0, i1, i2, i3⟩ := Cond.arrayClass_spec (htz _ z_arr.1)
  obtain ⟨a1, k1, p1, j1, j2, j3⟩ := Cond.arrayClass_spec (htz _ z_arr.2.1)
  obtain ⟨p2, a2, k2, u1, u2, u3, u4, u5⟩ := Cond.arrayOver_spec (hts _ z_arr.2.2.1)
  obtain ⟨p3, a3, k3, v1, v2, v3, v4, v5⟩ := Cond.arrayOver_spec (hts _ z_arr.2.2.2)
  -- the Strings
  obtain ⟨adK, adV, hvS, hvE⟩ := vk_Sof (args := #[Value.ref b]) (s := s) (N := 12) (tm := zstm) (len := zbl.map List.length) (byt := zbl) (A := fun q : Nat => B ≤ q) (by decide +kernel) (fun i hi => hfl _ (zs_ex i hi)) (fun i hi => hfl _ (zs_co i hi)) (fun i hi => hfl _ (zs_ar i hi)) (fun i hi => hfl _ (zs_le i hi)) (fun i hi j hj => hfl _ (zs_el i hi j hj)) (fun i j hi hj hij => (zs_ne i hi j hj hij).imp (hfl _) (hfl _)) hA
  -- statics
  obtain ⟨ka, hka, hkT⟩ := va_Tof (args := #[Value.ref b]) (s := s) (tm := .static "GleanersForGaps" "KIND_ABOVE" "[I") (ty := .int) (N := 6) (f := fun j => .int (([-1, 0, 0, 1, 2, 0] : List Int32).getD j 0)) (A := fun q : Nat => B ≤ q) (by omega) (hfl _ zs_ka.1) (va_eqt (hfl _ zs_ka.2.1)) (fun j hj => va_eqt (hfl _ (zs_ke j hj))) hA
  obtain ⟨fv, hfv, hfr⟩ := Cond.isRef_spec (hfl _ zs_ka.2.2.2)
  have hz1 := va_Zof (A := fun q : Nat => B ≤ q) (hts _ zs_ls.1) (hts _ zs_in.1) (va_eqi (hfl _ zs_ka.2.2.1)) hA
  have hz2 := va_Zof (A := fun q : Nat => B ≤ q) (hts _ zs_ls.2.1) (hts _ zs_in.2.1) hka hA
  have hz3 := va_Zof (A := fun q : Nat => B ≤ q) (hts _ zs_ls.2.2) (hts _ zs_in.2.2) hfv hA
  obtain ⟨c, hc⟩ : ∃ c : zX, c = ((B, adK, fun k => if k = 0 then ka else if k = 50 then b else adV (k - 1), fv), (fun k => (fcl k).1, fun k => (fcl k).2), (fun t => if t = 0 then a0 else if t = 1 then a1 else if t = 2 then a2 else a3), s.heap, (L, xs)) := ⟨_, rfl⟩
  have eB : zB c = B := by rw [hc]; rfl
  have eH : zH0 c = s.heap := by rw [hc]; rfl
  have eA : zA c = fun q : Nat => B ≤ q := by rw [hc]; rfl
  have hCx : zCx c := by
    refine ⟨by rw [eH, eB, hB], ?_⟩
    have : zfm c = fv := by rw [hc]; rfl
    rw [this]
    cases fv <;> first | exact Or.inl rfl | exact Or.inr ⟨_, rfl⟩ | cases hfr
  have hKK : zKK c s := by
    have ev0 : zaV c 0 = ka := by rw [hc]; rfl
    have efm : zfm c = fv := by rw [hc]; rfl
    refine ⟨⟨fun k q hq => ?_, fun k q hq => ?_⟩, fun own idx y hw => va_Nw.of rfl (hts _ hw), ⟨va_AO.of (hts _ z_arr.2.2.1), va_AO.of (hts _ z_arr.2.2.2)⟩, ⟨by rw [eA, eH]; exact hz1, by rw [eA, eH, ev0]; exact hz2, by rw [eA, eH, efm]; exact hz3⟩, ⟨?_, ?_⟩, ?_, fun k q hq => ?_⟩
    · obtain ⟨h9, rfl⟩ := zcs_of hq
      have h1 := hfcl k h9
      have e1 : (zD c).1 k = (fcl k).1 := by rw [hc]; rfl
      have e2 : (zD c).2 k = (fcl k).2 := by rw [hc]; rfl
      rw [e1, e2]
      exact h1
    · have hk4 : k < 4 := (List.getElem?_eq_some_iff.mp hq).1
      rw [ztys_at hk4] at hq
      cases hq
      rcases (show k = 0 ∨ k = 1 ∨ k = 2 ∨ k = 3 by omega) with rfl | rfl | rfl | rfl
      · have e1 : zcA c 0 = a0 := by rw [hc]; rfl
        dsimp only
        rw [e1]
        exact ⟨fun N z => ⟨fun k h => (by cases h), k0, i2, p0, i3⟩, i1⟩
      · have e1 : zcA c 1 = a1 := by rw [hc]; rfl
        dsimp only
        rw [e1]
        exact ⟨fun N z => ⟨fun k h => (by cases h), k1, j2, p1, j3⟩, j1⟩
      · have e1 : zcA c 2 = a2 := by rw [hc]; rfl
        dsimp only
        rw [e1]
        exact ⟨fun N z => ⟨fun k h => (by cases h), k2, u3, p2, u4⟩, k2, p2, u3, u4, u1, u5⟩
      · have e1 : zcA c 3 = a3 := by rw [hc]; rfl
        dsimp only
        rw [e1]
        exact ⟨fun N z => ⟨fun k h => (by cases h), k3, v3, p3, v4⟩, k3, p3, v3, v4, v1, v5⟩
    · rw [eA, eH]
      have : zaV c 0 = ka := by rw [hc]; rfl
      rw [this]
      exact hkT
    · rw [eA, eH]
      have e1 : zaV c 50 = b := by rw [hc]; rfl
      have e2 : zxs c = (L, xs) := by rw [hc]; rfl
      rw [e1, e2]
      obtain ⟨scr, h1, h2, h3, h4, h5⟩ := hX
      exact ⟨scr, h1, h2, h3, by rw [h4]; exact Nat.le_refl _, by rw [h4] <;> rfl, h5, hA b hbl⟩
    · rw [eA, eH]
      have e1 : zaK c = adK := by rw [hc]; rfl
      rw [e1]
      have e2 : vk_S 12 (zbl.map List.length) zbl adK (fun k => zaV c (1 + k)) (fun q : Nat => B ≤ q) s s.heap ↔ vk_S 12 (zbl.map List.length) zbl adK adV (fun q : Nat => B ≤ q) s s.heap := by
        have e3 : ∀ i, i < 12 → zaV c (1 + i) = adV i := by
          intro i hi
          rw [hc]
          show (if 1 + i = 0 then ka else if 1 + i = 50 then b else adV (1 + i - 1)) = adV i
          rw [if_neg (by omega), if_neg (by omega), Nat.add_sub_cancel_left]
        unfold vk_S
        refine ⟨fun h => ⟨fun i hi => ?_, h.2⟩, fun h => ⟨fun i hi => ?_, h.2⟩⟩
        · have := h.1 i hi
          dsimp only at this
          rw [e3 i hi] at this
          exact this
        · have := h.1 i hi
          dsimp only
          rw [e3 i hi]
          exact this
      exact e2.mpr hvS
    · have e1 : zaK c = adK := by rw [hc]; rfl
      have hk : k < 12 := by have := (List.getElem?_eq_some_iff.mp hq).1; rw [zsl_len.1] at this; exact this
      rw [e1]
      have hw := List.all_eq_true.mp zsl_all q (List.mem_of_getElem? hq)
      rw [decide_eq_true_eq] at hw
      have e3 : zsl.getD k (0, 0, "", 0) = q := by rw [List.getD_eq_getElem?_getD, hq]; rfl
      have h5 := zsl_own k hk
      have hE := hvE k hk
      unfold zstm at hE
      rw [e3] at h5 hE
      refine vk_R.of (A := #[Value.ref b]) (hts _ (List.mem_of_getElem? hw)) ?_
      rw [h5]
      exact hE
  have e2 : zxs c = (L, xs) := by rw [hc]; rfl
  have e50 : zaV c 50 = b := by rw [hc]; rfl
  rw [← e2] at hev
  rw [lg_entry_eq]
  have hL := zL_entry hCx (LS := []) (nL := 4) (as := [.double 50]) rfl rfl
  have hmap : [Value.double 50].map (ztr c) = [Value.ref b] := by
    show [Value.ref (zaV c (50 : UInt64).toNat)] = _
    rw [show (50 : UInt64).toNat = 50 from rfl, e50]
  rw [hmap] at hL
  refine z_walk hCx n p e room_1 s m #[Value.ref b] below meth cd s.heap [] 0 0 _ _ 200 0 0 _ 211 0 _ [] zF00 zG00 _ zm_law ⟨hx, hb, hml, hown, htz, hKK, hCx, fun h => absurd h (by decide), fun q _ => by rw [eH], by rw [eB, hB]; exact Nat.le_refl _, by decide, by decide⟩ hev (by have := zI_empty (c := c) hCx.1; rwa [eH] at this) (Nat.le_refl _) (fun x hx => by cases hx) hL rfl rfl (by show F'.1 ≤ 600000 + 0; omega) (by show F'.2.1 ≤ 7302250 + 0; omega) ?_
  intro H1 locs1 mls1 cells1 slots1 pc1 len1 op1 st1 hd hrt hI1 hlo1 hsz1 hc1 hc2
  dsimp only at hrt hc1 hc2
  refine va_forget (fun q hq => by have := hlo1 q hq; rw [eB] at this; rw [hB]; exact this) ?_
  refine W.widen (k := 600000) (n := 7302250) (by omega) (by omega) ?_
  unfold zrt at hrt
  split at hrt
  · rename_i hlen
    subst hlen
    split at hrt
    · split at hrt
      · rename_i v
        dsimp only at hrt
        split at hrt
        · cases hrt
          exact lw_ret hx hb hr hlocks hd
        · cases hrt
      · cases hrt
    · split at hrt
      · split at hrt <;> cases hrt
      · cases hrt
    · split at hrt
      · split at hrt
        · dsimp only at hrt
          cases hrt
        · cases hrt
      · cases hrt
    · split at hrt
      · split at hrt <;> cases hrt
      · cases hrt
    · cases hrt
  · cases hrt
