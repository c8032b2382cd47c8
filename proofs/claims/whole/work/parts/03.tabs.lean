/-! What the tables say, word by word. -/
def ztb : List Cond := lw_tbl.filter goodWord
def zin (i : Nat) (w : Cond) : Bool := decide (lw_tbl[i]? = some w) && goodWord w
theorem zin_mem {i : Nat} {w : Cond} (h : zin i w = true) : w ∈ ztb := by
  unfold zin at h
  rw [Bool.and_eq_true, decide_eq_true_eq] at h
  exact List.mem_filter.mpr ⟨List.mem_of_getElem? h.1, h.2⟩
theorem ztb_good {w : Cond} (h : w ∈ ztb) : w ∈ lw_tbl ∧ ((w.onTables && w.keeps) = true ∨ ∃ ty, w = .arrayClass ty) := ⟨(List.mem_filter.mp h).1, good_of_word (List.mem_filter.mp h).2⟩
theorem z_find {α : Type} {l : List α} {p q : α → Bool} (hl : l.all q = true) {a : α} (h : l.find? p = some a) : q a = true ∧ p a = true ∧ a ∈ l :=
  ⟨List.all_eq_true.mp hl a (List.mem_of_find?_eq_some h), List.find?_some h, List.mem_of_find?_eq_some h⟩
-- fields
theorem zfl_all : zfl.all (fun q => zin q.2.2.2.2 (.fieldLink (zC q.1) q.2.1 (zT q.2.2.1 q.2.2.2.1).1 (zT q.2.2.1 q.2.2.2.1).2.1 (zT q.2.2.1 q.2.2.2.1).2.2.1) && (decide (q.2.2.1 < 9) && decide (q.2.2.2.1 < zN q.2.2.1))) = true := by decide +kernel
theorem z_fld {own idx : Nat} {q : Nat × Nat × Nat × Nat × Nat} (h : zfld own idx = some q) : Cond.fieldLink (zC own) idx (zT q.2.2.1 q.2.2.2.1).1 (zT q.2.2.1 q.2.2.2.1).2.1 (zT q.2.2.1 q.2.2.2.1).2.2.1 ∈ ztb ∧ q.2.2.1 < 9 ∧ q.2.2.2.1 < zN q.2.2.1 := by
  obtain ⟨h1, h2, -⟩ := z_find zfl_all h
  simp only [Bool.and_eq_true, beq_iff_eq, decide_eq_true_eq] at h1 h2
  obtain ⟨rfl, rfl⟩ := h2
  exact ⟨zin_mem h1.1, h1.2.1, h1.2.2⟩
theorem zjfl_all : zjfl.all (fun q => q.2.2.1 == 0 && zin q.2.2.2 (.fieldLink (zC q.1) q.2.1 "java/lang/String" "value" "[B") || q.2.2.1 == 1 && zin q.2.2.2 (.fieldLink (zC q.1) q.2.1 "java/lang/String" "coder" "B")) = true := by decide +kernel
theorem z_jfd {own idx : Nat} {q : Nat × Nat × Nat × Nat} (h : zjfd own idx = some q) : (q.2.2.1 = 0 ∧ Cond.fieldLink (zC own) idx "java/lang/String" "value" "[B" ∈ ztb) ∨ (q.2.2.1 = 1 ∧ Cond.fieldLink (zC own) idx "java/lang/String" "coder" "B" ∈ ztb) := by
  obtain ⟨h1, h2, -⟩ := z_find zjfl_all h
  simp only [Bool.and_eq_true, Bool.or_eq_true, beq_iff_eq] at h1 h2
  obtain ⟨rfl, rfl⟩ := h2
  rcases h1 with h1 | h1
  · exact Or.inl ⟨h1.1, zin_mem h1.2⟩
  · exact Or.inr ⟨h1.1, zin_mem h1.2⟩
theorem zsfl_all : zsfl.all (fun q => q.2.2.1 == 0 && zin q.2.2.2 (.fieldLink (zC q.1) q.2.1 "java/lang/String" "COMPACT_STRINGS" "Z") || (q.2.2.1 == 1 && zin q.2.2.2 (.fieldLink (zC q.1) q.2.1 "GleanersForGaps" "KIND_ABOVE" "[I") || q.2.2.1 == 2 && zin q.2.2.2 (.fieldLink (zC q.1) q.2.1 "jdk/internal/util/Preconditions" "SIOOBE_FORMATTER" "Ljava/util/function/BiFunction;"))) = true := by decide +kernel
theorem z_sfd {own idx : Nat} {q : Nat × Nat × Nat × Nat} (h : zsfd own idx = some q) : (q.2.2.1 = 0 ∧ Cond.fieldLink (zC own) idx "java/lang/String" "COMPACT_STRINGS" "Z" ∈ ztb) ∨ (q.2.2.1 = 1 ∧ Cond.fieldLink (zC own) idx "GleanersForGaps" "KIND_ABOVE" "[I" ∈ ztb) ∨ (q.2.2.1 = 2 ∧ Cond.fieldLink (zC own) idx "jdk/internal/util/Preconditions" "SIOOBE_FORMATTER" "Ljava/util/function/BiFunction;" ∈ ztb) := by
  obtain ⟨h1, h2, -⟩ := z_find zsfl_all h
  simp only [Bool.and_eq_true, Bool.or_eq_true, beq_iff_eq] at h1 h2
  obtain ⟨rfl, rfl⟩ := h2
  rcases h1 with h1 | h1 | h1
  · exact Or.inl ⟨h1.1, zin_mem h1.2⟩
  · exact Or.inr (Or.inl ⟨h1.1, zin_mem h1.2⟩)
  · exact Or.inr (Or.inr ⟨h1.1, zin_mem h1.2⟩)
-- numbers, texts
theorem znl_all : znl.all (fun q => zin q.2.2.2 (.constant (zC q.1) q.2.1 q.2.2.1)) = true := by decide +kernel
theorem z_num {own idx : Nat} {q : Nat × Nat × Int32 × Nat} (h : znum own idx = some q) : Cond.constant (zC own) idx q.2.2.1 ∈ ztb := by
  obtain ⟨h1, h2, -⟩ := z_find znl_all h
  simp only [Bool.and_eq_true, beq_iff_eq] at h2
  obtain ⟨rfl, rfl⟩ := h2
  exact zin_mem h1
theorem zjl_all : zjl.all (fun q => zin q.2.2.2 (.constantLong (zC q.1) q.2.1 q.2.2.1)) = true := by decide +kernel
theorem z_lng {own idx : Nat} {q : Nat × Nat × Int64 × Nat} (h : zlng own idx = some q) : Cond.constantLong (zC own) idx q.2.2.1 ∈ ztb := by
  obtain ⟨h1, h2, -⟩ := z_find zjl_all h
  simp only [Bool.and_eq_true, beq_iff_eq] at h2
  obtain ⟨rfl, rfl⟩ := h2
  exact zin_mem h1
theorem zsl_len : zsl.length = 12 ∧ zbl.length = 12 := by decide +kernel
theorem z_str {own idx k : Nat} (h : zstr own idx = some k) : ∃ q, zsl[k]? = some q ∧ q.1 = own ∧ q.2.1 = idx ∧ k < 12 := by
  obtain ⟨hk, h1, -⟩ := List.findIdx?_eq_some_iff_getElem.mp h
  simp only [Bool.and_eq_true, beq_iff_eq] at h1
  exact ⟨zsl[k], List.getElem?_eq_getElem hk, h1.1, h1.2, by have := zsl_len.1; omega⟩
theorem zsl_all : zsl.all (fun q => decide (lw_tbl[q.2.2.2]? = some (.stringRef (zC q.1) q.2.1 q.2.2.1))) = true := by decide +kernel
-- fields of the classes
def zclw (ci : Nat) : vw_C := (zC ci, zT ci, zN ci)
abbrev zcs : List vw_C := (List.range 9).map zclw
theorem zcs_at {ci : Nat} (h : ci < 9) : zcs[ci]? = some (zclw ci) := by simp [zcs, h]
theorem zlay_all : ∀ ci, ci < 9 → ∀ k, k < zN ci → zin ((zLl.getD ci []).getD k 0) (u_lay (zC ci) (zT ci) k) = true := by decide +kernel
theorem z_uws {ci : Nat} (h : ci < 9) : ∀ w ∈ u_ws (zC ci) (zT ci) (zN ci), w ∈ ztb := by
  intro w hw
  obtain ⟨k, hk, rfl⟩ := List.mem_map.mp hw
  exact zin_mem (zlay_all ci h k (List.mem_range.mp hk))
theorem zty_ok : ∀ ci, ci < 9 → ∀ k, k < zN ci → parseFieldDescriptor (zT ci k).2.2.1 = some (zty ci k) := by decide +kernel
theorem znm_ok : ∀ ci, ci < 9 → ∀ a, a < zN ci → ∀ b, b < zN ci → a ≠ b → (zT ci a).2.1 ≠ (zT ci b).2.1 := by decide +kernel
theorem zdec_ok : ∀ ci, ci < 9 → ∀ k, k < zN ci → (zT ci k).1 = zC ci := by decide +kernel
theorem ztyk_ok : ∀ ci, ci < 9 → ∀ k, k < zN ci → (zty ci k = .int ∨ zty ci k = .boolean ∨ zty ci k = .long ∨ (zty ci k).isReference = true) := by decide +kernel
theorem zins_all : ∀ ci, ci < 9 → zin ((zIl.getD ci (0, 0)).1) (.instantiable (zC ci) (zN ci)) = true ∧ zin ((zIl.getD ci (0, 0)).2) (.initialized (zC ci)) = true := by decide +kernel
theorem z_ins {ci : Nat} (h : ci < 9) : Cond.instantiable (zC ci) (zN ci) ∈ ztb ∧ Cond.initialized (zC ci) ∈ ztb := ⟨zin_mem (zins_all ci h).1, zin_mem (zins_all ci h).2⟩
theorem zkl_all : zkl.all (fun q => zin q.2.2.2 (.classLink (zC q.1) q.2.1 (zC q.2.2.1))) = true := by decide +kernel
theorem z_kln {own idx : Nat} {q : Nat × Nat × Nat × Nat} (h : zkln own idx = some q) : Cond.classLink (zC own) idx (zC q.2.2.1) ∈ ztb := by
  obtain ⟨h1, h2, -⟩ := z_find zkl_all h
  simp only [Bool.and_eq_true, beq_iff_eq] at h2
  obtain ⟨rfl, rfl⟩ := h2
  exact zin_mem h1
theorem z_arr : Cond.arrayClass .int ∈ ztb ∧ Cond.arrayClass .boolean ∈ ztb ∧ Cond.arrayOver (.object "GleanersForGaps$Text") ∈ lw_tbl ∧ Cond.arrayOver (.object "GleanersForGaps$Sheet") ∈ lw_tbl := ⟨zin_mem (i := 154) (by decide +kernel), zin_mem (i := 1000) (by decide +kernel), List.mem_of_getElem? (i := 168) (by decide +kernel), List.mem_of_getElem? (i := 278) (by decide +kernel)⟩
theorem z_oiw : Cond.instanceMethod objectInit ∈ ztb ∧ Cond.code objectInit ⟨#[0xb1]⟩ 1 none ∈ ztb := ⟨zin_mem (i := 102) (by decide +kernel), zin_mem (i := 103) (by decide +kernel)⟩
theorem zol_all : zol.all (fun q => zin q.2.2 (.methodLink (zC q.1) q.2.1 objectInit)) = true := by decide +kernel
theorem z_oil {own idx : Nat} {q : Nat × Nat × Nat} (h : zoil own idx = some q) : Cond.methodLink (zC own) idx objectInit ∈ ztb := by
  obtain ⟨h1, h2, -⟩ := z_find zol_all h
  simp only [Bool.and_eq_true, beq_iff_eq] at h2
  obtain ⟨rfl, rfl⟩ := h2
  exact zin_mem h1
theorem z_acw : Cond.native arraycopyName ∈ ztb ∧ Cond.static arraycopyName ∈ ztb ∧ Cond.initialized "java/lang/System" ∈ ztb := ⟨zin_mem (i := 608) (by decide +kernel), zin_mem (i := 607) (by decide +kernel), zin_mem (i := 94) (by decide +kernel)⟩
theorem zal_all : zal.all (fun q => zin q.2.2 (.methodLink (zC q.1) q.2.1 arraycopyName)) = true := by decide +kernel
theorem z_acl {own idx : Nat} {q : Nat × Nat × Nat} (h : zacl own idx = some q) : Cond.methodLink (zC own) idx arraycopyName ∈ ztb := by
  obtain ⟨h1, h2, -⟩ := z_find zal_all h
  simp only [Bool.and_eq_true, beq_iff_eq] at h2
  obtain ⟨rfl, rfl⟩ := h2
  exact zin_mem h1
theorem zxl_all : zxl.all (fun q => q.2.2.1 == 1 && zin q.2.2.2 (.methodLink (zC q.1) q.2.1 Lib.Math.max.name) || q.2.2.1 == 0 && zin q.2.2.2 (.methodLink (zC q.1) q.2.1 Lib.Math.min.name)) = true := by decide +kernel
theorem z_mxl {own idx : Nat} {q : Nat × Nat × Nat × Nat} (h : zmxl own idx = some q) : (q.2.2.1 = 1 ∧ Cond.methodLink (zC own) idx Lib.Math.max.name ∈ ztb) ∨ (q.2.2.1 = 0 ∧ Cond.methodLink (zC own) idx Lib.Math.min.name ∈ ztb) := by
  obtain ⟨h1, h2, -⟩ := z_find zxl_all h
  simp only [Bool.and_eq_true, Bool.or_eq_true, beq_iff_eq] at h1 h2
  obtain ⟨rfl, rfl⟩ := h2
  rcases h1 with h1 | h1
  · exact Or.inl ⟨h1.1, zin_mem h1.2⟩
  · exact Or.inr ⟨h1.1, zin_mem h1.2⟩
theorem z_mxw : (Cond.static Lib.Math.max.name ∈ ztb ∧ Cond.code Lib.Math.max.name Lib.Math.max.code 2 (some .int) ∈ ztb) ∧ (Cond.static Lib.Math.min.name ∈ ztb ∧ Cond.code Lib.Math.min.name Lib.Math.min.code 2 (some .int) ∈ ztb) ∧ Cond.initialized "java/lang/Math" ∈ ztb := ⟨⟨zin_mem (i := 425) (by decide +kernel), zin_mem (i := 426) (by decide +kernel)⟩, ⟨zin_mem (i := 655) (by decide +kernel), zin_mem (i := 656) (by decide +kernel)⟩, zin_mem (i := 89) (by decide +kernel)⟩
-- methods
def zgood (mi : zE) : Bool := zin (mi.2.2.2.2.2.2.2.2.getD 0 0) (.code mi.2.1 mi.2.2.1 mi.2.2.2.1 mi.2.2.2.2.1) && (zin (mi.2.2.2.2.2.2.2.2.getD 1 0) (.initialized mi.2.1.cls) && ((if mi.2.2.2.2.2.1 = true then zin (mi.2.2.2.2.2.2.2.2.getD 2 0) (.static mi.2.1) else zin (mi.2.2.2.2.2.2.2.2.getD 2 0) (.instanceMethod mi.2.1) && (mi.2.1.name == "<init>" || zin (mi.2.2.2.2.2.2.2.2.getD 3 0) (.selects mi.2.1.cls mi.2.1 mi.2.1))) && (plainName mi.2.1.cls && (decide (mi.2.1.cls ≠ "java/lang/invoke/MethodHandle") && (decide (mi.2.1.cls ≠ "java/lang/invoke/VarHandle") && (decide ((parseMethodDescriptor mi.2.1.desc).map (fun d => d.parameters.length + (if mi.2.2.2.2.2.1 = true then 0 else 1)) = some mi.2.2.2.2.2.2.1) && (decide (mi.2.1.cls = zC mi.1) && (decide (mi.2.2.2.1 ≤ 40) && (mi.2.1.name != "<init>" || decide (mi.2.2.2.2.1 = none))))))))))
theorem zml_a0 : ((zml.drop 0).take 24).all zgood = true := by decide +kernel
theorem zml_a24 : ((zml.drop 24).take 24).all zgood = true := by decide +kernel
theorem zml_a48 : ((zml.drop 48).take 24).all zgood = true := by decide +kernel
theorem zml_a72 : ((zml.drop 72).take 24).all zgood = true := by decide +kernel
theorem zml_a96 : ((zml.drop 96).take 24).all zgood = true := by decide +kernel
theorem zml_a120 : ((zml.drop 120).take 24).all zgood = true := by decide +kernel
theorem zml_a144 : ((zml.drop 144).take 24).all zgood = true := by decide +kernel
theorem zml_a168 : ((zml.drop 168).take 24).all zgood = true := by decide +kernel
theorem zml_a192 : ((zml.drop 192).take 19).all zgood = true := by decide +kernel
theorem z_chunk {l : List zE} (k c : Nat) (h : ((l.drop k).take c).all zgood = true) {m : Nat} {mi : zE} (hm : l[m]? = some mi) (h1 : k ≤ m) (h2 : m < k + c) : zgood mi = true := by
  refine List.all_eq_true.mp h mi (List.mem_of_getElem? (i := m - k) ?_)
  rw [List.getElem?_take, if_pos (by omega), List.getElem?_drop, Nat.add_sub_cancel' h1]
  exact hm
theorem zml_len : zml.length = 212 := by decide +kernel
theorem z_mi {m : Nat} {mi : zE} (h : zm m = some mi) (hm : m + 1 < zml.length) : zgood mi = true := by
  rw [zml_len] at hm
  rcases Nat.lt_or_ge m 24 with q | q
  · exact z_chunk 0 24 zml_a0 h (by omega) (by omega)
  rcases Nat.lt_or_ge m 48 with q | q
  · exact z_chunk 24 24 zml_a24 h (by omega) (by omega)
  rcases Nat.lt_or_ge m 72 with q | q
  · exact z_chunk 48 24 zml_a48 h (by omega) (by omega)
  rcases Nat.lt_or_ge m 96 with q | q
  · exact z_chunk 72 24 zml_a72 h (by omega) (by omega)
  rcases Nat.lt_or_ge m 120 with q | q
  · exact z_chunk 96 24 zml_a96 h (by omega) (by omega)
  rcases Nat.lt_or_ge m 144 with q | q
  · exact z_chunk 120 24 zml_a120 h (by omega) (by omega)
  rcases Nat.lt_or_ge m 168 with q | q
  · exact z_chunk 144 24 zml_a144 h (by omega) (by omega)
  rcases Nat.lt_or_ge m 192 with q | q
  · exact z_chunk 168 24 zml_a168 h (by omega) (by omega)
  exact z_chunk 192 19 zml_a192 h (by omega) (by omega)
theorem zgood_of {mi : zE} (h : zgood mi = true) : (Cond.code mi.2.1 mi.2.2.1 mi.2.2.2.1 mi.2.2.2.2.1 ∈ ztb ∧ Cond.initialized mi.2.1.cls ∈ ztb) ∧ (mi.2.2.2.2.2.1 = true → Cond.static mi.2.1 ∈ ztb) ∧ (mi.2.2.2.2.2.1 = false → Cond.instanceMethod mi.2.1 ∈ ztb ∧ (mi.2.1.name ≠ "<init>" → Cond.selects mi.2.1.cls mi.2.1 mi.2.1 ∈ ztb)) ∧ plainName mi.2.1.cls = true ∧ (mi.2.1.cls ≠ "java/lang/invoke/MethodHandle" ∧ mi.2.1.cls ≠ "java/lang/invoke/VarHandle") ∧ (parseMethodDescriptor mi.2.1.desc).map (fun d => d.parameters.length + (if mi.2.2.2.2.2.1 = true then 0 else 1)) = some mi.2.2.2.2.2.2.1 ∧ mi.2.1.cls = zC mi.1 ∧ mi.2.2.2.1 ≤ 40 ∧ (mi.2.1.name = "<init>" → mi.2.2.2.2.1 = none) := by
  unfold zgood at h
  simp only [Bool.and_eq_true, decide_eq_true_eq] at h
  obtain ⟨h1, h2, h3, h4, h5, h6, h7, h8, h9, h10⟩ := h
  refine ⟨⟨zin_mem h1, zin_mem h2⟩, fun hs => ?_, fun hs => ?_, h4, ⟨h5, h6⟩, h7, h8, h9, fun hn => ?_⟩
  · rw [if_pos hs] at h3
    exact zin_mem h3
  · rw [if_neg (by rw [hs]; decide), Bool.and_eq_true] at h3
    refine ⟨zin_mem h3.1, fun hn => ?_⟩
    have h4 := h3.2
    rw [Bool.or_eq_true, beq_iff_eq] at h4
    rcases h4 with h4 | h4
    · exact absurd h4 hn
    · exact zin_mem h4
  · simp only [Bool.or_eq_true, bne_iff_ne, ne_eq, decide_eq_true_eq] at h10
    rcases h10 with h10 | h10
    · exact absurd hn h10
    · exact h10
-- calls
def znst (q : Nat × Nat × Nat × Bool × Nat) : Cond := .methodLinkNest (zC q.1) q.2.1 ((zml.getD q.2.2.1 (0, ⟨"", "", ""⟩, ⟨#[]⟩, 0, none, false, 0, [], [])).2.1) "GleanersForGaps"
theorem zcl_all : zcl.all (fun q => match zm q.2.2.1 with
  | none => false
  | some mi => if q.2.2.2.1 = true then decide (lw_tbl[q.2.2.2.2]? = some (.methodLinkNest (zC q.1) q.2.1 mi.2.1 "GleanersForGaps")) else zin q.2.2.2.2 (.methodLink (zC q.1) q.2.1 mi.2.1)) = true := by decide +kernel
theorem z_call {own idx : Nat} {q : Nat × Nat × Nat × Bool × Nat} {mi : zE} (h : zcal own idx = some q) (hm : zm q.2.2.1 = some mi) : (q.2.2.2.1 = true ∧ Cond.methodLinkNest (zC own) idx mi.2.1 "GleanersForGaps" ∈ lw_tbl) ∨ (q.2.2.2.1 = false ∧ Cond.methodLink (zC own) idx mi.2.1 ∈ ztb) := by
  obtain ⟨h1, h2, -⟩ := z_find zcl_all h
  simp only [Bool.and_eq_true, beq_iff_eq] at h2
  obtain ⟨rfl, rfl⟩ := h2
  rw [hm] at h1
  dsimp only at h1
  cases hq : q.2.2.2.1
  · rw [hq, if_neg (by decide)] at h1
    exact Or.inr ⟨rfl, zin_mem h1⟩
  · rw [hq, if_pos rfl, decide_eq_true_eq] at h1
    exact Or.inl ⟨rfl, List.mem_of_getElem? h1⟩
