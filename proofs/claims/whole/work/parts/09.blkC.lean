/-! Blocks: 128-168 -/
theorem zd129_0 : zop 129 0 = some (.aload_n 0, 1) := by decide +kernel
theorem zd129_1 : zop 129 1 = some (.getfield 13, 3) := by decide +kernel
theorem zd129_4 : zop 129 4 = some (.iload_n 1, 1) := by decide +kernel
theorem zd129_5 : zop 129 5 = some (.iload_n 2, 1) := by decide +kernel
theorem zd129_6 : zop 129 6 = some (.iastore, 1) := by decide +kernel
theorem zd129_7 : zop 129 7 = some (.aload_n 0, 1) := by decide +kernel
theorem zd129_8 : zop 129 8 = some (.getfield 13, 3) := by decide +kernel
theorem zd129_11 : zop 129 11 = some (.iload_n 1, 1) := by decide +kernel
theorem zd129_12 : zop 129 12 = some (.iconst 1, 1) := by decide +kernel
theorem zd129_13 : zop 129 13 = some (.iadd, 1) := by decide +kernel
theorem zd129_14 : zop 129 14 = some (.iload_n 3, 1) := by decide +kernel
theorem zd129_15 : zop 129 15 = some (.iastore, 1) := by decide +kernel
theorem zd129_16 : zop 129 16 = some (.aload_n 0, 1) := by decide +kernel
theorem zd129_17 : zop 129 17 = some (.getfield 13, 3) := by decide +kernel
theorem zd129_20 : zop 129 20 = some (.iload_n 1, 1) := by decide +kernel
theorem zd129_21 : zop 129 21 = some (.iconst 2, 1) := by decide +kernel
theorem zd129_22 : zop 129 22 = some (.iadd, 1) := by decide +kernel
theorem zd129_23 : zop 129 23 = some (.iload 4, 2) := by decide +kernel
theorem zd129_25 : zop 129 25 = some (.iastore, 1) := by decide +kernel
theorem zd129_26 : zop 129 26 = some (.aload_n 0, 1) := by decide +kernel
theorem zd129_27 : zop 129 27 = some (.getfield 13, 3) := by decide +kernel
theorem zd129_30 : zop 129 30 = some (.iload_n 1, 1) := by decide +kernel
theorem zd129_31 : zop 129 31 = some (.iconst 3, 1) := by decide +kernel
theorem zd129_32 : zop 129 32 = some (.iadd, 1) := by decide +kernel
theorem zd129_33 : zop 129 33 = some (.iload 5, 2) := by decide +kernel
theorem zd129_35 : zop 129 35 = some (.iastore, 1) := by decide +kernel
theorem zd129_36 : zop 129 36 = some (.aload_n 0, 1) := by decide +kernel
theorem zd129_37 : zop 129 37 = some (.getfield 13, 3) := by decide +kernel
theorem zd129_40 : zop 129 40 = some (.iload_n 1, 1) := by decide +kernel
theorem zd129_41 : zop 129 41 = some (.iconst 4, 1) := by decide +kernel
theorem zd129_42 : zop 129 42 = some (.iadd, 1) := by decide +kernel
theorem zd129_43 : zop 129 43 = some (.iload 6, 2) := by decide +kernel
theorem zd129_45 : zop 129 45 = some (.iastore, 1) := by decide +kernel
theorem zd129_46 : zop 129 46 = some (.aload_n 0, 1) := by decide +kernel
theorem zd129_47 : zop 129 47 = some (.getfield 13, 3) := by decide +kernel
theorem zd129_50 : zop 129 50 = some (.iload_n 1, 1) := by decide +kernel
theorem zd129_51 : zop 129 51 = some (.iconst 5, 1) := by decide +kernel
theorem zd129_52 : zop 129 52 = some (.iadd, 1) := by decide +kernel
theorem zd129_53 : zop 129 53 = some (.iload 7, 2) := by decide +kernel
theorem zd129_55 : zop 129 55 = some (.iastore, 1) := by decide +kernel
theorem zd129_56 : zop 129 56 = some (.aload_n 0, 1) := by decide +kernel
theorem zd129_57 : zop 129 57 = some (.getfield 13, 3) := by decide +kernel
theorem zd129_60 : zop 129 60 = some (.iload_n 1, 1) := by decide +kernel
theorem zd129_61 : zop 129 61 = some (.bipush 6, 2) := by decide +kernel
theorem zd129_63 : zop 129 63 = some (.iadd, 1) := by decide +kernel
theorem zd129_64 : zop 129 64 = some (.iload 8, 2) := by decide +kernel
theorem zd129_66 : zop 129 66 = some (.iastore, 1) := by decide +kernel
theorem zd129_67 : zop 129 67 = some (.aload_n 0, 1) := by decide +kernel
theorem zd129_68 : zop 129 68 = some (.getfield 13, 3) := by decide +kernel
theorem zd129_71 : zop 129 71 = some (.iload_n 1, 1) := by decide +kernel
theorem zd129_72 : zop 129 72 = some (.bipush 7, 2) := by decide +kernel
theorem zd129_74 : zop 129 74 = some (.iadd, 1) := by decide +kernel
theorem zd129_75 : zop 129 75 = some (.iload 9, 2) := by decide +kernel
theorem zd129_77 : zop 129 77 = some (.iastore, 1) := by decide +kernel
theorem zd129_78 : zop 129 78 = some (.return_, 1) := by decide +kernel
theorem b129_0 {x : zXs} {F : zF} (hF : zSh F) {d : Nat} {V : Nat → Nat → Int32} {T : Nat → Nat → Int64} {Q : Option Value → zG → Prop} {l1 : Int32} {l2 : Int32} {l3 : Int32} {l4 : Int32} {l5 : Int32} {l6 : Int32} {l7 : Int32} {l8 : Int32} {l9 : Int32}  {i1 : Nat} (e1 : l1 = nI i1) (h1 : i1 < 960) {i2 : Nat} (e2 : l1 + (Int32.ofInt 1) = nI i2) (h2 : i2 < 960) {i3 : Nat} (e3 : l1 + (Int32.ofInt 2) = nI i3) (h3 : i3 < 960) {i4 : Nat} (e4 : l1 + (Int32.ofInt 3) = nI i4) (h4 : i4 < 960) {i5 : Nat} (e5 : l1 + (Int32.ofInt 4) = nI i5) (h5 : i5 < 960) {i6 : Nat} (e6 : l1 + (Int32.ofInt 5) = nI i6) (h6 : i6 < 960) {i7 : Nat} (e7 : l1 + (Int32.ofInt 6) = nI i7) (h7 : i7 < 960) {i8 : Nat} (e8 : l1 + (Int32.ofInt 7) = nI i8) (h8 : i8 < 960) (k : Q none (zu (zu (zu (zu (zu (zu (zu (zu V 60 i1 l2) 60 i2 l3) 60 i3 l4) 60 i4 l5) 60 i5 l6) 60 i6 l7) 60 i7 l8) 60 i8 l9, T)) : E x F d 129 0 [some (.ref 59), some (.int l1), some (.int l2), some (.int l3), some (.int l4), some (.int l5), some (.int l6), some (.int l7), some (.int l8), some (.int l9)] [] (V, T) Q := by
  refine e_aload_n zd129_0 rfl rfl ?_
  refine e_getA zd129_1 (own := 8) (ci := 8) (kf := 1) (w := 859) (by decide +kernel) (by decide +kernel) (zsh_at hF rfl).1 (by decide +kernel) rfl (zrf_at hF (i := 59) rfl) ?_
  refine e_iload_n zd129_4 rfl ?_
  refine e_iload_n zd129_5 rfl ?_
  refine e_iast zd129_6 (i := i1) (zsh_at hF rfl) e1 h1 (by omega) ?_
  refine e_aload_n zd129_7 rfl rfl ?_
  refine e_getA zd129_8 (own := 8) (ci := 8) (kf := 1) (w := 859) (by decide +kernel) (by decide +kernel) (zsh_at hF rfl).1 (by decide +kernel) rfl (zrf_at hF (i := 59) rfl) ?_
  refine e_iload_n zd129_11 rfl ?_
  refine e_iconst zd129_12 ?_
  refine e_iadd zd129_13 ?_
  refine e_iload_n zd129_14 rfl ?_
  refine e_iast zd129_15 (i := i2) (zsh_at hF rfl) e2 h2 (by omega) ?_
  refine e_aload_n zd129_16 rfl rfl ?_
  refine e_getA zd129_17 (own := 8) (ci := 8) (kf := 1) (w := 859) (by decide +kernel) (by decide +kernel) (zsh_at hF rfl).1 (by decide +kernel) rfl (zrf_at hF (i := 59) rfl) ?_
  refine e_iload_n zd129_20 rfl ?_
  refine e_iconst zd129_21 ?_
  refine e_iadd zd129_22 ?_
  refine e_iload zd129_23 rfl ?_
  refine e_iast zd129_25 (i := i3) (zsh_at hF rfl) e3 h3 (by omega) ?_
  refine e_aload_n zd129_26 rfl rfl ?_
  refine e_getA zd129_27 (own := 8) (ci := 8) (kf := 1) (w := 859) (by decide +kernel) (by decide +kernel) (zsh_at hF rfl).1 (by decide +kernel) rfl (zrf_at hF (i := 59) rfl) ?_
  refine e_iload_n zd129_30 rfl ?_
  refine e_iconst zd129_31 ?_
  refine e_iadd zd129_32 ?_
  refine e_iload zd129_33 rfl ?_
  refine e_iast zd129_35 (i := i4) (zsh_at hF rfl) e4 h4 (by omega) ?_
  refine e_aload_n zd129_36 rfl rfl ?_
  refine e_getA zd129_37 (own := 8) (ci := 8) (kf := 1) (w := 859) (by decide +kernel) (by decide +kernel) (zsh_at hF rfl).1 (by decide +kernel) rfl (zrf_at hF (i := 59) rfl) ?_
  refine e_iload_n zd129_40 rfl ?_
  refine e_iconst zd129_41 ?_
  refine e_iadd zd129_42 ?_
  refine e_iload zd129_43 rfl ?_
  refine e_iast zd129_45 (i := i5) (zsh_at hF rfl) e5 h5 (by omega) ?_
  refine e_aload_n zd129_46 rfl rfl ?_
  refine e_getA zd129_47 (own := 8) (ci := 8) (kf := 1) (w := 859) (by decide +kernel) (by decide +kernel) (zsh_at hF rfl).1 (by decide +kernel) rfl (zrf_at hF (i := 59) rfl) ?_
  refine e_iload_n zd129_50 rfl ?_
  refine e_iconst zd129_51 ?_
  refine e_iadd zd129_52 ?_
  refine e_iload zd129_53 rfl ?_
  refine e_iast zd129_55 (i := i6) (zsh_at hF rfl) e6 h6 (by omega) ?_
  refine e_aload_n zd129_56 rfl rfl ?_
  refine e_getA zd129_57 (own := 8) (ci := 8) (kf := 1) (w := 859) (by decide +kernel) (by decide +kernel) (zsh_at hF rfl).1 (by decide +kernel) rfl (zrf_at hF (i := 59) rfl) ?_
  refine e_iload_n zd129_60 rfl ?_
  refine e_bipush zd129_61 (v := Int32.ofInt 6) (by decide +kernel) ?_
  refine e_iadd zd129_63 ?_
  refine e_iload zd129_64 rfl ?_
  refine e_iast zd129_66 (i := i7) (zsh_at hF rfl) e7 h7 (by omega) ?_
  refine e_aload_n zd129_67 rfl rfl ?_
  refine e_getA zd129_68 (own := 8) (ci := 8) (kf := 1) (w := 859) (by decide +kernel) (by decide +kernel) (zsh_at hF rfl).1 (by decide +kernel) rfl (zrf_at hF (i := 59) rfl) ?_
  refine e_iload_n zd129_71 rfl ?_
  refine e_bipush zd129_72 (v := Int32.ofInt 7) (by decide +kernel) ?_
  refine e_iadd zd129_74 ?_
  refine e_iload zd129_75 rfl ?_
  refine e_iast zd129_77 (i := i8) (zsh_at hF rfl) e8 h8 (by omega) ?_
  exact e_vret zd129_78 zs129 k
theorem zd130_0 : zop 130 0 = some (.iload_n 1, 1) := by decide +kernel
theorem zd130_1 : zop 130 1 = some (.invokestatic 97, 3) := by decide +kernel
theorem zd130_4 : zop 130 4 = some (.ifCond .eq 30, 3) := by decide +kernel
theorem zd130_7 : zop 130 7 = some (.iload_n 2, 1) := by decide +kernel
theorem zd130_8 : zop 130 8 = some (.i2l, 1) := by decide +kernel
theorem zd130_9 : zop 130 9 = some (.lconst 0, 1) := by decide +kernel
theorem zd130_10 : zop 130 10 = some (.ldc2_w 101, 3) := by decide +kernel
theorem zd130_13 : zop 130 13 = some (.invokestatic 91, 3) := by decide +kernel
theorem zd130_16 : zop 130 16 = some (.ifCond .eq 18, 3) := by decide +kernel
theorem zd130_19 : zop 130 19 = some (.iload_n 3, 1) := by decide +kernel
theorem zd130_20 : zop 130 20 = some (.i2l, 1) := by decide +kernel
theorem zd130_21 : zop 130 21 = some (.lconst 0, 1) := by decide +kernel
theorem zd130_22 : zop 130 22 = some (.iconst 1, 1) := by decide +kernel
theorem zd130_23 : zop 130 23 = some (.iload_n 2, 1) := by decide +kernel
theorem zd130_24 : zop 130 24 = some (.ishl, 1) := by decide +kernel
theorem zd130_25 : zop 130 25 = some (.iconst 1, 1) := by decide +kernel
theorem zd130_26 : zop 130 26 = some (.isub, 1) := by decide +kernel
theorem zd130_27 : zop 130 27 = some (.i2l, 1) := by decide +kernel
theorem zd130_28 : zop 130 28 = some (.invokestatic 91, 3) := by decide +kernel
theorem zd130_31 : zop 130 31 = some (.ifCond .ne 6, 3) := by decide +kernel
theorem zd130_34 : zop 130 34 = some (.bipush (-2), 2) := by decide +kernel
theorem zd130_36 : zop 130 36 = some (.ireturn, 1) := by decide +kernel
theorem zd130_37 : zop 130 37 = some (.aload_n 0, 1) := by decide +kernel
theorem zd130_38 : zop 130 38 = some (.getfield 23, 3) := by decide +kernel
theorem zd130_41 : zop 130 41 = some (.iload_n 1, 1) := by decide +kernel
theorem zd130_42 : zop 130 42 = some (.iload_n 3, 1) := by decide +kernel
theorem zd130_43 : zop 130 43 = some (.iastore, 1) := by decide +kernel
theorem zd130_44 : zop 130 44 = some (.aload_n 0, 1) := by decide +kernel
theorem zd130_45 : zop 130 45 = some (.getfield 26, 3) := by decide +kernel
theorem zd130_48 : zop 130 48 = some (.iload_n 1, 1) := by decide +kernel
theorem zd130_49 : zop 130 49 = some (.iload_n 2, 1) := by decide +kernel
theorem zd130_50 : zop 130 50 = some (.iastore, 1) := by decide +kernel
theorem zd130_51 : zop 130 51 = some (.aload_n 0, 1) := by decide +kernel
theorem zd130_52 : zop 130 52 = some (.iload_n 1, 1) := by decide +kernel
theorem zd130_53 : zop 130 53 = some (.invokevirtual 103, 3) := by decide +kernel
theorem zd130_56 : zop 130 56 = some (.ireturn, 1) := by decide +kernel
theorem b130_0 {x : zXs} {F : zF} (hF : zSh F) {d : Nat} {V : Nat → Nat → Int32} {T : Nat → Nat → Int64} {Q : Option Value → zG → Prop} {o0 : Option Value} {l1 : Int32} {o2 : Option Value} {o3 : Option Value}   (k : E x F d 131 0 [some (.int l1)] [] (V, T) (fun r G' => E x F (d + 1) 130 4 [o0, some (.int l1), o2, o3] (r.toList ++ []) G' Q)) : E x F (d + 1) 130 0 [o0, some (.int l1), o2, o3] [] (V, T) Q := by
  refine e_iload_n zd130_0 rfl ?_
  exact e_callS zd130_1 (own := 8) (nest := false) (w := 1005) (by decide +kernel) (by decide +kernel) zs131 (as := [.int l1]) (rest := []) rfl rfl (Nat.le_of_ble_eq_true rfl) rfl rfl rfl (by omega) k
theorem b130_4 {x : zXs} {F : zF} (hF : zSh F) {d : Nat} {V : Nat → Nat → Int32} {T : Nat → Nat → Int64} {Q : Option Value → zG → Prop} {o0 : Option Value} {o1 : Option Value} {o2 : Option Value} {o3 : Option Value} {s0 : Int32}   (kt : s0 = 0 → E x F d 130 34 [o0, o1, o2, o3] [] (V, T) Q) (kf : ¬ (s0 = 0) → E x F d 130 7 [o0, o1, o2, o3] [] (V, T) Q) : E x F d 130 4 [o0, o1, o2, o3] [.int s0] (V, T) Q := by
  exact e_if_eq zd130_4 (tg := 34) rfl kt kf
theorem b130_7 {x : zXs} {F : zF} (hF : zSh F) {d : Nat} {V : Nat → Nat → Int32} {T : Nat → Nat → Int64} {Q : Option Value → zG → Prop} {o0 : Option Value} {o1 : Option Value} {l2 : Int32} {o3 : Option Value}   (k : E x F d 132 0 [some (.long l2.toInt64), none, some (.long 0), none, some (.long (24 : Int64)), none] [] (V, T) (fun r G' => E x F (d + 1) 130 16 [o0, o1, some (.int l2), o3] (r.toList ++ []) G' Q)) : E x F (d + 1) 130 7 [o0, o1, some (.int l2), o3] [] (V, T) Q := by
  refine e_iload_n zd130_7 rfl ?_
  refine e_i2l zd130_8 ?_
  refine e_lconst zd130_9 (v := 0) rfl ?_
  refine e_ldc2 zd130_10 (own := 8) (w := 1012) (v := 24) (by decide +kernel) (by decide +kernel) ?_
  exact e_callS zd130_13 (own := 8) (nest := false) (w := 1009) (by decide +kernel) (by decide +kernel) zs132 (as := [.long l2.toInt64, .long 0, .long (24 : Int64)]) (rest := []) rfl rfl (Nat.le_of_ble_eq_true rfl) rfl rfl rfl (by omega) k
theorem b130_16 {x : zXs} {F : zF} (hF : zSh F) {d : Nat} {V : Nat → Nat → Int32} {T : Nat → Nat → Int64} {Q : Option Value → zG → Prop} {o0 : Option Value} {o1 : Option Value} {o2 : Option Value} {o3 : Option Value} {s0 : Int32}   (kt : s0 = 0 → E x F d 130 34 [o0, o1, o2, o3] [] (V, T) Q) (kf : ¬ (s0 = 0) → E x F d 130 19 [o0, o1, o2, o3] [] (V, T) Q) : E x F d 130 16 [o0, o1, o2, o3] [.int s0] (V, T) Q := by
  exact e_if_eq zd130_16 (tg := 34) rfl kt kf
theorem b130_19 {x : zXs} {F : zF} (hF : zSh F) {d : Nat} {V : Nat → Nat → Int32} {T : Nat → Nat → Int64} {Q : Option Value → zG → Prop} {o0 : Option Value} {o1 : Option Value} {l2 : Int32} {l3 : Int32}   (k : E x F d 132 0 [some (.long l3.toInt64), none, some (.long 0), none, some (.long ((((Int32.ofInt 1) <<< (l2 &&& 31)) - (Int32.ofInt 1)).toInt64)), none] [] (V, T) (fun r G' => E x F (d + 1) 130 31 [o0, o1, some (.int l2), some (.int l3)] (r.toList ++ []) G' Q)) : E x F (d + 1) 130 19 [o0, o1, some (.int l2), some (.int l3)] [] (V, T) Q := by
  refine e_iload_n zd130_19 rfl ?_
  refine e_i2l zd130_20 ?_
  refine e_lconst zd130_21 (v := 0) rfl ?_
  refine e_iconst zd130_22 ?_
  refine e_iload_n zd130_23 rfl ?_
  refine e_ishl zd130_24 ?_
  refine e_iconst zd130_25 ?_
  refine e_isub zd130_26 ?_
  refine e_i2l zd130_27 ?_
  exact e_callS zd130_28 (own := 8) (nest := false) (w := 1009) (by decide +kernel) (by decide +kernel) zs132 (as := [.long l3.toInt64, .long 0, .long ((((Int32.ofInt 1) <<< (l2 &&& 31)) - (Int32.ofInt 1)).toInt64)]) (rest := []) rfl rfl (Nat.le_of_ble_eq_true rfl) rfl rfl rfl (by omega) k
theorem b130_31 {x : zXs} {F : zF} (hF : zSh F) {d : Nat} {V : Nat → Nat → Int32} {T : Nat → Nat → Int64} {Q : Option Value → zG → Prop} {o0 : Option Value} {o1 : Option Value} {o2 : Option Value} {o3 : Option Value} {s0 : Int32}   (kt : ¬ s0 = 0 → E x F d 130 37 [o0, o1, o2, o3] [] (V, T) Q) (kf : ¬ (¬ s0 = 0) → E x F d 130 34 [o0, o1, o2, o3] [] (V, T) Q) : E x F d 130 31 [o0, o1, o2, o3] [.int s0] (V, T) Q := by
  exact e_if_ne zd130_31 (tg := 37) rfl kt kf
theorem b130_34 {x : zXs} {F : zF} (hF : zSh F) {d : Nat} {V : Nat → Nat → Int32} {T : Nat → Nat → Int64} {Q : Option Value → zG → Prop} {o0 : Option Value} {o1 : Option Value} {o2 : Option Value} {o3 : Option Value}   (k : Q (some (.int (Int32.ofInt (-2)))) (V, T)) : E x F d 130 34 [o0, o1, o2, o3] [] (V, T) Q := by
  refine e_bipush zd130_34 (v := Int32.ofInt (-2)) (by decide +kernel) ?_
  exact e_ireti zd130_36 zs130 k
theorem b130_37 {x : zXs} {F : zF} (hF : zSh F) {d : Nat} {V : Nat → Nat → Int32} {T : Nat → Nat → Int64} {Q : Option Value → zG → Prop} {l1 : Int32} {l2 : Int32} {l3 : Int32}  {i1 : Nat} (e1 : l1 = nI i1) (h1 : i1 < 5) {i2 : Nat} (e2 : l1 = nI i2) (h2 : i2 < 5) (k : E x F d 133 0 [some (.ref 59), some (.int l1)] [] (zu (zu V 63 i1 l3) 64 i2 l2, T) (fun r G' => E x F (d + 1) 130 56 [some (.ref 59), some (.int l1), some (.int l2), some (.int l3)] (r.toList ++ []) G' Q)) : E x F (d + 1) 130 37 [some (.ref 59), some (.int l1), some (.int l2), some (.int l3)] [] (V, T) Q := by
  refine e_aload_n zd130_37 rfl rfl ?_
  refine e_getA zd130_38 (own := 8) (ci := 8) (kf := 8) (w := 866) (by decide +kernel) (by decide +kernel) (zsh_at hF rfl).1 (by decide +kernel) rfl (zrf_at hF (i := 62) rfl) ?_
  refine e_iload_n zd130_41 rfl ?_
  refine e_iload_n zd130_42 rfl ?_
  refine e_iast zd130_43 (i := i1) (zsh_at hF rfl) e1 h1 (by omega) ?_
  refine e_aload_n zd130_44 rfl rfl ?_
  refine e_getA zd130_45 (own := 8) (ci := 8) (kf := 9) (w := 867) (by decide +kernel) (by decide +kernel) (zsh_at hF rfl).1 (by decide +kernel) rfl (zrf_at hF (i := 63) rfl) ?_
  refine e_iload_n zd130_48 rfl ?_
  refine e_iload_n zd130_49 rfl ?_
  refine e_iast zd130_50 (i := i2) (zsh_at hF rfl) e2 h2 (by omega) ?_
  refine e_aload_n zd130_51 rfl rfl ?_
  refine e_iload_n zd130_52 rfl ?_
  exact e_callV zd130_53 (own := 8) (nest := false) (w := 1013) (by decide +kernel) (by decide +kernel) zs133 (as := [.int l1]) (rest := []) rfl rfl (zsh_at hF rfl).1 (by omega) (Nat.le_of_ble_eq_true rfl) rfl rfl rfl (by omega) k
theorem b130_56 {x : zXs} {F : zF} (hF : zSh F) {d : Nat} {V : Nat → Nat → Int32} {T : Nat → Nat → Int64} {Q : Option Value → zG → Prop} {o0 : Option Value} {o1 : Option Value} {o2 : Option Value} {o3 : Option Value} {s0 : Int32}   (k : Q (some (.int s0)) (V, T)) : E x F d 130 56 [o0, o1, o2, o3] [.int s0] (V, T) Q := by
  exact e_ireti zd130_56 zs130 k
theorem zd131_0 : zop 131 0 = some (.iload_n 0, 1) := by decide +kernel
theorem zd131_1 : zop 131 1 = some (.i2l, 1) := by decide +kernel
theorem zd131_2 : zop 131 2 = some (.lconst 0, 1) := by decide +kernel
theorem zd131_3 : zop 131 3 = some (.ldc2_w 95, 3) := by decide +kernel
theorem zd131_6 : zop 131 6 = some (.invokestatic 91, 3) := by decide +kernel
theorem zd131_9 : zop 131 9 = some (.ireturn, 1) := by decide +kernel
theorem b131_0 {x : zXs} {F : zF} (hF : zSh F) {d : Nat} {V : Nat → Nat → Int32} {T : Nat → Nat → Int64} {Q : Option Value → zG → Prop} {l0 : Int32}   (k : E x F d 132 0 [some (.long l0.toInt64), none, some (.long 0), none, some (.long (3 : Int64)), none] [] (V, T) (fun r G' => E x F (d + 1) 131 9 [some (.int l0)] (r.toList ++ []) G' Q)) : E x F (d + 1) 131 0 [some (.int l0)] [] (V, T) Q := by
  refine e_iload_n zd131_0 rfl ?_
  refine e_i2l zd131_1 ?_
  refine e_lconst zd131_2 (v := 0) rfl ?_
  refine e_ldc2 zd131_3 (own := 8) (w := 1008) (v := 3) (by decide +kernel) (by decide +kernel) ?_
  exact e_callS zd131_6 (own := 8) (nest := false) (w := 1009) (by decide +kernel) (by decide +kernel) zs132 (as := [.long l0.toInt64, .long 0, .long (3 : Int64)]) (rest := []) rfl rfl (Nat.le_of_ble_eq_true rfl) rfl rfl rfl (by omega) k
theorem b131_9 {x : zXs} {F : zF} (hF : zSh F) {d : Nat} {V : Nat → Nat → Int32} {T : Nat → Nat → Int64} {Q : Option Value → zG → Prop} {o0 : Option Value} {s0 : Int32}  (b1 : narrow .boolean (.int s0) = .int s0) (k : Q (some (.int s0)) (V, T)) : E x F d 131 9 [o0] [.int s0] (V, T) Q := by
  exact e_iretz zd131_9 zs131 b1 k
theorem zd132_0 : zop 132 0 = some (.lload_n 0, 1) := by decide +kernel
theorem zd132_1 : zop 132 1 = some (.lload_n 2, 1) := by decide +kernel
theorem zd132_2 : zop 132 2 = some (.lcmp, 1) := by decide +kernel
theorem zd132_3 : zop 132 3 = some (.ifCond .lt 14, 3) := by decide +kernel
theorem zd132_6 : zop 132 6 = some (.lload_n 0, 1) := by decide +kernel
theorem zd132_7 : zop 132 7 = some (.lload 4, 2) := by decide +kernel
theorem zd132_9 : zop 132 9 = some (.lcmp, 1) := by decide +kernel
theorem zd132_10 : zop 132 10 = some (.ifCond .gt 7, 3) := by decide +kernel
theorem zd132_13 : zop 132 13 = some (.iconst 1, 1) := by decide +kernel
theorem zd132_14 : zop 132 14 = some (.goto 4, 3) := by decide +kernel
theorem zd132_17 : zop 132 17 = some (.iconst 0, 1) := by decide +kernel
theorem zd132_18 : zop 132 18 = some (.ireturn, 1) := by decide +kernel
theorem b132_0 {x : zXs} {F : zF} (hF : zSh F) {d : Nat} {V : Nat → Nat → Int32} {T : Nat → Nat → Int64} {Q : Option Value → zG → Prop} {l0 : Int64} {o1 : Option Value} {l2 : Int64} {o3 : Option Value} {o4 : Option Value} {o5 : Option Value}   (kt : (lg_cmp l0 l2) < 0 → E x F d 132 17 [some (.long l0), o1, some (.long l2), o3, o4, o5] [] (V, T) Q) (kf : ¬ ((lg_cmp l0 l2) < 0) → E x F d 132 6 [some (.long l0), o1, some (.long l2), o3, o4, o5] [] (V, T) Q) : E x F d 132 0 [some (.long l0), o1, some (.long l2), o3, o4, o5] [] (V, T) Q := by
  refine e_lload_n zd132_0 rfl ?_
  refine e_lload_n zd132_1 rfl ?_
  refine e_lcmp zd132_2 ?_
  exact e_if_lt zd132_3 (tg := 17) rfl kt kf
theorem b132_6 {x : zXs} {F : zF} (hF : zSh F) {d : Nat} {V : Nat → Nat → Int32} {T : Nat → Nat → Int64} {Q : Option Value → zG → Prop} {l0 : Int64} {o1 : Option Value} {o2 : Option Value} {o3 : Option Value} {l4 : Int64} {o5 : Option Value}   (kt : 0 < (lg_cmp l0 l4) → E x F d 132 17 [some (.long l0), o1, o2, o3, some (.long l4), o5] [] (V, T) Q) (kf : ¬ (0 < (lg_cmp l0 l4)) → E x F d 132 13 [some (.long l0), o1, o2, o3, some (.long l4), o5] [] (V, T) Q) : E x F d 132 6 [some (.long l0), o1, o2, o3, some (.long l4), o5] [] (V, T) Q := by
  refine e_lload_n zd132_6 rfl ?_
  refine e_lload zd132_7 rfl ?_
  refine e_lcmp zd132_9 ?_
  exact e_if_gt zd132_10 (tg := 17) rfl kt kf
theorem b132_13 {x : zXs} {F : zF} (hF : zSh F) {d : Nat} {V : Nat → Nat → Int32} {T : Nat → Nat → Int64} {Q : Option Value → zG → Prop} {o0 : Option Value} {o1 : Option Value} {o2 : Option Value} {o3 : Option Value} {o4 : Option Value} {o5 : Option Value}   (k : E x F d 132 18 [o0, o1, o2, o3, o4, o5] [.int (Int32.ofInt 1)] (V, T) Q) : E x F d 132 13 [o0, o1, o2, o3, o4, o5] [] (V, T) Q := by
  refine e_iconst zd132_13 ?_
  exact e_goto zd132_14 (tg := 18) rfl k
theorem b132_17 {x : zXs} {F : zF} (hF : zSh F) {d : Nat} {V : Nat → Nat → Int32} {T : Nat → Nat → Int64} {Q : Option Value → zG → Prop} {o0 : Option Value} {o1 : Option Value} {o2 : Option Value} {o3 : Option Value} {o4 : Option Value} {o5 : Option Value}   (k : E x F d 132 18 [o0, o1, o2, o3, o4, o5] [.int (Int32.ofInt 0)] (V, T) Q) : E x F d 132 17 [o0, o1, o2, o3, o4, o5] [] (V, T) Q := by
  refine e_iconst zd132_17 ?_
  exact k
theorem b132_18 {x : zXs} {F : zF} (hF : zSh F) {d : Nat} {V : Nat → Nat → Int32} {T : Nat → Nat → Int64} {Q : Option Value → zG → Prop} {o0 : Option Value} {o1 : Option Value} {o2 : Option Value} {o3 : Option Value} {o4 : Option Value} {o5 : Option Value} {s0 : Int32}  (b1 : narrow .boolean (.int s0) = .int s0) (k : Q (some (.int s0)) (V, T)) : E x F d 132 18 [o0, o1, o2, o3, o4, o5] [.int s0] (V, T) Q := by
  exact e_iretz zd132_18 zs132 b1 k
theorem zd133_0 : zop 133 0 = some (.aload_n 0, 1) := by decide +kernel
theorem zd133_1 : zop 133 1 = some (.getfield 26, 3) := by decide +kernel
theorem zd133_4 : zop 133 4 = some (.iload_n 1, 1) := by decide +kernel
theorem zd133_5 : zop 133 5 = some (.iaload, 1) := by decide +kernel
theorem zd133_6 : zop 133 6 = some (.aload_n 0, 1) := by decide +kernel
theorem zd133_7 : zop 133 7 = some (.getfield 23, 3) := by decide +kernel
theorem zd133_10 : zop 133 10 = some (.iload_n 1, 1) := by decide +kernel
theorem zd133_11 : zop 133 11 = some (.iaload, 1) := by decide +kernel
theorem zd133_12 : zop 133 12 = some (.invokestatic 107, 3) := by decide +kernel
theorem zd133_15 : zop 133 15 = some (.isub, 1) := by decide +kernel
theorem zd133_16 : zop 133 16 = some (.ireturn, 1) := by decide +kernel
theorem b133_0 {x : zXs} {F : zF} (hF : zSh F) {d : Nat} {V : Nat → Nat → Int32} {T : Nat → Nat → Int64} {Q : Option Value → zG → Prop} {l1 : Int32}  {i1 : Nat} (e1 : l1 = nI i1) (h1 : i1 < 5) {i2 : Nat} (e2 : l1 = nI i2) (h2 : i2 < 5) (k : E x F d 134 0 [some (.int (V 63 i2)), none, none] [] (V, T) (fun r G' => E x F (d + 1) 133 15 [some (.ref 59), some (.int l1)] (r.toList ++ [.int (V 64 i1)]) G' Q)) : E x F (d + 1) 133 0 [some (.ref 59), some (.int l1)] [] (V, T) Q := by
  refine e_aload_n zd133_0 rfl rfl ?_
  refine e_getA zd133_1 (own := 8) (ci := 8) (kf := 9) (w := 867) (by decide +kernel) (by decide +kernel) (zsh_at hF rfl).1 (by decide +kernel) rfl (zrf_at hF (i := 63) rfl) ?_
  refine e_iload_n zd133_4 rfl ?_
  refine e_iald zd133_5 (i := i1) (zsh_at hF rfl) e1 h1 (by omega) ?_
  refine e_aload_n zd133_6 rfl rfl ?_
  refine e_getA zd133_7 (own := 8) (ci := 8) (kf := 8) (w := 866) (by decide +kernel) (by decide +kernel) (zsh_at hF rfl).1 (by decide +kernel) rfl (zrf_at hF (i := 62) rfl) ?_
  refine e_iload_n zd133_10 rfl ?_
  refine e_iald zd133_11 (i := i2) (zsh_at hF rfl) e2 h2 (by omega) ?_
  exact e_callS zd133_12 (own := 8) (nest := false) (w := 1017) (by decide +kernel) (by decide +kernel) zs134 (as := [.int (V 63 i2)]) (rest := [.int (V 64 i1)]) rfl rfl (Nat.le_of_ble_eq_true rfl) rfl rfl rfl (by omega) k
theorem b133_15 {x : zXs} {F : zF} (hF : zSh F) {d : Nat} {V : Nat → Nat → Int32} {T : Nat → Nat → Int64} {Q : Option Value → zG → Prop} {o0 : Option Value} {o1 : Option Value} {s0 : Int32} {s1 : Int32}   (k : Q (some (.int (s0 - s1))) (V, T)) : E x F d 133 15 [o0, o1] [.int s1, .int s0] (V, T) Q := by
  refine e_isub zd133_15 ?_
  exact e_ireti zd133_16 zs133 k
theorem zd134_0 : zop 134 0 = some (.iconst 0, 1) := by decide +kernel
theorem zd134_1 : zop 134 1 = some (.istore_n 1, 1) := by decide +kernel
theorem zd134_2 : zop 134 2 = some (.iload_n 0, 1) := by decide +kernel
theorem zd134_3 : zop 134 3 = some (.istore_n 2, 1) := by decide +kernel
theorem zd134_4 : zop 134 4 = some (.iload_n 2, 1) := by decide +kernel
theorem zd134_5 : zop 134 5 = some (.ifCond .eq 15, 3) := by decide +kernel
theorem zd134_8 : zop 134 8 = some (.iinc 1 1, 3) := by decide +kernel
theorem zd134_11 : zop 134 11 = some (.iload_n 2, 1) := by decide +kernel
theorem zd134_12 : zop 134 12 = some (.iload_n 2, 1) := by decide +kernel
theorem zd134_13 : zop 134 13 = some (.iconst 1, 1) := by decide +kernel
theorem zd134_14 : zop 134 14 = some (.isub, 1) := by decide +kernel
theorem zd134_15 : zop 134 15 = some (.iand, 1) := by decide +kernel
theorem zd134_16 : zop 134 16 = some (.istore_n 2, 1) := by decide +kernel
theorem zd134_17 : zop 134 17 = some (.goto (-13), 3) := by decide +kernel
theorem zd134_20 : zop 134 20 = some (.iload_n 1, 1) := by decide +kernel
theorem zd134_21 : zop 134 21 = some (.ireturn, 1) := by decide +kernel
theorem b134_0 {x : zXs} {F : zF} (hF : zSh F) {d : Nat} {V : Nat → Nat → Int32} {T : Nat → Nat → Int64} {Q : Option Value → zG → Prop} {l0 : Int32} {o1 : Option Value} {o2 : Option Value}   (k : E x F d 134 4 [some (.int l0), some (.int (Int32.ofInt 0)), some (.int l0)] [] (V, T) Q) : E x F d 134 0 [some (.int l0), o1, o2] [] (V, T) Q := by
  refine e_iconst zd134_0 ?_
  refine e_istore_n zd134_1 (by decide +kernel) (Nat.le_of_ble_eq_true rfl) ?_
  refine e_iload_n zd134_2 rfl ?_
  refine e_istore_n zd134_3 (by decide +kernel) (Nat.le_of_ble_eq_true rfl) ?_
  exact k
theorem b134_4 {x : zXs} {F : zF} (hF : zSh F) {d : Nat} {V : Nat → Nat → Int32} {T : Nat → Nat → Int64} {Q : Option Value → zG → Prop} {o0 : Option Value} {o1 : Option Value} {l2 : Int32}   (kt : l2 = 0 → E x F d 134 20 [o0, o1, some (.int l2)] [] (V, T) Q) (kf : ¬ (l2 = 0) → E x F d 134 8 [o0, o1, some (.int l2)] [] (V, T) Q) : E x F d 134 4 [o0, o1, some (.int l2)] [] (V, T) Q := by
  refine e_iload_n zd134_4 rfl ?_
  exact e_if_eq zd134_5 (tg := 20) rfl kt kf
theorem b134_8 {x : zXs} {F : zF} (hF : zSh F) {d : Nat} {V : Nat → Nat → Int32} {T : Nat → Nat → Int64} {Q : Option Value → zG → Prop} {o0 : Option Value} {l1 : Int32} {l2 : Int32}   (k : E x F d 134 4 [o0, some (.int (l1 + Int32.ofInt 1)), some (.int (l2 &&& (l2 - (Int32.ofInt 1))))] [] (V, T) Q) : E x F d 134 8 [o0, some (.int l1), some (.int l2)] [] (V, T) Q := by
  refine e_iinc zd134_8 rfl (by decide +kernel) ?_
  refine e_iload_n zd134_11 rfl ?_
  refine e_iload_n zd134_12 rfl ?_
  refine e_iconst zd134_13 ?_
  refine e_isub zd134_14 ?_
  refine e_iand zd134_15 ?_
  refine e_istore_n zd134_16 (by decide +kernel) (Nat.le_of_ble_eq_true rfl) ?_
  exact e_goto zd134_17 (tg := 4) rfl k
theorem b134_20 {x : zXs} {F : zF} (hF : zSh F) {d : Nat} {V : Nat → Nat → Int32} {T : Nat → Nat → Int64} {Q : Option Value → zG → Prop} {o0 : Option Value} {l1 : Int32} {o2 : Option Value}   (k : Q (some (.int l1)) (V, T)) : E x F d 134 20 [o0, some (.int l1), o2] [] (V, T) Q := by
  refine e_iload_n zd134_20 rfl ?_
  exact e_ireti zd134_21 zs134 k
theorem zd135_0 : zop 135 0 = some (.iload_n 1, 1) := by decide +kernel
theorem zd135_1 : zop 135 1 = some (.i2l, 1) := by decide +kernel
theorem zd135_2 : zop 135 2 = some (.lconst 0, 1) := by decide +kernel
theorem zd135_3 : zop 135 3 = some (.ldc2_w 110, 3) := by decide +kernel
theorem zd135_6 : zop 135 6 = some (.invokestatic 91, 3) := by decide +kernel
theorem zd135_9 : zop 135 9 = some (.ifCond .eq 29, 3) := by decide +kernel
theorem zd135_12 : zop 135 12 = some (.iload_n 1, 1) := by decide +kernel
theorem zd135_13 : zop 135 13 = some (.ifCond .le 11, 3) := by decide +kernel
theorem zd135_16 : zop 135 16 = some (.aload_n 0, 1) := by decide +kernel
theorem zd135_17 : zop 135 17 = some (.iload_n 2, 1) := by decide +kernel
theorem zd135_18 : zop 135 18 = some (.invokevirtual 112, 3) := by decide +kernel
theorem zd135_21 : zop 135 21 = some (.ifCond .eq 17, 3) := by decide +kernel
theorem zd135_24 : zop 135 24 = some (.iload_n 3, 1) := by decide +kernel
theorem zd135_25 : zop 135 25 = some (.i2l, 1) := by decide +kernel
theorem zd135_26 : zop 135 26 = some (.lconst 0, 1) := by decide +kernel
theorem zd135_27 : zop 135 27 = some (.iload_n 1, 1) := by decide +kernel
theorem zd135_28 : zop 135 28 = some (.invokestatic 115, 3) := by decide +kernel
theorem zd135_31 : zop 135 31 = some (.i2l, 1) := by decide +kernel
theorem zd135_32 : zop 135 32 = some (.invokestatic 91, 3) := by decide +kernel
theorem zd135_35 : zop 135 35 = some (.ifCond .ne 6, 3) := by decide +kernel
theorem zd135_38 : zop 135 38 = some (.bipush (-2), 2) := by decide +kernel
theorem zd135_40 : zop 135 40 = some (.ireturn, 1) := by decide +kernel
theorem zd135_41 : zop 135 41 = some (.aload_n 0, 1) := by decide +kernel
theorem zd135_42 : zop 135 42 = some (.iload_n 2, 1) := by decide +kernel
theorem zd135_43 : zop 135 43 = some (.iload_n 1, 1) := by decide +kernel
theorem zd135_44 : zop 135 44 = some (.invokevirtual 118, 3) := by decide +kernel
theorem zd135_47 : zop 135 47 = some (.istore 4, 2) := by decide +kernel
theorem zd135_49 : zop 135 49 = some (.aload_n 0, 1) := by decide +kernel
theorem zd135_50 : zop 135 50 = some (.iload_n 1, 1) := by decide +kernel
theorem zd135_51 : zop 135 51 = some (.iload_n 2, 1) := by decide +kernel
theorem zd135_52 : zop 135 52 = some (.iload_n 3, 1) := by decide +kernel
theorem zd135_53 : zop 135 53 = some (.invokevirtual 122, 3) := by decide +kernel
theorem zd135_56 : zop 135 56 = some (.iload 4, 2) := by decide +kernel
theorem zd135_58 : zop 135 58 = some (.ireturn, 1) := by decide +kernel
theorem b135_0 {x : zXs} {F : zF} (hF : zSh F) {d : Nat} {V : Nat → Nat → Int32} {T : Nat → Nat → Int64} {Q : Option Value → zG → Prop} {o0 : Option Value} {l1 : Int32} {o2 : Option Value} {o3 : Option Value} {o4 : Option Value}   (k : E x F d 132 0 [some (.long l1.toInt64), none, some (.long 0), none, some (.long (2 : Int64)), none] [] (V, T) (fun r G' => E x F (d + 1) 135 9 [o0, some (.int l1), o2, o3, o4] (r.toList ++ []) G' Q)) : E x F (d + 1) 135 0 [o0, some (.int l1), o2, o3, o4] [] (V, T) Q := by
  refine e_iload_n zd135_0 rfl ?_
  refine e_i2l zd135_1 ?_
  refine e_lconst zd135_2 (v := 0) rfl ?_
  refine e_ldc2 zd135_3 (own := 8) (w := 1024) (v := 2) (by decide +kernel) (by decide +kernel) ?_
  exact e_callS zd135_6 (own := 8) (nest := false) (w := 1009) (by decide +kernel) (by decide +kernel) zs132 (as := [.long l1.toInt64, .long 0, .long (2 : Int64)]) (rest := []) rfl rfl (Nat.le_of_ble_eq_true rfl) rfl rfl rfl (by omega) k
theorem b135_9 {x : zXs} {F : zF} (hF : zSh F) {d : Nat} {V : Nat → Nat → Int32} {T : Nat → Nat → Int64} {Q : Option Value → zG → Prop} {o0 : Option Value} {o1 : Option Value} {o2 : Option Value} {o3 : Option Value} {o4 : Option Value} {s0 : Int32}   (kt : s0 = 0 → E x F d 135 38 [o0, o1, o2, o3, o4] [] (V, T) Q) (kf : ¬ (s0 = 0) → E x F d 135 12 [o0, o1, o2, o3, o4] [] (V, T) Q) : E x F d 135 9 [o0, o1, o2, o3, o4] [.int s0] (V, T) Q := by
  exact e_if_eq zd135_9 (tg := 38) rfl kt kf
theorem b135_12 {x : zXs} {F : zF} (hF : zSh F) {d : Nat} {V : Nat → Nat → Int32} {T : Nat → Nat → Int64} {Q : Option Value → zG → Prop} {o0 : Option Value} {l1 : Int32} {o2 : Option Value} {o3 : Option Value} {o4 : Option Value}   (kt : l1 ≤ 0 → E x F d 135 24 [o0, some (.int l1), o2, o3, o4] [] (V, T) Q) (kf : ¬ (l1 ≤ 0) → E x F d 135 16 [o0, some (.int l1), o2, o3, o4] [] (V, T) Q) : E x F d 135 12 [o0, some (.int l1), o2, o3, o4] [] (V, T) Q := by
  refine e_iload_n zd135_12 rfl ?_
  exact e_if_le zd135_13 (tg := 24) rfl kt kf
theorem b135_16 {x : zXs} {F : zF} (hF : zSh F) {d : Nat} {V : Nat → Nat → Int32} {T : Nat → Nat → Int64} {Q : Option Value → zG → Prop} {o1 : Option Value} {l2 : Int32} {o3 : Option Value} {o4 : Option Value}   (k : E x F d 136 0 [some (.ref 59), some (.int l2)] [] (V, T) (fun r G' => E x F (d + 1) 135 21 [some (.ref 59), o1, some (.int l2), o3, o4] (r.toList ++ []) G' Q)) : E x F (d + 1) 135 16 [some (.ref 59), o1, some (.int l2), o3, o4] [] (V, T) Q := by
  refine e_aload_n zd135_16 rfl rfl ?_
  refine e_iload_n zd135_17 rfl ?_
  exact e_callV zd135_18 (own := 8) (nest := false) (w := 1025) (by decide +kernel) (by decide +kernel) zs136 (as := [.int l2]) (rest := []) rfl rfl (zsh_at hF rfl).1 (by omega) (Nat.le_of_ble_eq_true rfl) rfl rfl rfl (by omega) k
theorem b135_21 {x : zXs} {F : zF} (hF : zSh F) {d : Nat} {V : Nat → Nat → Int32} {T : Nat → Nat → Int64} {Q : Option Value → zG → Prop} {o0 : Option Value} {o1 : Option Value} {o2 : Option Value} {o3 : Option Value} {o4 : Option Value} {s0 : Int32}   (kt : s0 = 0 → E x F d 135 38 [o0, o1, o2, o3, o4] [] (V, T) Q) (kf : ¬ (s0 = 0) → E x F d 135 24 [o0, o1, o2, o3, o4] [] (V, T) Q) : E x F d 135 21 [o0, o1, o2, o3, o4] [.int s0] (V, T) Q := by
  exact e_if_eq zd135_21 (tg := 38) rfl kt kf
theorem b135_24 {x : zXs} {F : zF} (hF : zSh F) {d : Nat} {V : Nat → Nat → Int32} {T : Nat → Nat → Int64} {Q : Option Value → zG → Prop} {o0 : Option Value} {l1 : Int32} {o2 : Option Value} {l3 : Int32} {o4 : Option Value}   (k : E x F d 137 0 [some (.int l1)] [] (V, T) (fun r G' => E x F (d + 1) 135 31 [o0, some (.int l1), o2, some (.int l3), o4] (r.toList ++ [.long 0, .long l3.toInt64]) G' Q)) : E x F (d + 1) 135 24 [o0, some (.int l1), o2, some (.int l3), o4] [] (V, T) Q := by
  refine e_iload_n zd135_24 rfl ?_
  refine e_i2l zd135_25 ?_
  refine e_lconst zd135_26 (v := 0) rfl ?_
  refine e_iload_n zd135_27 rfl ?_
  exact e_callS zd135_28 (own := 8) (nest := false) (w := 1029) (by decide +kernel) (by decide +kernel) zs137 (as := [.int l1]) (rest := [.long 0, .long l3.toInt64]) rfl rfl (Nat.le_of_ble_eq_true rfl) rfl rfl rfl (by omega) k
theorem b135_31 {x : zXs} {F : zF} (hF : zSh F) {d : Nat} {V : Nat → Nat → Int32} {T : Nat → Nat → Int64} {Q : Option Value → zG → Prop} {o0 : Option Value} {o1 : Option Value} {o2 : Option Value} {o3 : Option Value} {o4 : Option Value} {s0 : Int64} {s1 : Int64} {s2 : Int32}   (k : E x F d 132 0 [some (.long s0), none, some (.long s1), none, some (.long s2.toInt64), none] [] (V, T) (fun r G' => E x F (d + 1) 135 35 [o0, o1, o2, o3, o4] (r.toList ++ []) G' Q)) : E x F (d + 1) 135 31 [o0, o1, o2, o3, o4] [.int s2, .long s1, .long s0] (V, T) Q := by
  refine e_i2l zd135_31 ?_
  exact e_callS zd135_32 (own := 8) (nest := false) (w := 1009) (by decide +kernel) (by decide +kernel) zs132 (as := [.long s0, .long s1, .long s2.toInt64]) (rest := []) rfl rfl (Nat.le_of_ble_eq_true rfl) rfl rfl rfl (by omega) k
theorem b135_35 {x : zXs} {F : zF} (hF : zSh F) {d : Nat} {V : Nat → Nat → Int32} {T : Nat → Nat → Int64} {Q : Option Value → zG → Prop} {o0 : Option Value} {o1 : Option Value} {o2 : Option Value} {o3 : Option Value} {o4 : Option Value} {s0 : Int32}   (kt : ¬ s0 = 0 → E x F d 135 41 [o0, o1, o2, o3, o4] [] (V, T) Q) (kf : ¬ (¬ s0 = 0) → E x F d 135 38 [o0, o1, o2, o3, o4] [] (V, T) Q) : E x F d 135 35 [o0, o1, o2, o3, o4] [.int s0] (V, T) Q := by
  exact e_if_ne zd135_35 (tg := 41) rfl kt kf
theorem b135_38 {x : zXs} {F : zF} (hF : zSh F) {d : Nat} {V : Nat → Nat → Int32} {T : Nat → Nat → Int64} {Q : Option Value → zG → Prop} {o0 : Option Value} {o1 : Option Value} {o2 : Option Value} {o3 : Option Value} {o4 : Option Value}   (k : Q (some (.int (Int32.ofInt (-2)))) (V, T)) : E x F d 135 38 [o0, o1, o2, o3, o4] [] (V, T) Q := by
  refine e_bipush zd135_38 (v := Int32.ofInt (-2)) (by decide +kernel) ?_
  exact e_ireti zd135_40 zs135 k
theorem b135_41 {x : zXs} {F : zF} (hF : zSh F) {d : Nat} {V : Nat → Nat → Int32} {T : Nat → Nat → Int64} {Q : Option Value → zG → Prop} {l1 : Int32} {l2 : Int32} {o3 : Option Value} {o4 : Option Value}   (k : E x F d 138 0 [some (.ref 59), some (.int l2), some (.int l1)] [] (V, T) (fun r G' => E x F (d + 1) 135 47 [some (.ref 59), some (.int l1), some (.int l2), o3, o4] (r.toList ++ []) G' Q)) : E x F (d + 1) 135 41 [some (.ref 59), some (.int l1), some (.int l2), o3, o4] [] (V, T) Q := by
  refine e_aload_n zd135_41 rfl rfl ?_
  refine e_iload_n zd135_42 rfl ?_
  refine e_iload_n zd135_43 rfl ?_
  exact e_callV zd135_44 (own := 8) (nest := false) (w := 1032) (by decide +kernel) (by decide +kernel) zs138 (as := [.int l2, .int l1]) (rest := []) rfl rfl (zsh_at hF rfl).1 (by omega) (Nat.le_of_ble_eq_true rfl) rfl rfl rfl (by omega) k
theorem b135_47 {x : zXs} {F : zF} (hF : zSh F) {d : Nat} {V : Nat → Nat → Int32} {T : Nat → Nat → Int64} {Q : Option Value → zG → Prop} {l1 : Int32} {l2 : Int32} {l3 : Int32} {o4 : Option Value} {s0 : Int32}   (k : E x F d 162 0 [some (.ref 59), some (.int l1), some (.int l2), some (.int l3)] [] (V, T) (fun r G' => E x F (d + 1) 135 56 [some (.ref 59), some (.int l1), some (.int l2), some (.int l3), some (.int s0)] (r.toList ++ []) G' Q)) : E x F (d + 1) 135 47 [some (.ref 59), some (.int l1), some (.int l2), some (.int l3), o4] [.int s0] (V, T) Q := by
  refine e_istore zd135_47 (by decide +kernel) (Nat.le_of_ble_eq_true rfl) ?_
  refine e_aload_n zd135_49 rfl rfl ?_
  refine e_iload_n zd135_50 rfl ?_
  refine e_iload_n zd135_51 rfl ?_
  refine e_iload_n zd135_52 rfl ?_
  exact e_callV zd135_53 (own := 8) (nest := false) (w := 1134) (by decide +kernel) (by decide +kernel) zs162 (as := [.int l1, .int l2, .int l3]) (rest := []) rfl rfl (zsh_at hF rfl).1 (by omega) (Nat.le_of_ble_eq_true rfl) rfl rfl rfl (by omega) k
theorem b135_56 {x : zXs} {F : zF} (hF : zSh F) {d : Nat} {V : Nat → Nat → Int32} {T : Nat → Nat → Int64} {Q : Option Value → zG → Prop} {o0 : Option Value} {o1 : Option Value} {o2 : Option Value} {o3 : Option Value} {l4 : Int32}   (k : Q (some (.int l4)) (V, T)) : E x F d 135 56 [o0, o1, o2, o3, some (.int l4)] [] (V, T) Q := by
  refine e_iload zd135_56 rfl ?_
  exact e_ireti zd135_58 zs135 k
theorem zd136_0 : zop 136 0 = some (.iload_n 1, 1) := by decide +kernel
theorem zd136_1 : zop 136 1 = some (.i2l, 1) := by decide +kernel
theorem zd136_2 : zop 136 2 = some (.lconst 0, 1) := by decide +kernel
theorem zd136_3 : zop 136 3 = some (.aload_n 0, 1) := by decide +kernel
theorem zd136_4 : zop 136 4 = some (.getfield 88, 3) := by decide +kernel
theorem zd136_7 : zop 136 7 = some (.iconst 1, 1) := by decide +kernel
theorem zd136_8 : zop 136 8 = some (.isub, 1) := by decide +kernel
theorem zd136_9 : zop 136 9 = some (.i2l, 1) := by decide +kernel
theorem zd136_10 : zop 136 10 = some (.invokestatic 91, 3) := by decide +kernel
theorem zd136_13 : zop 136 13 = some (.ireturn, 1) := by decide +kernel
theorem b136_0 {x : zXs} {F : zF} (hF : zSh F) {d : Nat} {V : Nat → Nat → Int32} {T : Nat → Nat → Int64} {Q : Option Value → zG → Prop} {l1 : Int32}   (k : E x F d 132 0 [some (.long l1.toInt64), none, some (.long 0), none, some (.long (((V 59 12) - (Int32.ofInt 1)).toInt64)), none] [] (V, T) (fun r G' => E x F (d + 1) 136 13 [some (.ref 59), some (.int l1)] (r.toList ++ []) G' Q)) : E x F (d + 1) 136 0 [some (.ref 59), some (.int l1)] [] (V, T) Q := by
  refine e_iload_n zd136_0 rfl ?_
  refine e_i2l zd136_1 ?_
  refine e_lconst zd136_2 (v := 0) rfl ?_
  refine e_aload_n zd136_3 rfl rfl ?_
  refine e_getI zd136_4 (own := 8) (ci := 8) (kf := 12) (w := 870) (by decide +kernel) (by decide +kernel) (zsh_at hF rfl).1 (by decide +kernel) rfl ?_
  refine e_iconst zd136_7 ?_
  refine e_isub zd136_8 ?_
  refine e_i2l zd136_9 ?_
  exact e_callS zd136_10 (own := 8) (nest := false) (w := 1009) (by decide +kernel) (by decide +kernel) zs132 (as := [.long l1.toInt64, .long 0, .long (((V 59 12) - (Int32.ofInt 1)).toInt64)]) (rest := []) rfl rfl (Nat.le_of_ble_eq_true rfl) rfl rfl rfl (by omega) k
theorem b136_13 {x : zXs} {F : zF} (hF : zSh F) {d : Nat} {V : Nat → Nat → Int32} {T : Nat → Nat → Int64} {Q : Option Value → zG → Prop} {o0 : Option Value} {o1 : Option Value} {s0 : Int32}  (b1 : narrow .boolean (.int s0) = .int s0) (k : Q (some (.int s0)) (V, T)) : E x F d 136 13 [o0, o1] [.int s0] (V, T) Q := by
  exact e_iretz zd136_13 zs136 b1 k
theorem zd137_0 : zop 137 0 = some (.iload_n 0, 1) := by decide +kernel
theorem zd137_1 : zop 137 1 = some (.iconst 1, 1) := by decide +kernel
theorem zd137_2 : zop 137 2 = some (.if_icmp .ne 8, 3) := by decide +kernel
theorem zd137_5 : zop 137 5 = some (.bipush 9, 2) := by decide +kernel
theorem zd137_7 : zop 137 7 = some (.goto 6, 3) := by decide +kernel
theorem zd137_10 : zop 137 10 = some (.sipush 999, 3) := by decide +kernel
theorem zd137_13 : zop 137 13 = some (.ireturn, 1) := by decide +kernel
theorem b137_0 {x : zXs} {F : zF} (hF : zSh F) {d : Nat} {V : Nat → Nat → Int32} {T : Nat → Nat → Int64} {Q : Option Value → zG → Prop} {l0 : Int32}   (kt : ¬ l0 = (Int32.ofInt 1) → E x F d 137 10 [some (.int l0)] [] (V, T) Q) (kf : ¬ (¬ l0 = (Int32.ofInt 1)) → E x F d 137 5 [some (.int l0)] [] (V, T) Q) : E x F d 137 0 [some (.int l0)] [] (V, T) Q := by
  refine e_iload_n zd137_0 rfl ?_
  refine e_iconst zd137_1 ?_
  exact e_icmp_ne zd137_2 (tg := 10) rfl kt kf
theorem b137_5 {x : zXs} {F : zF} (hF : zSh F) {d : Nat} {V : Nat → Nat → Int32} {T : Nat → Nat → Int64} {Q : Option Value → zG → Prop} {o0 : Option Value}   (k : E x F d 137 13 [o0] [.int (Int32.ofInt 9)] (V, T) Q) : E x F d 137 5 [o0] [] (V, T) Q := by
  refine e_bipush zd137_5 (v := Int32.ofInt 9) (by decide +kernel) ?_
  exact e_goto zd137_7 (tg := 13) rfl k
theorem b137_10 {x : zXs} {F : zF} (hF : zSh F) {d : Nat} {V : Nat → Nat → Int32} {T : Nat → Nat → Int64} {Q : Option Value → zG → Prop} {o0 : Option Value}   (k : E x F d 137 13 [o0] [.int (Int32.ofInt 999)] (V, T) Q) : E x F d 137 10 [o0] [] (V, T) Q := by
  refine e_sipush zd137_10 (v := Int32.ofInt 999) (by decide +kernel) ?_
  exact k
theorem b137_13 {x : zXs} {F : zF} (hF : zSh F) {d : Nat} {V : Nat → Nat → Int32} {T : Nat → Nat → Int64} {Q : Option Value → zG → Prop} {o0 : Option Value} {s0 : Int32}   (k : Q (some (.int s0)) (V, T)) : E x F d 137 13 [o0] [.int s0] (V, T) Q := by
  exact e_ireti zd137_13 zs137 k
theorem zd138_0 : zop 138 0 = some (.iload_n 2, 1) := by decide +kernel
theorem zd138_1 : zop 138 1 = some (.i2l, 1) := by decide +kernel
theorem zd138_2 : zop 138 2 = some (.lconst 0, 1) := by decide +kernel
theorem zd138_3 : zop 138 3 = some (.ldc2_w 136, 3) := by decide +kernel
theorem zd138_6 : zop 138 6 = some (.invokestatic 91, 3) := by decide +kernel
theorem zd138_9 : zop 138 9 = some (.ifCond .eq 30, 3) := by decide +kernel
theorem zd138_12 : zop 138 12 = some (.iload_n 2, 1) := by decide +kernel
theorem zd138_13 : zop 138 13 = some (.ifCond .le 29, 3) := by decide +kernel
theorem zd138_16 : zop 138 16 = some (.iload_n 2, 1) := by decide +kernel
theorem zd138_17 : zop 138 17 = some (.iconst 5, 1) := by decide +kernel
theorem zd138_18 : zop 138 18 = some (.if_icmp .ge 14, 3) := by decide +kernel
theorem zd138_21 : zop 138 21 = some (.aload_n 0, 1) := by decide +kernel
theorem zd138_22 : zop 138 22 = some (.iload_n 1, 1) := by decide +kernel
theorem zd138_23 : zop 138 23 = some (.invokevirtual 112, 3) := by decide +kernel
theorem zd138_26 : zop 138 26 = some (.ifCond .ne 16, 3) := by decide +kernel
theorem zd138_29 : zop 138 29 = some (.goto 10, 3) := by decide +kernel
theorem zd138_32 : zop 138 32 = some (.iload_n 1, 1) := by decide +kernel
theorem zd138_33 : zop 138 33 = some (.invokestatic 97, 3) := by decide +kernel
theorem zd138_36 : zop 138 36 = some (.ifCond .ne 6, 3) := by decide +kernel
theorem zd138_39 : zop 138 39 = some (.bipush (-2), 2) := by decide +kernel
theorem zd138_41 : zop 138 41 = some (.ireturn, 1) := by decide +kernel
theorem zd138_42 : zop 138 42 = some (.iload_n 2, 1) := by decide +kernel
theorem zd138_43 : zop 138 43 = some (.iconst 5, 1) := by decide +kernel
theorem zd138_44 : zop 138 44 = some (.if_icmp .ge 54, 3) := by decide +kernel
theorem zd138_47 : zop 138 47 = some (.iload_n 2, 1) := by decide +kernel
theorem zd138_48 : zop 138 48 = some (.ifCond .ne 10, 3) := by decide +kernel
theorem zd138_51 : zop 138 51 = some (.aload_n 0, 1) := by decide +kernel
theorem zd138_52 : zop 138 52 = some (.getfield 126, 3) := by decide +kernel
theorem zd138_55 : zop 138 55 = some (.goto 42, 3) := by decide +kernel
theorem zd138_58 : zop 138 58 = some (.iload_n 2, 1) := by decide +kernel
theorem zd138_59 : zop 138 59 = some (.iconst 3, 1) := by decide +kernel
theorem zd138_60 : zop 138 60 = some (.if_icmp .ge 18, 3) := by decide +kernel
theorem zd138_63 : zop 138 63 = some (.aload_n 0, 1) := by decide +kernel
theorem zd138_64 : zop 138 64 = some (.getfield 32, 3) := by decide +kernel
theorem zd138_67 : zop 138 67 = some (.iconst 2, 1) := by decide +kernel
theorem zd138_68 : zop 138 68 = some (.iload_n 1, 1) := by decide +kernel
theorem zd138_69 : zop 138 69 = some (.imul, 1) := by decide +kernel
theorem zd138_70 : zop 138 70 = some (.iload_n 2, 1) := by decide +kernel
theorem zd138_71 : zop 138 71 = some (.iadd, 1) := by decide +kernel
theorem zd138_72 : zop 138 72 = some (.iconst 1, 1) := by decide +kernel
theorem zd138_73 : zop 138 73 = some (.isub, 1) := by decide +kernel
theorem zd138_74 : zop 138 74 = some (.iaload, 1) := by decide +kernel
theorem zd138_75 : zop 138 75 = some (.goto 22, 3) := by decide +kernel
theorem zd138_78 : zop 138 78 = some (.iload_n 2, 1) := by decide +kernel
theorem zd138_79 : zop 138 79 = some (.iconst 3, 1) := by decide +kernel
theorem zd138_80 : zop 138 80 = some (.if_icmp .ne 12, 3) := by decide +kernel
theorem zd138_83 : zop 138 83 = some (.aload_n 0, 1) := by decide +kernel
theorem zd138_84 : zop 138 84 = some (.getfield 29, 3) := by decide +kernel
theorem zd138_87 : zop 138 87 = some (.iload_n 1, 1) := by decide +kernel
theorem zd138_88 : zop 138 88 = some (.iaload, 1) := by decide +kernel
theorem zd138_89 : zop 138 89 = some (.goto 8, 3) := by decide +kernel
theorem zd138_92 : zop 138 92 = some (.aload_n 0, 1) := by decide +kernel
theorem zd138_93 : zop 138 93 = some (.iload_n 1, 1) := by decide +kernel
theorem zd138_94 : zop 138 94 = some (.invokevirtual 138, 3) := by decide +kernel
theorem zd138_97 : zop 138 97 = some (.ireturn, 1) := by decide +kernel
theorem zd138_98 : zop 138 98 = some (.iload_n 2, 1) := by decide +kernel
theorem zd138_99 : zop 138 99 = some (.bipush 8, 2) := by decide +kernel
theorem zd138_101 : zop 138 101 = some (.if_icmp .ge 38, 3) := by decide +kernel
theorem zd138_104 : zop 138 104 = some (.iload_n 2, 1) := by decide +kernel
theorem zd138_105 : zop 138 105 = some (.iconst 5, 1) := by decide +kernel
theorem zd138_106 : zop 138 106 = some (.if_icmp .ne 12, 3) := by decide +kernel
theorem zd138_109 : zop 138 109 = some (.aload_n 0, 1) := by decide +kernel
theorem zd138_110 : zop 138 110 = some (.getfield 26, 3) := by decide +kernel
theorem zd138_113 : zop 138 113 = some (.iload_n 1, 1) := by decide +kernel
theorem zd138_114 : zop 138 114 = some (.iaload, 1) := by decide +kernel
theorem zd138_115 : zop 138 115 = some (.goto 23, 3) := by decide +kernel
theorem zd138_118 : zop 138 118 = some (.iload_n 2, 1) := by decide +kernel
theorem zd138_119 : zop 138 119 = some (.bipush 6, 2) := by decide +kernel
theorem zd138_121 : zop 138 121 = some (.if_icmp .ne 12, 3) := by decide +kernel
theorem zd138_124 : zop 138 124 = some (.aload_n 0, 1) := by decide +kernel
theorem zd138_125 : zop 138 125 = some (.getfield 23, 3) := by decide +kernel
theorem zd138_128 : zop 138 128 = some (.iload_n 1, 1) := by decide +kernel
theorem zd138_129 : zop 138 129 = some (.iaload, 1) := by decide +kernel
theorem zd138_130 : zop 138 130 = some (.goto 8, 3) := by decide +kernel
theorem zd138_133 : zop 138 133 = some (.aload_n 0, 1) := by decide +kernel
theorem zd138_134 : zop 138 134 = some (.iload_n 1, 1) := by decide +kernel
theorem zd138_135 : zop 138 135 = some (.invokevirtual 103, 3) := by decide +kernel
theorem zd138_138 : zop 138 138 = some (.ireturn, 1) := by decide +kernel
theorem zd138_139 : zop 138 139 = some (.iload_n 2, 1) := by decide +kernel
theorem zd138_140 : zop 138 140 = some (.bipush 8, 2) := by decide +kernel
theorem zd138_142 : zop 138 142 = some (.if_icmp .ne 11, 3) := by decide +kernel
theorem zd138_145 : zop 138 145 = some (.aload_n 0, 1) := by decide +kernel
theorem zd138_146 : zop 138 146 = some (.iload_n 1, 1) := by decide +kernel
theorem zd138_147 : zop 138 147 = some (.invokevirtual 141, 3) := by decide +kernel
theorem zd138_150 : zop 138 150 = some (.goto 22, 3) := by decide +kernel
theorem zd138_153 : zop 138 153 = some (.iload_n 2, 1) := by decide +kernel
theorem zd138_154 : zop 138 154 = some (.bipush 9, 2) := by decide +kernel
theorem zd138_156 : zop 138 156 = some (.if_icmp .ne 11, 3) := by decide +kernel
theorem zd138_159 : zop 138 159 = some (.aload_n 0, 1) := by decide +kernel
theorem zd138_160 : zop 138 160 = some (.iload_n 1, 1) := by decide +kernel
theorem zd138_161 : zop 138 161 = some (.invokevirtual 144, 3) := by decide +kernel
theorem zd138_164 : zop 138 164 = some (.goto 8, 3) := by decide +kernel
theorem zd138_167 : zop 138 167 = some (.aload_n 0, 1) := by decide +kernel
theorem zd138_168 : zop 138 168 = some (.iload_n 1, 1) := by decide +kernel
theorem zd138_169 : zop 138 169 = some (.invokevirtual 147, 3) := by decide +kernel
theorem zd138_172 : zop 138 172 = some (.ireturn, 1) := by decide +kernel
theorem b138_0 {x : zXs} {F : zF} (hF : zSh F) {d : Nat} {V : Nat → Nat → Int32} {T : Nat → Nat → Int64} {Q : Option Value → zG → Prop} {o0 : Option Value} {o1 : Option Value} {l2 : Int32}   (k : E x F d 132 0 [some (.long l2.toInt64), none, some (.long 0), none, some (.long (10 : Int64)), none] [] (V, T) (fun r G' => E x F (d + 1) 138 9 [o0, o1, some (.int l2)] (r.toList ++ []) G' Q)) : E x F (d + 1) 138 0 [o0, o1, some (.int l2)] [] (V, T) Q := by
  refine e_iload_n zd138_0 rfl ?_
  refine e_i2l zd138_1 ?_
  refine e_lconst zd138_2 (v := 0) rfl ?_
  refine e_ldc2 zd138_3 (own := 8) (w := 1036) (v := 10) (by decide +kernel) (by decide +kernel) ?_
  exact e_callS zd138_6 (own := 8) (nest := false) (w := 1009) (by decide +kernel) (by decide +kernel) zs132 (as := [.long l2.toInt64, .long 0, .long (10 : Int64)]) (rest := []) rfl rfl (Nat.le_of_ble_eq_true rfl) rfl rfl rfl (by omega) k
theorem b138_9 {x : zXs} {F : zF} (hF : zSh F) {d : Nat} {V : Nat → Nat → Int32} {T : Nat → Nat → Int64} {Q : Option Value → zG → Prop} {o0 : Option Value} {o1 : Option Value} {o2 : Option Value} {s0 : Int32}   (kt : s0 = 0 → E x F d 138 39 [o0, o1, o2] [] (V, T) Q) (kf : ¬ (s0 = 0) → E x F d 138 12 [o0, o1, o2] [] (V, T) Q) : E x F d 138 9 [o0, o1, o2] [.int s0] (V, T) Q := by
  exact e_if_eq zd138_9 (tg := 39) rfl kt kf
theorem b138_12 {x : zXs} {F : zF} (hF : zSh F) {d : Nat} {V : Nat → Nat → Int32} {T : Nat → Nat → Int64} {Q : Option Value → zG → Prop} {o0 : Option Value} {o1 : Option Value} {l2 : Int32}   (kt : l2 ≤ 0 → E x F d 138 42 [o0, o1, some (.int l2)] [] (V, T) Q) (kf : ¬ (l2 ≤ 0) → E x F d 138 16 [o0, o1, some (.int l2)] [] (V, T) Q) : E x F d 138 12 [o0, o1, some (.int l2)] [] (V, T) Q := by
  refine e_iload_n zd138_12 rfl ?_
  exact e_if_le zd138_13 (tg := 42) rfl kt kf
theorem b138_16 {x : zXs} {F : zF} (hF : zSh F) {d : Nat} {V : Nat → Nat → Int32} {T : Nat → Nat → Int64} {Q : Option Value → zG → Prop} {o0 : Option Value} {o1 : Option Value} {l2 : Int32}   (kt : (Int32.ofInt 5) ≤ l2 → E x F d 138 32 [o0, o1, some (.int l2)] [] (V, T) Q) (kf : ¬ ((Int32.ofInt 5) ≤ l2) → E x F d 138 21 [o0, o1, some (.int l2)] [] (V, T) Q) : E x F d 138 16 [o0, o1, some (.int l2)] [] (V, T) Q := by
  refine e_iload_n zd138_16 rfl ?_
  refine e_iconst zd138_17 ?_
  exact e_icmp_ge zd138_18 (tg := 32) rfl kt kf
theorem b138_21 {x : zXs} {F : zF} (hF : zSh F) {d : Nat} {V : Nat → Nat → Int32} {T : Nat → Nat → Int64} {Q : Option Value → zG → Prop} {l1 : Int32} {o2 : Option Value}   (k : E x F d 136 0 [some (.ref 59), some (.int l1)] [] (V, T) (fun r G' => E x F (d + 1) 138 26 [some (.ref 59), some (.int l1), o2] (r.toList ++ []) G' Q)) : E x F (d + 1) 138 21 [some (.ref 59), some (.int l1), o2] [] (V, T) Q := by
  refine e_aload_n zd138_21 rfl rfl ?_
  refine e_iload_n zd138_22 rfl ?_
  exact e_callV zd138_23 (own := 8) (nest := false) (w := 1025) (by decide +kernel) (by decide +kernel) zs136 (as := [.int l1]) (rest := []) rfl rfl (zsh_at hF rfl).1 (by omega) (Nat.le_of_ble_eq_true rfl) rfl rfl rfl (by omega) k
theorem b138_26 {x : zXs} {F : zF} (hF : zSh F) {d : Nat} {V : Nat → Nat → Int32} {T : Nat → Nat → Int64} {Q : Option Value → zG → Prop} {o0 : Option Value} {o1 : Option Value} {o2 : Option Value} {s0 : Int32}   (kt : ¬ s0 = 0 → E x F d 138 42 [o0, o1, o2] [] (V, T) Q) (kf : ¬ (¬ s0 = 0) → E x F d 138 29 [o0, o1, o2] [] (V, T) Q) : E x F d 138 26 [o0, o1, o2] [.int s0] (V, T) Q := by
  exact e_if_ne zd138_26 (tg := 42) rfl kt kf
theorem b138_29 {x : zXs} {F : zF} (hF : zSh F) {d : Nat} {V : Nat → Nat → Int32} {T : Nat → Nat → Int64} {Q : Option Value → zG → Prop} {o0 : Option Value} {o1 : Option Value} {o2 : Option Value}   (k : E x F d 138 39 [o0, o1, o2] [] (V, T) Q) : E x F d 138 29 [o0, o1, o2] [] (V, T) Q := by
  exact e_goto zd138_29 (tg := 39) rfl k
theorem b138_32 {x : zXs} {F : zF} (hF : zSh F) {d : Nat} {V : Nat → Nat → Int32} {T : Nat → Nat → Int64} {Q : Option Value → zG → Prop} {o0 : Option Value} {l1 : Int32} {o2 : Option Value}   (k : E x F d 131 0 [some (.int l1)] [] (V, T) (fun r G' => E x F (d + 1) 138 36 [o0, some (.int l1), o2] (r.toList ++ []) G' Q)) : E x F (d + 1) 138 32 [o0, some (.int l1), o2] [] (V, T) Q := by
  refine e_iload_n zd138_32 rfl ?_
  exact e_callS zd138_33 (own := 8) (nest := false) (w := 1005) (by decide +kernel) (by decide +kernel) zs131 (as := [.int l1]) (rest := []) rfl rfl (Nat.le_of_ble_eq_true rfl) rfl rfl rfl (by omega) k
theorem b138_36 {x : zXs} {F : zF} (hF : zSh F) {d : Nat} {V : Nat → Nat → Int32} {T : Nat → Nat → Int64} {Q : Option Value → zG → Prop} {o0 : Option Value} {o1 : Option Value} {o2 : Option Value} {s0 : Int32}   (kt : ¬ s0 = 0 → E x F d 138 42 [o0, o1, o2] [] (V, T) Q) (kf : ¬ (¬ s0 = 0) → E x F d 138 39 [o0, o1, o2] [] (V, T) Q) : E x F d 138 36 [o0, o1, o2] [.int s0] (V, T) Q := by
  exact e_if_ne zd138_36 (tg := 42) rfl kt kf
theorem b138_39 {x : zXs} {F : zF} (hF : zSh F) {d : Nat} {V : Nat → Nat → Int32} {T : Nat → Nat → Int64} {Q : Option Value → zG → Prop} {o0 : Option Value} {o1 : Option Value} {o2 : Option Value}   (k : Q (some (.int (Int32.ofInt (-2)))) (V, T)) : E x F d 138 39 [o0, o1, o2] [] (V, T) Q := by
  refine e_bipush zd138_39 (v := Int32.ofInt (-2)) (by decide +kernel) ?_
  exact e_ireti zd138_41 zs138 k
theorem b138_42 {x : zXs} {F : zF} (hF : zSh F) {d : Nat} {V : Nat → Nat → Int32} {T : Nat → Nat → Int64} {Q : Option Value → zG → Prop} {o0 : Option Value} {o1 : Option Value} {l2 : Int32}   (kt : (Int32.ofInt 5) ≤ l2 → E x F d 138 98 [o0, o1, some (.int l2)] [] (V, T) Q) (kf : ¬ ((Int32.ofInt 5) ≤ l2) → E x F d 138 47 [o0, o1, some (.int l2)] [] (V, T) Q) : E x F d 138 42 [o0, o1, some (.int l2)] [] (V, T) Q := by
  refine e_iload_n zd138_42 rfl ?_
  refine e_iconst zd138_43 ?_
  exact e_icmp_ge zd138_44 (tg := 98) rfl kt kf
theorem b138_47 {x : zXs} {F : zF} (hF : zSh F) {d : Nat} {V : Nat → Nat → Int32} {T : Nat → Nat → Int64} {Q : Option Value → zG → Prop} {o0 : Option Value} {o1 : Option Value} {l2 : Int32}   (kt : ¬ l2 = 0 → E x F d 138 58 [o0, o1, some (.int l2)] [] (V, T) Q) (kf : ¬ (¬ l2 = 0) → E x F d 138 51 [o0, o1, some (.int l2)] [] (V, T) Q) : E x F d 138 47 [o0, o1, some (.int l2)] [] (V, T) Q := by
  refine e_iload_n zd138_47 rfl ?_
  exact e_if_ne zd138_48 (tg := 58) rfl kt kf
theorem b138_51 {x : zXs} {F : zF} (hF : zSh F) {d : Nat} {V : Nat → Nat → Int32} {T : Nat → Nat → Int64} {Q : Option Value → zG → Prop} {o1 : Option Value} {o2 : Option Value}   (k : E x F d 138 97 [some (.ref 59), o1, o2] [.int (V 59 7)] (V, T) Q) : E x F d 138 51 [some (.ref 59), o1, o2] [] (V, T) Q := by
  refine e_aload_n zd138_51 rfl rfl ?_
  refine e_getI zd138_52 (own := 8) (ci := 8) (kf := 7) (w := 865) (by decide +kernel) (by decide +kernel) (zsh_at hF rfl).1 (by decide +kernel) rfl ?_
  exact e_goto zd138_55 (tg := 97) rfl k
theorem b138_58 {x : zXs} {F : zF} (hF : zSh F) {d : Nat} {V : Nat → Nat → Int32} {T : Nat → Nat → Int64} {Q : Option Value → zG → Prop} {o0 : Option Value} {o1 : Option Value} {l2 : Int32}   (kt : (Int32.ofInt 3) ≤ l2 → E x F d 138 78 [o0, o1, some (.int l2)] [] (V, T) Q) (kf : ¬ ((Int32.ofInt 3) ≤ l2) → E x F d 138 63 [o0, o1, some (.int l2)] [] (V, T) Q) : E x F d 138 58 [o0, o1, some (.int l2)] [] (V, T) Q := by
  refine e_iload_n zd138_58 rfl ?_
  refine e_iconst zd138_59 ?_
  exact e_icmp_ge zd138_60 (tg := 78) rfl kt kf
theorem b138_63 {x : zXs} {F : zF} (hF : zSh F) {d : Nat} {V : Nat → Nat → Int32} {T : Nat → Nat → Int64} {Q : Option Value → zG → Prop} {l1 : Int32} {l2 : Int32}  {i1 : Nat} (e1 : (((Int32.ofInt 2) * l1) + l2) - (Int32.ofInt 1) = nI i1) (h1 : i1 < 10) (k : E x F d 138 97 [some (.ref 59), some (.int l1), some (.int l2)] [.int (V 66 i1)] (V, T) Q) : E x F d 138 63 [some (.ref 59), some (.int l1), some (.int l2)] [] (V, T) Q := by
  refine e_aload_n zd138_63 rfl rfl ?_
  refine e_getA zd138_64 (own := 8) (ci := 8) (kf := 11) (w := 869) (by decide +kernel) (by decide +kernel) (zsh_at hF rfl).1 (by decide +kernel) rfl (zrf_at hF (i := 65) rfl) ?_
  refine e_iconst zd138_67 ?_
  refine e_iload_n zd138_68 rfl ?_
  refine e_imul zd138_69 ?_
  refine e_iload_n zd138_70 rfl ?_
  refine e_iadd zd138_71 ?_
  refine e_iconst zd138_72 ?_
  refine e_isub zd138_73 ?_
  refine e_iald zd138_74 (i := i1) (zsh_at hF rfl) e1 h1 (by omega) ?_
  exact e_goto zd138_75 (tg := 97) rfl k
theorem b138_78 {x : zXs} {F : zF} (hF : zSh F) {d : Nat} {V : Nat → Nat → Int32} {T : Nat → Nat → Int64} {Q : Option Value → zG → Prop} {o0 : Option Value} {o1 : Option Value} {l2 : Int32}   (kt : ¬ l2 = (Int32.ofInt 3) → E x F d 138 92 [o0, o1, some (.int l2)] [] (V, T) Q) (kf : ¬ (¬ l2 = (Int32.ofInt 3)) → E x F d 138 83 [o0, o1, some (.int l2)] [] (V, T) Q) : E x F d 138 78 [o0, o1, some (.int l2)] [] (V, T) Q := by
  refine e_iload_n zd138_78 rfl ?_
  refine e_iconst zd138_79 ?_
  exact e_icmp_ne zd138_80 (tg := 92) rfl kt kf
theorem b138_83 {x : zXs} {F : zF} (hF : zSh F) {d : Nat} {V : Nat → Nat → Int32} {T : Nat → Nat → Int64} {Q : Option Value → zG → Prop} {l1 : Int32} {o2 : Option Value}  {i1 : Nat} (e1 : l1 = nI i1) (h1 : i1 < 5) (k : E x F d 138 97 [some (.ref 59), some (.int l1), o2] [.int (V 65 i1)] (V, T) Q) : E x F d 138 83 [some (.ref 59), some (.int l1), o2] [] (V, T) Q := by
  refine e_aload_n zd138_83 rfl rfl ?_
  refine e_getA zd138_84 (own := 8) (ci := 8) (kf := 10) (w := 868) (by decide +kernel) (by decide +kernel) (zsh_at hF rfl).1 (by decide +kernel) rfl (zrf_at hF (i := 64) rfl) ?_
  refine e_iload_n zd138_87 rfl ?_
  refine e_iald zd138_88 (i := i1) (zsh_at hF rfl) e1 h1 (by omega) ?_
  exact e_goto zd138_89 (tg := 97) rfl k
theorem b138_92 {x : zXs} {F : zF} (hF : zSh F) {d : Nat} {V : Nat → Nat → Int32} {T : Nat → Nat → Int64} {Q : Option Value → zG → Prop} {l1 : Int32} {o2 : Option Value}   (k : E x F d 139 0 [some (.ref 59), some (.int l1), none, none, none, none] [] (V, T) (fun r G' => E x F (d + 1) 138 97 [some (.ref 59), some (.int l1), o2] (r.toList ++ []) G' Q)) : E x F (d + 1) 138 92 [some (.ref 59), some (.int l1), o2] [] (V, T) Q := by
  refine e_aload_n zd138_92 rfl rfl ?_
  refine e_iload_n zd138_93 rfl ?_
  exact e_callV zd138_94 (own := 8) (nest := false) (w := 1037) (by decide +kernel) (by decide +kernel) zs139 (as := [.int l1]) (rest := []) rfl rfl (zsh_at hF rfl).1 (by omega) (Nat.le_of_ble_eq_true rfl) rfl rfl rfl (by omega) k
theorem b138_97 {x : zXs} {F : zF} (hF : zSh F) {d : Nat} {V : Nat → Nat → Int32} {T : Nat → Nat → Int64} {Q : Option Value → zG → Prop} {o0 : Option Value} {o1 : Option Value} {o2 : Option Value} {s0 : Int32}   (k : Q (some (.int s0)) (V, T)) : E x F d 138 97 [o0, o1, o2] [.int s0] (V, T) Q := by
  exact e_ireti zd138_97 zs138 k
theorem b138_98 {x : zXs} {F : zF} (hF : zSh F) {d : Nat} {V : Nat → Nat → Int32} {T : Nat → Nat → Int64} {Q : Option Value → zG → Prop} {o0 : Option Value} {o1 : Option Value} {l2 : Int32}   (kt : (Int32.ofInt 8) ≤ l2 → E x F d 138 139 [o0, o1, some (.int l2)] [] (V, T) Q) (kf : ¬ ((Int32.ofInt 8) ≤ l2) → E x F d 138 104 [o0, o1, some (.int l2)] [] (V, T) Q) : E x F d 138 98 [o0, o1, some (.int l2)] [] (V, T) Q := by
  refine e_iload_n zd138_98 rfl ?_
  refine e_bipush zd138_99 (v := Int32.ofInt 8) (by decide +kernel) ?_
  exact e_icmp_ge zd138_101 (tg := 139) rfl kt kf
theorem b138_104 {x : zXs} {F : zF} (hF : zSh F) {d : Nat} {V : Nat → Nat → Int32} {T : Nat → Nat → Int64} {Q : Option Value → zG → Prop} {o0 : Option Value} {o1 : Option Value} {l2 : Int32}   (kt : ¬ l2 = (Int32.ofInt 5) → E x F d 138 118 [o0, o1, some (.int l2)] [] (V, T) Q) (kf : ¬ (¬ l2 = (Int32.ofInt 5)) → E x F d 138 109 [o0, o1, some (.int l2)] [] (V, T) Q) : E x F d 138 104 [o0, o1, some (.int l2)] [] (V, T) Q := by
  refine e_iload_n zd138_104 rfl ?_
  refine e_iconst zd138_105 ?_
  exact e_icmp_ne zd138_106 (tg := 118) rfl kt kf
theorem b138_109 {x : zXs} {F : zF} (hF : zSh F) {d : Nat} {V : Nat → Nat → Int32} {T : Nat → Nat → Int64} {Q : Option Value → zG → Prop} {l1 : Int32} {o2 : Option Value}  {i1 : Nat} (e1 : l1 = nI i1) (h1 : i1 < 5) (k : E x F d 138 138 [some (.ref 59), some (.int l1), o2] [.int (V 64 i1)] (V, T) Q) : E x F d 138 109 [some (.ref 59), some (.int l1), o2] [] (V, T) Q := by
  refine e_aload_n zd138_109 rfl rfl ?_
  refine e_getA zd138_110 (own := 8) (ci := 8) (kf := 9) (w := 867) (by decide +kernel) (by decide +kernel) (zsh_at hF rfl).1 (by decide +kernel) rfl (zrf_at hF (i := 63) rfl) ?_
  refine e_iload_n zd138_113 rfl ?_
  refine e_iald zd138_114 (i := i1) (zsh_at hF rfl) e1 h1 (by omega) ?_
  exact e_goto zd138_115 (tg := 138) rfl k
theorem b138_118 {x : zXs} {F : zF} (hF : zSh F) {d : Nat} {V : Nat → Nat → Int32} {T : Nat → Nat → Int64} {Q : Option Value → zG → Prop} {o0 : Option Value} {o1 : Option Value} {l2 : Int32}   (kt : ¬ l2 = (Int32.ofInt 6) → E x F d 138 133 [o0, o1, some (.int l2)] [] (V, T) Q) (kf : ¬ (¬ l2 = (Int32.ofInt 6)) → E x F d 138 124 [o0, o1, some (.int l2)] [] (V, T) Q) : E x F d 138 118 [o0, o1, some (.int l2)] [] (V, T) Q := by
  refine e_iload_n zd138_118 rfl ?_
  refine e_bipush zd138_119 (v := Int32.ofInt 6) (by decide +kernel) ?_
  exact e_icmp_ne zd138_121 (tg := 133) rfl kt kf
theorem b138_124 {x : zXs} {F : zF} (hF : zSh F) {d : Nat} {V : Nat → Nat → Int32} {T : Nat → Nat → Int64} {Q : Option Value → zG → Prop} {l1 : Int32} {o2 : Option Value}  {i1 : Nat} (e1 : l1 = nI i1) (h1 : i1 < 5) (k : E x F d 138 138 [some (.ref 59), some (.int l1), o2] [.int (V 63 i1)] (V, T) Q) : E x F d 138 124 [some (.ref 59), some (.int l1), o2] [] (V, T) Q := by
  refine e_aload_n zd138_124 rfl rfl ?_
  refine e_getA zd138_125 (own := 8) (ci := 8) (kf := 8) (w := 866) (by decide +kernel) (by decide +kernel) (zsh_at hF rfl).1 (by decide +kernel) rfl (zrf_at hF (i := 62) rfl) ?_
  refine e_iload_n zd138_128 rfl ?_
  refine e_iald zd138_129 (i := i1) (zsh_at hF rfl) e1 h1 (by omega) ?_
  exact e_goto zd138_130 (tg := 138) rfl k
theorem b138_133 {x : zXs} {F : zF} (hF : zSh F) {d : Nat} {V : Nat → Nat → Int32} {T : Nat → Nat → Int64} {Q : Option Value → zG → Prop} {l1 : Int32} {o2 : Option Value}   (k : E x F d 133 0 [some (.ref 59), some (.int l1)] [] (V, T) (fun r G' => E x F (d + 1) 138 138 [some (.ref 59), some (.int l1), o2] (r.toList ++ []) G' Q)) : E x F (d + 1) 138 133 [some (.ref 59), some (.int l1), o2] [] (V, T) Q := by
  refine e_aload_n zd138_133 rfl rfl ?_
  refine e_iload_n zd138_134 rfl ?_
  exact e_callV zd138_135 (own := 8) (nest := false) (w := 1013) (by decide +kernel) (by decide +kernel) zs133 (as := [.int l1]) (rest := []) rfl rfl (zsh_at hF rfl).1 (by omega) (Nat.le_of_ble_eq_true rfl) rfl rfl rfl (by omega) k
theorem b138_138 {x : zXs} {F : zF} (hF : zSh F) {d : Nat} {V : Nat → Nat → Int32} {T : Nat → Nat → Int64} {Q : Option Value → zG → Prop} {o0 : Option Value} {o1 : Option Value} {o2 : Option Value} {s0 : Int32}   (k : Q (some (.int s0)) (V, T)) : E x F d 138 138 [o0, o1, o2] [.int s0] (V, T) Q := by
  exact e_ireti zd138_138 zs138 k
theorem b138_139 {x : zXs} {F : zF} (hF : zSh F) {d : Nat} {V : Nat → Nat → Int32} {T : Nat → Nat → Int64} {Q : Option Value → zG → Prop} {o0 : Option Value} {o1 : Option Value} {l2 : Int32}   (kt : ¬ l2 = (Int32.ofInt 8) → E x F d 138 153 [o0, o1, some (.int l2)] [] (V, T) Q) (kf : ¬ (¬ l2 = (Int32.ofInt 8)) → E x F d 138 145 [o0, o1, some (.int l2)] [] (V, T) Q) : E x F d 138 139 [o0, o1, some (.int l2)] [] (V, T) Q := by
  refine e_iload_n zd138_139 rfl ?_
  refine e_bipush zd138_140 (v := Int32.ofInt 8) (by decide +kernel) ?_
  exact e_icmp_ne zd138_142 (tg := 153) rfl kt kf
theorem b138_145 {x : zXs} {F : zF} (hF : zSh F) {d : Nat} {V : Nat → Nat → Int32} {T : Nat → Nat → Int64} {Q : Option Value → zG → Prop} {l1 : Int32} {o2 : Option Value}   (k : E x F d 158 0 [some (.ref 59), some (.int l1), none, none] [] (V, T) (fun r G' => E x F (d + 1) 138 150 [some (.ref 59), some (.int l1), o2] (r.toList ++ []) G' Q)) : E x F (d + 1) 138 145 [some (.ref 59), some (.int l1), o2] [] (V, T) Q := by
  refine e_aload_n zd138_145 rfl rfl ?_
  refine e_iload_n zd138_146 rfl ?_
  exact e_callV zd138_147 (own := 8) (nest := false) (w := 1118) (by decide +kernel) (by decide +kernel) zs158 (as := [.int l1]) (rest := []) rfl rfl (zsh_at hF rfl).1 (by omega) (Nat.le_of_ble_eq_true rfl) rfl rfl rfl (by omega) k
theorem b138_150 {x : zXs} {F : zF} (hF : zSh F) {d : Nat} {V : Nat → Nat → Int32} {T : Nat → Nat → Int64} {Q : Option Value → zG → Prop} {o0 : Option Value} {o1 : Option Value} {o2 : Option Value} {s0 : Int32}   (k : E x F d 138 172 [o0, o1, o2] [.int s0] (V, T) Q) : E x F d 138 150 [o0, o1, o2] [.int s0] (V, T) Q := by
  exact e_goto zd138_150 (tg := 172) rfl k
theorem b138_153 {x : zXs} {F : zF} (hF : zSh F) {d : Nat} {V : Nat → Nat → Int32} {T : Nat → Nat → Int64} {Q : Option Value → zG → Prop} {o0 : Option Value} {o1 : Option Value} {l2 : Int32}   (kt : ¬ l2 = (Int32.ofInt 9) → E x F d 138 167 [o0, o1, some (.int l2)] [] (V, T) Q) (kf : ¬ (¬ l2 = (Int32.ofInt 9)) → E x F d 138 159 [o0, o1, some (.int l2)] [] (V, T) Q) : E x F d 138 153 [o0, o1, some (.int l2)] [] (V, T) Q := by
  refine e_iload_n zd138_153 rfl ?_
  refine e_bipush zd138_154 (v := Int32.ofInt 9) (by decide +kernel) ?_
  exact e_icmp_ne zd138_156 (tg := 167) rfl kt kf
theorem b138_159 {x : zXs} {F : zF} (hF : zSh F) {d : Nat} {V : Nat → Nat → Int32} {T : Nat → Nat → Int64} {Q : Option Value → zG → Prop} {l1 : Int32} {o2 : Option Value}   (k : E x F d 160 0 [some (.ref 59), some (.int l1), none, none, none] [] (V, T) (fun r G' => E x F (d + 1) 138 164 [some (.ref 59), some (.int l1), o2] (r.toList ++ []) G' Q)) : E x F (d + 1) 138 159 [some (.ref 59), some (.int l1), o2] [] (V, T) Q := by
  refine e_aload_n zd138_159 rfl rfl ?_
  refine e_iload_n zd138_160 rfl ?_
  exact e_callV zd138_161 (own := 8) (nest := false) (w := 1126) (by decide +kernel) (by decide +kernel) zs160 (as := [.int l1]) (rest := []) rfl rfl (zsh_at hF rfl).1 (by omega) (Nat.le_of_ble_eq_true rfl) rfl rfl rfl (by omega) k
theorem b138_164 {x : zXs} {F : zF} (hF : zSh F) {d : Nat} {V : Nat → Nat → Int32} {T : Nat → Nat → Int64} {Q : Option Value → zG → Prop} {o0 : Option Value} {o1 : Option Value} {o2 : Option Value} {s0 : Int32}   (k : E x F d 138 172 [o0, o1, o2] [.int s0] (V, T) Q) : E x F d 138 164 [o0, o1, o2] [.int s0] (V, T) Q := by
  exact e_goto zd138_164 (tg := 172) rfl k
theorem b138_167 {x : zXs} {F : zF} (hF : zSh F) {d : Nat} {V : Nat → Nat → Int32} {T : Nat → Nat → Int64} {Q : Option Value → zG → Prop} {l1 : Int32} {o2 : Option Value}   (k : E x F d 161 0 [some (.ref 59), some (.int l1)] [] (V, T) (fun r G' => E x F (d + 1) 138 172 [some (.ref 59), some (.int l1), o2] (r.toList ++ []) G' Q)) : E x F (d + 1) 138 167 [some (.ref 59), some (.int l1), o2] [] (V, T) Q := by
  refine e_aload_n zd138_167 rfl rfl ?_
  refine e_iload_n zd138_168 rfl ?_
  exact e_callV zd138_169 (own := 8) (nest := false) (w := 1130) (by decide +kernel) (by decide +kernel) zs161 (as := [.int l1]) (rest := []) rfl rfl (zsh_at hF rfl).1 (by omega) (Nat.le_of_ble_eq_true rfl) rfl rfl rfl (by omega) k
theorem b138_172 {x : zXs} {F : zF} (hF : zSh F) {d : Nat} {V : Nat → Nat → Int32} {T : Nat → Nat → Int64} {Q : Option Value → zG → Prop} {o0 : Option Value} {o1 : Option Value} {o2 : Option Value} {s0 : Int32}   (k : Q (some (.int s0)) (V, T)) : E x F d 138 172 [o0, o1, o2] [.int s0] (V, T) Q := by
  exact e_ireti zd138_172 zs138 k
theorem zd139_0 : zop 139 0 = some (.aload_n 0, 1) := by decide +kernel
theorem zd139_1 : zop 139 1 = some (.getfield 29, 3) := by decide +kernel
theorem zd139_4 : zop 139 4 = some (.iload_n 1, 1) := by decide +kernel
theorem zd139_5 : zop 139 5 = some (.iaload, 1) := by decide +kernel
theorem zd139_6 : zop 139 6 = some (.istore_n 2, 1) := by decide +kernel
theorem zd139_7 : zop 139 7 = some (.aload_n 0, 1) := by decide +kernel
theorem zd139_8 : zop 139 8 = some (.getfield 32, 3) := by decide +kernel
theorem zd139_11 : zop 139 11 = some (.iconst 2, 1) := by decide +kernel
theorem zd139_12 : zop 139 12 = some (.iload_n 1, 1) := by decide +kernel
theorem zd139_13 : zop 139 13 = some (.imul, 1) := by decide +kernel
theorem zd139_14 : zop 139 14 = some (.iaload, 1) := by decide +kernel
theorem zd139_15 : zop 139 15 = some (.istore_n 3, 1) := by decide +kernel
theorem zd139_16 : zop 139 16 = some (.aload_n 0, 1) := by decide +kernel
theorem zd139_17 : zop 139 17 = some (.getfield 32, 3) := by decide +kernel
theorem zd139_20 : zop 139 20 = some (.iconst 2, 1) := by decide +kernel
theorem zd139_21 : zop 139 21 = some (.iload_n 1, 1) := by decide +kernel
theorem zd139_22 : zop 139 22 = some (.imul, 1) := by decide +kernel
theorem zd139_23 : zop 139 23 = some (.iconst 1, 1) := by decide +kernel
theorem zd139_24 : zop 139 24 = some (.iadd, 1) := by decide +kernel
theorem zd139_25 : zop 139 25 = some (.iaload, 1) := by decide +kernel
theorem zd139_26 : zop 139 26 = some (.istore 4, 2) := by decide +kernel
theorem zd139_28 : zop 139 28 = some (.iload_n 2, 1) := by decide +kernel
theorem zd139_29 : zop 139 29 = some (.iconst 2, 1) := by decide +kernel
theorem zd139_30 : zop 139 30 = some (.if_icmp .eq 8, 3) := by decide +kernel
theorem zd139_33 : zop 139 33 = some (.iload_n 2, 1) := by decide +kernel
theorem zd139_34 : zop 139 34 = some (.iconst 4, 1) := by decide +kernel
theorem zd139_35 : zop 139 35 = some (.if_icmp .ne 18, 3) := by decide +kernel
theorem zd139_38 : zop 139 38 = some (.iload_n 2, 1) := by decide +kernel
theorem zd139_39 : zop 139 39 = some (.iconst 2, 1) := by decide +kernel
theorem zd139_40 : zop 139 40 = some (.if_icmp .ne 8, 3) := by decide +kernel
theorem zd139_43 : zop 139 43 = some (.iload 4, 2) := by decide +kernel
theorem zd139_45 : zop 139 45 = some (.goto 7, 3) := by decide +kernel
theorem zd139_48 : zop 139 48 = some (.iload 4, 2) := by decide +kernel
theorem zd139_50 : zop 139 50 = some (.iconst 2, 1) := by decide +kernel
theorem zd139_51 : zop 139 51 = some (.idiv, 1) := by decide +kernel
theorem zd139_52 : zop 139 52 = some (.ireturn, 1) := by decide +kernel
theorem zd139_53 : zop 139 53 = some (.iload_n 2, 1) := by decide +kernel
theorem zd139_54 : zop 139 54 = some (.iconst 5, 1) := by decide +kernel
theorem zd139_55 : zop 139 55 = some (.if_icmp .ne 5, 3) := by decide +kernel
theorem zd139_58 : zop 139 58 = some (.iconst 0, 1) := by decide +kernel
theorem zd139_59 : zop 139 59 = some (.ireturn, 1) := by decide +kernel
theorem zd139_60 : zop 139 60 = some (.iload 4, 2) := by decide +kernel
theorem zd139_62 : zop 139 62 = some (.aload_n 0, 1) := by decide +kernel
theorem zd139_63 : zop 139 63 = some (.iconst 1, 1) := by decide +kernel
theorem zd139_64 : zop 139 64 = some (.iconst 0, 1) := by decide +kernel
theorem zd139_65 : zop 139 65 = some (.iconst 0, 1) := by decide +kernel
theorem zd139_66 : zop 139 66 = some (.iload_n 3, 1) := by decide +kernel
theorem zd139_67 : zop 139 67 = some (.iload 4, 2) := by decide +kernel
theorem zd139_69 : zop 139 69 = some (.iconst 0, 1) := by decide +kernel
theorem zd139_70 : zop 139 70 = some (.invokevirtual 271, 3) := by decide +kernel
theorem zd139_73 : zop 139 73 = some (.imul, 1) := by decide +kernel
theorem zd139_74 : zop 139 74 = some (.bipush 100, 2) := by decide +kernel
theorem zd139_76 : zop 139 76 = some (.idiv, 1) := by decide +kernel
theorem zd139_77 : zop 139 77 = some (.istore 5, 2) := by decide +kernel
theorem zd139_79 : zop 139 79 = some (.iload_n 2, 1) := by decide +kernel
theorem zd139_80 : zop 139 80 = some (.iconst 3, 1) := by decide +kernel
theorem zd139_81 : zop 139 81 = some (.if_icmp .ne 10, 3) := by decide +kernel
theorem zd139_84 : zop 139 84 = some (.iload 5, 2) := by decide +kernel
theorem zd139_86 : zop 139 86 = some (.iload_n 3, 1) := by decide +kernel
theorem zd139_87 : zop 139 87 = some (.isub, 1) := by decide +kernel
theorem zd139_88 : zop 139 88 = some (.goto 5, 3) := by decide +kernel
theorem zd139_91 : zop 139 91 = some (.iload 5, 2) := by decide +kernel
theorem zd139_93 : zop 139 93 = some (.iconst 0, 1) := by decide +kernel
theorem zd139_94 : zop 139 94 = some (.sipush 999, 3) := by decide +kernel
theorem zd139_97 : zop 139 97 = some (.invokestatic 267, 3) := by decide +kernel
theorem zd139_100 : zop 139 100 = some (.ireturn, 1) := by decide +kernel
theorem b139_0 {x : zXs} {F : zF} (hF : zSh F) {d : Nat} {V : Nat → Nat → Int32} {T : Nat → Nat → Int64} {Q : Option Value → zG → Prop} {l1 : Int32} {o2 : Option Value} {o3 : Option Value} {o4 : Option Value} {o5 : Option Value}  {i1 : Nat} (e1 : l1 = nI i1) (h1 : i1 < 5) {i2 : Nat} (e2 : (Int32.ofInt 2) * l1 = nI i2) (h2 : i2 < 10) {i3 : Nat} (e3 : ((Int32.ofInt 2) * l1) + (Int32.ofInt 1) = nI i3) (h3 : i3 < 10) (kt : (V 65 i1) = (Int32.ofInt 2) → E x F d 139 38 [some (.ref 59), some (.int l1), some (.int (V 65 i1)), some (.int (V 66 i2)), some (.int (V 66 i3)), o5] [] (V, T) Q) (kf : ¬ ((V 65 i1) = (Int32.ofInt 2)) → E x F d 139 33 [some (.ref 59), some (.int l1), some (.int (V 65 i1)), some (.int (V 66 i2)), some (.int (V 66 i3)), o5] [] (V, T) Q) : E x F d 139 0 [some (.ref 59), some (.int l1), o2, o3, o4, o5] [] (V, T) Q := by
  refine e_aload_n zd139_0 rfl rfl ?_
  refine e_getA zd139_1 (own := 8) (ci := 8) (kf := 10) (w := 868) (by decide +kernel) (by decide +kernel) (zsh_at hF rfl).1 (by decide +kernel) rfl (zrf_at hF (i := 64) rfl) ?_
  refine e_iload_n zd139_4 rfl ?_
  refine e_iald zd139_5 (i := i1) (zsh_at hF rfl) e1 h1 (by omega) ?_
  refine e_istore_n zd139_6 (by decide +kernel) (Nat.le_of_ble_eq_true rfl) ?_
  refine e_aload_n zd139_7 rfl rfl ?_
  refine e_getA zd139_8 (own := 8) (ci := 8) (kf := 11) (w := 869) (by decide +kernel) (by decide +kernel) (zsh_at hF rfl).1 (by decide +kernel) rfl (zrf_at hF (i := 65) rfl) ?_
  refine e_iconst zd139_11 ?_
  refine e_iload_n zd139_12 rfl ?_
  refine e_imul zd139_13 ?_
  refine e_iald zd139_14 (i := i2) (zsh_at hF rfl) e2 h2 (by omega) ?_
  refine e_istore_n zd139_15 (by decide +kernel) (Nat.le_of_ble_eq_true rfl) ?_
  refine e_aload_n zd139_16 rfl rfl ?_
  refine e_getA zd139_17 (own := 8) (ci := 8) (kf := 11) (w := 869) (by decide +kernel) (by decide +kernel) (zsh_at hF rfl).1 (by decide +kernel) rfl (zrf_at hF (i := 65) rfl) ?_
  refine e_iconst zd139_20 ?_
  refine e_iload_n zd139_21 rfl ?_
  refine e_imul zd139_22 ?_
  refine e_iconst zd139_23 ?_
  refine e_iadd zd139_24 ?_
  refine e_iald zd139_25 (i := i3) (zsh_at hF rfl) e3 h3 (by omega) ?_
  refine e_istore zd139_26 (by decide +kernel) (Nat.le_of_ble_eq_true rfl) ?_
  refine e_iload_n zd139_28 rfl ?_
  refine e_iconst zd139_29 ?_
  exact e_icmp_eq zd139_30 (tg := 38) rfl kt kf
theorem b139_33 {x : zXs} {F : zF} (hF : zSh F) {d : Nat} {V : Nat → Nat → Int32} {T : Nat → Nat → Int64} {Q : Option Value → zG → Prop} {o0 : Option Value} {o1 : Option Value} {l2 : Int32} {o3 : Option Value} {o4 : Option Value} {o5 : Option Value}   (kt : ¬ l2 = (Int32.ofInt 4) → E x F d 139 53 [o0, o1, some (.int l2), o3, o4, o5] [] (V, T) Q) (kf : ¬ (¬ l2 = (Int32.ofInt 4)) → E x F d 139 38 [o0, o1, some (.int l2), o3, o4, o5] [] (V, T) Q) : E x F d 139 33 [o0, o1, some (.int l2), o3, o4, o5] [] (V, T) Q := by
  refine e_iload_n zd139_33 rfl ?_
  refine e_iconst zd139_34 ?_
  exact e_icmp_ne zd139_35 (tg := 53) rfl kt kf
theorem b139_38 {x : zXs} {F : zF} (hF : zSh F) {d : Nat} {V : Nat → Nat → Int32} {T : Nat → Nat → Int64} {Q : Option Value → zG → Prop} {o0 : Option Value} {o1 : Option Value} {l2 : Int32} {o3 : Option Value} {o4 : Option Value} {o5 : Option Value}   (kt : ¬ l2 = (Int32.ofInt 2) → E x F d 139 48 [o0, o1, some (.int l2), o3, o4, o5] [] (V, T) Q) (kf : ¬ (¬ l2 = (Int32.ofInt 2)) → E x F d 139 43 [o0, o1, some (.int l2), o3, o4, o5] [] (V, T) Q) : E x F d 139 38 [o0, o1, some (.int l2), o3, o4, o5] [] (V, T) Q := by
  refine e_iload_n zd139_38 rfl ?_
  refine e_iconst zd139_39 ?_
  exact e_icmp_ne zd139_40 (tg := 48) rfl kt kf
theorem b139_43 {x : zXs} {F : zF} (hF : zSh F) {d : Nat} {V : Nat → Nat → Int32} {T : Nat → Nat → Int64} {Q : Option Value → zG → Prop} {o0 : Option Value} {o1 : Option Value} {o2 : Option Value} {o3 : Option Value} {l4 : Int32} {o5 : Option Value}   (k : E x F d 139 52 [o0, o1, o2, o3, some (.int l4), o5] [.int l4] (V, T) Q) : E x F d 139 43 [o0, o1, o2, o3, some (.int l4), o5] [] (V, T) Q := by
  refine e_iload zd139_43 rfl ?_
  exact e_goto zd139_45 (tg := 52) rfl k
theorem b139_48 {x : zXs} {F : zF} (hF : zSh F) {d : Nat} {V : Nat → Nat → Int32} {T : Nat → Nat → Int64} {Q : Option Value → zG → Prop} {o0 : Option Value} {o1 : Option Value} {o2 : Option Value} {o3 : Option Value} {l4 : Int32} {o5 : Option Value}   (k : E x F d 139 52 [o0, o1, o2, o3, some (.int l4), o5] [.int (l4 / (Int32.ofInt 2))] (V, T) Q) : E x F d 139 48 [o0, o1, o2, o3, some (.int l4), o5] [] (V, T) Q := by
  refine e_iload zd139_48 rfl ?_
  refine e_iconst zd139_50 ?_
  refine e_idiv zd139_51 (by decide +kernel) ?_
  exact k
theorem b139_52 {x : zXs} {F : zF} (hF : zSh F) {d : Nat} {V : Nat → Nat → Int32} {T : Nat → Nat → Int64} {Q : Option Value → zG → Prop} {o0 : Option Value} {o1 : Option Value} {o2 : Option Value} {o3 : Option Value} {o4 : Option Value} {o5 : Option Value} {s0 : Int32}   (k : Q (some (.int s0)) (V, T)) : E x F d 139 52 [o0, o1, o2, o3, o4, o5] [.int s0] (V, T) Q := by
  exact e_ireti zd139_52 zs139 k
theorem b139_53 {x : zXs} {F : zF} (hF : zSh F) {d : Nat} {V : Nat → Nat → Int32} {T : Nat → Nat → Int64} {Q : Option Value → zG → Prop} {o0 : Option Value} {o1 : Option Value} {l2 : Int32} {o3 : Option Value} {o4 : Option Value} {o5 : Option Value}   (kt : ¬ l2 = (Int32.ofInt 5) → E x F d 139 60 [o0, o1, some (.int l2), o3, o4, o5] [] (V, T) Q) (kf : ¬ (¬ l2 = (Int32.ofInt 5)) → E x F d 139 58 [o0, o1, some (.int l2), o3, o4, o5] [] (V, T) Q) : E x F d 139 53 [o0, o1, some (.int l2), o3, o4, o5] [] (V, T) Q := by
  refine e_iload_n zd139_53 rfl ?_
  refine e_iconst zd139_54 ?_
  exact e_icmp_ne zd139_55 (tg := 60) rfl kt kf
theorem b139_58 {x : zXs} {F : zF} (hF : zSh F) {d : Nat} {V : Nat → Nat → Int32} {T : Nat → Nat → Int64} {Q : Option Value → zG → Prop} {o0 : Option Value} {o1 : Option Value} {o2 : Option Value} {o3 : Option Value} {o4 : Option Value} {o5 : Option Value}   (k : Q (some (.int (Int32.ofInt 0))) (V, T)) : E x F d 139 58 [o0, o1, o2, o3, o4, o5] [] (V, T) Q := by
  refine e_iconst zd139_58 ?_
  exact e_ireti zd139_59 zs139 k
theorem b139_60 {x : zXs} {F : zF} (hF : zSh F) {d : Nat} {V : Nat → Nat → Int32} {T : Nat → Nat → Int64} {Q : Option Value → zG → Prop} {o1 : Option Value} {o2 : Option Value} {l3 : Int32} {l4 : Int32} {o5 : Option Value}   (k : E x F d 140 0 [some (.ref 59), some (.int (Int32.ofInt 1)), some (.int (Int32.ofInt 0)), some (.int (Int32.ofInt 0)), some (.int l3), some (.int l4), some (.int (Int32.ofInt 0))] [] (V, T) (fun r G' => E x F (d + 1) 139 73 [some (.ref 59), o1, o2, some (.int l3), some (.int l4), o5] (r.toList ++ [.int l4]) G' Q)) : E x F (d + 1) 139 60 [some (.ref 59), o1, o2, some (.int l3), some (.int l4), o5] [] (V, T) Q := by
  refine e_iload zd139_60 rfl ?_
  refine e_aload_n zd139_62 rfl rfl ?_
  refine e_iconst zd139_63 ?_
  refine e_iconst zd139_64 ?_
  refine e_iconst zd139_65 ?_
  refine e_iload_n zd139_66 rfl ?_
  refine e_iload zd139_67 rfl ?_
  refine e_iconst zd139_69 ?_
  exact e_callV zd139_70 (own := 8) (nest := false) (w := 1041) (by decide +kernel) (by decide +kernel) zs140 (as := [.int (Int32.ofInt 1), .int (Int32.ofInt 0), .int (Int32.ofInt 0), .int l3, .int l4, .int (Int32.ofInt 0)]) (rest := [.int l4]) rfl rfl (zsh_at hF rfl).1 (by omega) (Nat.le_of_ble_eq_true rfl) rfl rfl rfl (by omega) k
theorem b139_73 {x : zXs} {F : zF} (hF : zSh F) {d : Nat} {V : Nat → Nat → Int32} {T : Nat → Nat → Int64} {Q : Option Value → zG → Prop} {o0 : Option Value} {o1 : Option Value} {l2 : Int32} {o3 : Option Value} {o4 : Option Value} {o5 : Option Value} {s0 : Int32} {s1 : Int32}   (kt : ¬ l2 = (Int32.ofInt 3) → E x F d 139 91 [o0, o1, some (.int l2), o3, o4, some (.int ((s0 * s1) / (Int32.ofInt 100)))] [] (V, T) Q) (kf : ¬ (¬ l2 = (Int32.ofInt 3)) → E x F d 139 84 [o0, o1, some (.int l2), o3, o4, some (.int ((s0 * s1) / (Int32.ofInt 100)))] [] (V, T) Q) : E x F d 139 73 [o0, o1, some (.int l2), o3, o4, o5] [.int s1, .int s0] (V, T) Q := by
  refine e_imul zd139_73 ?_
  refine e_bipush zd139_74 (v := Int32.ofInt 100) (by decide +kernel) ?_
  refine e_idiv zd139_76 (by decide +kernel) ?_
  refine e_istore zd139_77 (by decide +kernel) (Nat.le_of_ble_eq_true rfl) ?_
  refine e_iload_n zd139_79 rfl ?_
  refine e_iconst zd139_80 ?_
  exact e_icmp_ne zd139_81 (tg := 91) rfl kt kf
theorem b139_84 {x : zXs} {F : zF} (hF : zSh F) {d : Nat} {V : Nat → Nat → Int32} {T : Nat → Nat → Int64} {Q : Option Value → zG → Prop} {o0 : Option Value} {o1 : Option Value} {o2 : Option Value} {l3 : Int32} {o4 : Option Value} {l5 : Int32}   (k : E x F d 139 93 [o0, o1, o2, some (.int l3), o4, some (.int l5)] [.int (l5 - l3)] (V, T) Q) : E x F d 139 84 [o0, o1, o2, some (.int l3), o4, some (.int l5)] [] (V, T) Q := by
  refine e_iload zd139_84 rfl ?_
  refine e_iload_n zd139_86 rfl ?_
  refine e_isub zd139_87 ?_
  exact e_goto zd139_88 (tg := 93) rfl k
theorem b139_91 {x : zXs} {F : zF} (hF : zSh F) {d : Nat} {V : Nat → Nat → Int32} {T : Nat → Nat → Int64} {Q : Option Value → zG → Prop} {o0 : Option Value} {o1 : Option Value} {o2 : Option Value} {o3 : Option Value} {o4 : Option Value} {l5 : Int32}   (k : E x F d 139 93 [o0, o1, o2, o3, o4, some (.int l5)] [.int l5] (V, T) Q) : E x F d 139 91 [o0, o1, o2, o3, o4, some (.int l5)] [] (V, T) Q := by
  refine e_iload zd139_91 rfl ?_
  exact k
theorem b139_93 {x : zXs} {F : zF} (hF : zSh F) {d : Nat} {V : Nat → Nat → Int32} {T : Nat → Nat → Int64} {Q : Option Value → zG → Prop} {o0 : Option Value} {o1 : Option Value} {o2 : Option Value} {o3 : Option Value} {o4 : Option Value} {o5 : Option Value} {s0 : Int32}   (k : E x F d 157 0 [some (.int s0), some (.int (Int32.ofInt 0)), some (.int (Int32.ofInt 999))] [] (V, T) (fun r G' => E x F (d + 1) 139 100 [o0, o1, o2, o3, o4, o5] (r.toList ++ []) G' Q)) : E x F (d + 1) 139 93 [o0, o1, o2, o3, o4, o5] [.int s0] (V, T) Q := by
  refine e_iconst zd139_93 ?_
  refine e_sipush zd139_94 (v := Int32.ofInt 999) (by decide +kernel) ?_
  exact e_callS zd139_97 (own := 8) (nest := false) (w := 1115) (by decide +kernel) (by decide +kernel) zs157 (as := [.int s0, .int (Int32.ofInt 0), .int (Int32.ofInt 999)]) (rest := []) rfl rfl (Nat.le_of_ble_eq_true rfl) rfl rfl rfl (by omega) k
theorem b139_100 {x : zXs} {F : zF} (hF : zSh F) {d : Nat} {V : Nat → Nat → Int32} {T : Nat → Nat → Int64} {Q : Option Value → zG → Prop} {o0 : Option Value} {o1 : Option Value} {o2 : Option Value} {o3 : Option Value} {o4 : Option Value} {o5 : Option Value} {s0 : Int32}   (k : Q (some (.int s0)) (V, T)) : E x F d 139 100 [o0, o1, o2, o3, o4, o5] [.int s0] (V, T) Q := by
  exact e_ireti zd139_100 zs139 k
theorem zd140_0 : zop 140 0 = some (.aload_n 0, 1) := by decide +kernel
theorem zd140_1 : zop 140 1 = some (.iload_n 2, 1) := by decide +kernel
theorem zd140_2 : zop 140 2 = some (.putfield 209, 3) := by decide +kernel
theorem zd140_5 : zop 140 5 = some (.aload_n 0, 1) := by decide +kernel
theorem zd140_6 : zop 140 6 = some (.iload_n 3, 1) := by decide +kernel
theorem zd140_7 : zop 140 7 = some (.putfield 212, 3) := by decide +kernel
theorem zd140_10 : zop 140 10 = some (.aload_n 0, 1) := by decide +kernel
theorem zd140_11 : zop 140 11 = some (.iload 4, 2) := by decide +kernel
theorem zd140_13 : zop 140 13 = some (.putfield 215, 3) := by decide +kernel
theorem zd140_16 : zop 140 16 = some (.aload_n 0, 1) := by decide +kernel
theorem zd140_17 : zop 140 17 = some (.aload_n 0, 1) := by decide +kernel
theorem zd140_18 : zop 140 18 = some (.getfield 126, 3) := by decide +kernel
theorem zd140_21 : zop 140 21 = some (.putfield 218, 3) := by decide +kernel
theorem zd140_24 : zop 140 24 = some (.aload_n 0, 1) := by decide +kernel
theorem zd140_25 : zop 140 25 = some (.iload 5, 2) := by decide +kernel
theorem zd140_27 : zop 140 27 = some (.putfield 221, 3) := by decide +kernel
theorem zd140_30 : zop 140 30 = some (.aload_n 0, 1) := by decide +kernel
theorem zd140_31 : zop 140 31 = some (.iload 6, 2) := by decide +kernel
theorem zd140_33 : zop 140 33 = some (.putfield 224, 3) := by decide +kernel
theorem zd140_36 : zop 140 36 = some (.aload_n 0, 1) := by decide +kernel
theorem zd140_37 : zop 140 37 = some (.aload_n 0, 1) := by decide +kernel
theorem zd140_38 : zop 140 38 = some (.getfield 129, 3) := by decide +kernel
theorem zd140_41 : zop 140 41 = some (.iload_n 1, 1) := by decide +kernel
theorem zd140_42 : zop 140 42 = some (.invokevirtual 264, 3) := by decide +kernel
theorem zd140_45 : zop 140 45 = some (.iconst 0, 1) := by decide +kernel
theorem zd140_46 : zop 140 46 = some (.iload_n 1, 1) := by decide +kernel
theorem zd140_47 : zop 140 47 = some (.ifCond .ne 8, 3) := by decide +kernel
theorem zd140_50 : zop 140 50 = some (.bipush 99, 2) := by decide +kernel
theorem zd140_52 : zop 140 52 = some (.goto 15, 3) := by decide +kernel
theorem zd140_55 : zop 140 55 = some (.iload_n 1, 1) := by decide +kernel
theorem zd140_56 : zop 140 56 = some (.iconst 1, 1) := by decide +kernel
theorem zd140_57 : zop 140 57 = some (.if_icmp .ne 8, 3) := by decide +kernel
theorem zd140_60 : zop 140 60 = some (.bipush 100, 2) := by decide +kernel
theorem zd140_62 : zop 140 62 = some (.goto 5, 3) := by decide +kernel
theorem zd140_65 : zop 140 65 = some (.bipush 9, 2) := by decide +kernel
theorem zd140_67 : zop 140 67 = some (.invokestatic 267, 3) := by decide +kernel
theorem zd140_70 : zop 140 70 = some (.ireturn, 1) := by decide +kernel
theorem b140_0 {x : zXs} {F : zF} (hF : zSh F) {d : Nat} {V : Nat → Nat → Int32} {T : Nat → Nat → Int64} {Q : Option Value → zG → Prop} {l1 : Int32} {l2 : Int32} {l3 : Int32} {l4 : Int32} {l5 : Int32} {l6 : Int32}   (k : E x F d 141 0 [some (.ref 59), some (.int ((zu (zu (zu (zu (zu (zu V 59 13 l2) 59 14 l3) 59 15 l4) 59 16 ((zu (zu (zu V 59 13 l2) 59 14 l3) 59 15 l4) 59 7)) 59 17 l5) 59 18 l6) 59 4)), some (.int l1), none, none, none] [] (zu (zu (zu (zu (zu (zu V 59 13 l2) 59 14 l3) 59 15 l4) 59 16 ((zu (zu (zu V 59 13 l2) 59 14 l3) 59 15 l4) 59 7)) 59 17 l5) 59 18 l6, T) (fun r G' => E x F (d + 1) 140 45 [some (.ref 59), some (.int l1), some (.int l2), some (.int l3), some (.int l4), some (.int l5), some (.int l6)] (r.toList ++ []) G' Q)) : E x F (d + 1) 140 0 [some (.ref 59), some (.int l1), some (.int l2), some (.int l3), some (.int l4), some (.int l5), some (.int l6)] [] (V, T) Q := by
  refine e_aload_n zd140_0 rfl rfl ?_
  refine e_iload_n zd140_1 rfl ?_
  refine e_putI zd140_2 (own := 8) (ci := 8) (kf := 13) (w := 871) (by decide +kernel) (by decide +kernel) (zsh_at hF rfl).1 (by decide +kernel) rfl ?_
  refine e_aload_n zd140_5 rfl rfl ?_
  refine e_iload_n zd140_6 rfl ?_
  refine e_putI zd140_7 (own := 8) (ci := 8) (kf := 14) (w := 872) (by decide +kernel) (by decide +kernel) (zsh_at hF rfl).1 (by decide +kernel) rfl ?_
  refine e_aload_n zd140_10 rfl rfl ?_
  refine e_iload zd140_11 rfl ?_
  refine e_putI zd140_13 (own := 8) (ci := 8) (kf := 15) (w := 873) (by decide +kernel) (by decide +kernel) (zsh_at hF rfl).1 (by decide +kernel) rfl ?_
  refine e_aload_n zd140_16 rfl rfl ?_
  refine e_aload_n zd140_17 rfl rfl ?_
  refine e_getI zd140_18 (own := 8) (ci := 8) (kf := 7) (w := 865) (by decide +kernel) (by decide +kernel) (zsh_at hF rfl).1 (by decide +kernel) rfl ?_
  refine e_putI zd140_21 (own := 8) (ci := 8) (kf := 16) (w := 874) (by decide +kernel) (by decide +kernel) (zsh_at hF rfl).1 (by decide +kernel) rfl ?_
  refine e_aload_n zd140_24 rfl rfl ?_
  refine e_iload zd140_25 rfl ?_
  refine e_putI zd140_27 (own := 8) (ci := 8) (kf := 17) (w := 875) (by decide +kernel) (by decide +kernel) (zsh_at hF rfl).1 (by decide +kernel) rfl ?_
  refine e_aload_n zd140_30 rfl rfl ?_
  refine e_iload zd140_31 rfl ?_
  refine e_putI zd140_33 (own := 8) (ci := 8) (kf := 18) (w := 876) (by decide +kernel) (by decide +kernel) (zsh_at hF rfl).1 (by decide +kernel) rfl ?_
  refine e_aload_n zd140_36 rfl rfl ?_
  refine e_aload_n zd140_37 rfl rfl ?_
  refine e_getI zd140_38 (own := 8) (ci := 8) (kf := 4) (w := 862) (by decide +kernel) (by decide +kernel) (zsh_at hF rfl).1 (by decide +kernel) rfl ?_
  refine e_iload_n zd140_41 rfl ?_
  exact e_callV zd140_42 (own := 8) (nest := false) (w := 1045) (by decide +kernel) (by decide +kernel) zs141 (as := [.int ((zu (zu (zu (zu (zu (zu V 59 13 l2) 59 14 l3) 59 15 l4) 59 16 ((zu (zu (zu V 59 13 l2) 59 14 l3) 59 15 l4) 59 7)) 59 17 l5) 59 18 l6) 59 4), .int l1]) (rest := []) rfl rfl (zsh_at hF rfl).1 (by omega) (Nat.le_of_ble_eq_true rfl) rfl rfl rfl (by omega) k
theorem b140_45 {x : zXs} {F : zF} (hF : zSh F) {d : Nat} {V : Nat → Nat → Int32} {T : Nat → Nat → Int64} {Q : Option Value → zG → Prop} {o0 : Option Value} {l1 : Int32} {o2 : Option Value} {o3 : Option Value} {o4 : Option Value} {o5 : Option Value} {o6 : Option Value} {s0 : Int32}   (kt : ¬ l1 = 0 → E x F d 140 55 [o0, some (.int l1), o2, o3, o4, o5, o6] [.int (Int32.ofInt 0), .int s0] (V, T) Q) (kf : ¬ (¬ l1 = 0) → E x F d 140 50 [o0, some (.int l1), o2, o3, o4, o5, o6] [.int (Int32.ofInt 0), .int s0] (V, T) Q) : E x F d 140 45 [o0, some (.int l1), o2, o3, o4, o5, o6] [.int s0] (V, T) Q := by
  refine e_iconst zd140_45 ?_
  refine e_iload_n zd140_46 rfl ?_
  exact e_if_ne zd140_47 (tg := 55) rfl kt kf
theorem b140_50 {x : zXs} {F : zF} (hF : zSh F) {d : Nat} {V : Nat → Nat → Int32} {T : Nat → Nat → Int64} {Q : Option Value → zG → Prop} {o0 : Option Value} {o1 : Option Value} {o2 : Option Value} {o3 : Option Value} {o4 : Option Value} {o5 : Option Value} {o6 : Option Value} {s0 : Int32} {s1 : Int32}   (k : E x F d 140 67 [o0, o1, o2, o3, o4, o5, o6] [.int (Int32.ofInt 99), .int s1, .int s0] (V, T) Q) : E x F d 140 50 [o0, o1, o2, o3, o4, o5, o6] [.int s1, .int s0] (V, T) Q := by
  refine e_bipush zd140_50 (v := Int32.ofInt 99) (by decide +kernel) ?_
  exact e_goto zd140_52 (tg := 67) rfl k
theorem b140_55 {x : zXs} {F : zF} (hF : zSh F) {d : Nat} {V : Nat → Nat → Int32} {T : Nat → Nat → Int64} {Q : Option Value → zG → Prop} {o0 : Option Value} {l1 : Int32} {o2 : Option Value} {o3 : Option Value} {o4 : Option Value} {o5 : Option Value} {o6 : Option Value} {s0 : Int32} {s1 : Int32}   (kt : ¬ l1 = (Int32.ofInt 1) → E x F d 140 65 [o0, some (.int l1), o2, o3, o4, o5, o6] [.int s1, .int s0] (V, T) Q) (kf : ¬ (¬ l1 = (Int32.ofInt 1)) → E x F d 140 60 [o0, some (.int l1), o2, o3, o4, o5, o6] [.int s1, .int s0] (V, T) Q) : E x F d 140 55 [o0, some (.int l1), o2, o3, o4, o5, o6] [.int s1, .int s0] (V, T) Q := by
  refine e_iload_n zd140_55 rfl ?_
  refine e_iconst zd140_56 ?_
  exact e_icmp_ne zd140_57 (tg := 65) rfl kt kf
theorem b140_60 {x : zXs} {F : zF} (hF : zSh F) {d : Nat} {V : Nat → Nat → Int32} {T : Nat → Nat → Int64} {Q : Option Value → zG → Prop} {o0 : Option Value} {o1 : Option Value} {o2 : Option Value} {o3 : Option Value} {o4 : Option Value} {o5 : Option Value} {o6 : Option Value} {s0 : Int32} {s1 : Int32}   (k : E x F d 140 67 [o0, o1, o2, o3, o4, o5, o6] [.int (Int32.ofInt 100), .int s1, .int s0] (V, T) Q) : E x F d 140 60 [o0, o1, o2, o3, o4, o5, o6] [.int s1, .int s0] (V, T) Q := by
  refine e_bipush zd140_60 (v := Int32.ofInt 100) (by decide +kernel) ?_
  exact e_goto zd140_62 (tg := 67) rfl k
theorem b140_65 {x : zXs} {F : zF} (hF : zSh F) {d : Nat} {V : Nat → Nat → Int32} {T : Nat → Nat → Int64} {Q : Option Value → zG → Prop} {o0 : Option Value} {o1 : Option Value} {o2 : Option Value} {o3 : Option Value} {o4 : Option Value} {o5 : Option Value} {o6 : Option Value} {s0 : Int32} {s1 : Int32}   (k : E x F d 140 67 [o0, o1, o2, o3, o4, o5, o6] [.int (Int32.ofInt 9), .int s1, .int s0] (V, T) Q) : E x F d 140 65 [o0, o1, o2, o3, o4, o5, o6] [.int s1, .int s0] (V, T) Q := by
  refine e_bipush zd140_65 (v := Int32.ofInt 9) (by decide +kernel) ?_
  exact k
theorem b140_67 {x : zXs} {F : zF} (hF : zSh F) {d : Nat} {V : Nat → Nat → Int32} {T : Nat → Nat → Int64} {Q : Option Value → zG → Prop} {o0 : Option Value} {o1 : Option Value} {o2 : Option Value} {o3 : Option Value} {o4 : Option Value} {o5 : Option Value} {o6 : Option Value} {s0 : Int32} {s1 : Int32} {s2 : Int32}   (k : E x F d 157 0 [some (.int s0), some (.int s1), some (.int s2)] [] (V, T) (fun r G' => E x F (d + 1) 140 70 [o0, o1, o2, o3, o4, o5, o6] (r.toList ++ []) G' Q)) : E x F (d + 1) 140 67 [o0, o1, o2, o3, o4, o5, o6] [.int s2, .int s1, .int s0] (V, T) Q := by
  exact e_callS zd140_67 (own := 8) (nest := false) (w := 1115) (by decide +kernel) (by decide +kernel) zs157 (as := [.int s0, .int s1, .int s2]) (rest := []) rfl rfl (Nat.le_of_ble_eq_true rfl) rfl rfl rfl (by omega) k
theorem b140_70 {x : zXs} {F : zF} (hF : zSh F) {d : Nat} {V : Nat → Nat → Int32} {T : Nat → Nat → Int64} {Q : Option Value → zG → Prop} {o0 : Option Value} {o1 : Option Value} {o2 : Option Value} {o3 : Option Value} {o4 : Option Value} {o5 : Option Value} {o6 : Option Value} {s0 : Int32}   (k : Q (some (.int s0)) (V, T)) : E x F d 140 70 [o0, o1, o2, o3, o4, o5, o6] [.int s0] (V, T) Q := by
  exact e_ireti zd140_70 zs140 k
theorem zd141_0 : zop 141 0 = some (.aload_n 0, 1) := by decide +kernel
theorem zd141_1 : zop 141 1 = some (.sipush 160, 3) := by decide +kernel
theorem zd141_4 : zop 141 4 = some (.iload_n 1, 1) := by decide +kernel
theorem zd141_5 : zop 141 5 = some (.imul, 1) := by decide +kernel
theorem zd141_6 : zop 141 6 = some (.putfield 158, 3) := by decide +kernel
theorem zd141_9 : zop 141 9 = some (.aload_n 0, 1) := by decide +kernel
theorem zd141_10 : zop 141 10 = some (.aload_n 0, 1) := by decide +kernel
theorem zd141_11 : zop 141 11 = some (.getfield 17, 3) := by decide +kernel
theorem zd141_14 : zop 141 14 = some (.iload_n 1, 1) := by decide +kernel
theorem zd141_15 : zop 141 15 = some (.iaload, 1) := by decide +kernel
theorem zd141_16 : zop 141 16 = some (.putfield 155, 3) := by decide +kernel
theorem zd141_19 : zop 141 19 = some (.aload_n 0, 1) := by decide +kernel
theorem zd141_20 : zop 141 20 = some (.iconst 0, 1) := by decide +kernel
theorem zd141_21 : zop 141 21 = some (.putfield 161, 3) := by decide +kernel
theorem zd141_24 : zop 141 24 = some (.aload_n 0, 1) := by decide +kernel
theorem zd141_25 : zop 141 25 = some (.iconst 0, 1) := by decide +kernel
theorem zd141_26 : zop 141 26 = some (.putfield 196, 3) := by decide +kernel
theorem zd141_29 : zop 141 29 = some (.aload_n 0, 1) := by decide +kernel
theorem zd141_30 : zop 141 30 = some (.iconst 0, 1) := by decide +kernel
theorem zd141_31 : zop 141 31 = some (.putfield 185, 3) := by decide +kernel
theorem zd141_34 : zop 141 34 = some (.aload_n 0, 1) := by decide +kernel
theorem zd141_35 : zop 141 35 = some (.invokevirtual 202, 3) := by decide +kernel
theorem zd141_38 : zop 141 38 = some (.aload_n 0, 1) := by decide +kernel
theorem zd141_39 : zop 141 39 = some (.aload_n 0, 1) := by decide +kernel
theorem zd141_40 : zop 141 40 = some (.bipush 116, 2) := by decide +kernel
theorem zd141_42 : zop 141 42 = some (.bipush 97, 2) := by decide +kernel
theorem zd141_44 : zop 141 44 = some (.bipush 107, 2) := by decide +kernel
theorem zd141_46 : zop 141 46 = some (.bipush 101, 2) := by decide +kernel
theorem zd141_48 : zop 141 48 = some (.bipush 115, 2) := by decide +kernel
theorem zd141_50 : zop 141 50 = some (.iconst 0, 1) := by decide +kernel
theorem zd141_51 : zop 141 51 = some (.iconst 0, 1) := by decide +kernel
theorem zd141_52 : zop 141 52 = some (.iconst 0, 1) := by decide +kernel
theorem zd141_53 : zop 141 53 = some (.invokevirtual 205, 3) := by decide +kernel
theorem zd141_56 : zop 141 56 = some (.invokevirtual 260, 3) := by decide +kernel
theorem zd141_59 : zop 141 59 = some (.istore_n 3, 1) := by decide +kernel
theorem zd141_60 : zop 141 60 = some (.aload_n 0, 1) := by decide +kernel
theorem zd141_61 : zop 141 61 = some (.getfield 185, 3) := by decide +kernel
theorem zd141_64 : zop 141 64 = some (.ifCond .eq 7, 3) := by decide +kernel
theorem zd141_67 : zop 141 67 = some (.iconst 0, 1) := by decide +kernel
theorem zd141_68 : zop 141 68 = some (.goto 24, 3) := by decide +kernel
theorem zd141_71 : zop 141 71 = some (.aload_n 0, 1) := by decide +kernel
theorem zd141_72 : zop 141 72 = some (.aload_n 0, 1) := by decide +kernel
theorem zd141_73 : zop 141 73 = some (.bipush 107, 2) := by decide +kernel
theorem zd141_75 : zop 141 75 = some (.bipush 101, 2) := by decide +kernel
theorem zd141_77 : zop 141 77 = some (.bipush 101, 2) := by decide +kernel
theorem zd141_79 : zop 141 79 = some (.bipush 112, 2) := by decide +kernel
theorem zd141_81 : zop 141 81 = some (.bipush 115, 2) := by decide +kernel
theorem zd141_83 : zop 141 83 = some (.iconst 0, 1) := by decide +kernel
theorem zd141_84 : zop 141 84 = some (.iconst 0, 1) := by decide +kernel
theorem zd141_85 : zop 141 85 = some (.iconst 0, 1) := by decide +kernel
theorem zd141_86 : zop 141 86 = some (.invokevirtual 205, 3) := by decide +kernel
theorem zd141_89 : zop 141 89 = some (.invokevirtual 260, 3) := by decide +kernel
theorem zd141_92 : zop 141 92 = some (.istore 4, 2) := by decide +kernel
theorem zd141_94 : zop 141 94 = some (.aload_n 0, 1) := by decide +kernel
theorem zd141_95 : zop 141 95 = some (.getfield 185, 3) := by decide +kernel
theorem zd141_98 : zop 141 98 = some (.ifCond .eq 7, 3) := by decide +kernel
theorem zd141_101 : zop 141 101 = some (.iconst 0, 1) := by decide +kernel
theorem zd141_102 : zop 141 102 = some (.goto 25, 3) := by decide +kernel
theorem zd141_105 : zop 141 105 = some (.aload_n 0, 1) := by decide +kernel
theorem zd141_106 : zop 141 106 = some (.aload_n 0, 1) := by decide +kernel
theorem zd141_107 : zop 141 107 = some (.bipush 115, 2) := by decide +kernel
theorem zd141_109 : zop 141 109 = some (.bipush 104, 2) := by decide +kernel
theorem zd141_111 : zop 141 111 = some (.bipush 97, 2) := by decide +kernel
theorem zd141_113 : zop 141 113 = some (.bipush 107, 2) := by decide +kernel
theorem zd141_115 : zop 141 115 = some (.bipush 101, 2) := by decide +kernel
theorem zd141_117 : zop 141 117 = some (.bipush 115, 2) := by decide +kernel
theorem zd141_119 : zop 141 119 = some (.iconst 0, 1) := by decide +kernel
theorem zd141_120 : zop 141 120 = some (.iconst 0, 1) := by decide +kernel
theorem zd141_121 : zop 141 121 = some (.invokevirtual 205, 3) := by decide +kernel
theorem zd141_124 : zop 141 124 = some (.invokevirtual 260, 3) := by decide +kernel
theorem zd141_127 : zop 141 127 = some (.istore 5, 2) := by decide +kernel
theorem zd141_129 : zop 141 129 = some (.aload_n 0, 1) := by decide +kernel
theorem zd141_130 : zop 141 130 = some (.getfield 185, 3) := by decide +kernel
theorem zd141_133 : zop 141 133 = some (.ifCond .ne 14, 3) := by decide +kernel
theorem zd141_136 : zop 141 136 = some (.aload_n 0, 1) := by decide +kernel
theorem zd141_137 : zop 141 137 = some (.getfield 170, 3) := by decide +kernel
theorem zd141_140 : zop 141 140 = some (.ifCond .eq 7, 3) := by decide +kernel
theorem zd141_143 : zop 141 143 = some (.aload_n 0, 1) := by decide +kernel
theorem zd141_144 : zop 141 144 = some (.invokevirtual 199, 3) := by decide +kernel
theorem zd141_147 : zop 141 147 = some (.iload_n 2, 1) := by decide +kernel
theorem zd141_148 : zop 141 148 = some (.ifCond .ne 7, 3) := by decide +kernel
theorem zd141_151 : zop 141 151 = some (.iload_n 3, 1) := by decide +kernel
theorem zd141_152 : zop 141 152 = some (.goto 15, 3) := by decide +kernel
theorem zd141_155 : zop 141 155 = some (.iload_n 2, 1) := by decide +kernel
theorem zd141_156 : zop 141 156 = some (.iconst 1, 1) := by decide +kernel
theorem zd141_157 : zop 141 157 = some (.if_icmp .ne 8, 3) := by decide +kernel
theorem zd141_160 : zop 141 160 = some (.iload 4, 2) := by decide +kernel
theorem zd141_162 : zop 141 162 = some (.goto 5, 3) := by decide +kernel
theorem zd141_165 : zop 141 165 = some (.iload 5, 2) := by decide +kernel
theorem zd141_167 : zop 141 167 = some (.ireturn, 1) := by decide +kernel
theorem b141_0 {x : zXs} {F : zF} (hF : zSh F) {d : Nat} {V : Nat → Nat → Int32} {T : Nat → Nat → Int64} {Q : Option Value → zG → Prop} {l1 : Int32} {o2 : Option Value} {o3 : Option Value} {o4 : Option Value} {o5 : Option Value}  {i1 : Nat} (e1 : l1 = nI i1) (h1 : i1 < 6) (k : E x F d 142 0 [some (.ref 59), none, none] [] (zu (zu (zu (zu (zu V 59 19 ((Int32.ofInt 160) * l1)) 59 20 ((zu V 59 19 ((Int32.ofInt 160) * l1)) 61 i1)) 59 21 (Int32.ofInt 0)) 59 25 (Int32.ofInt 0)) 59 26 (Int32.ofInt 0), T) (fun r G' => E x F (d + 1) 141 38 [some (.ref 59), some (.int l1), o2, o3, o4, o5] (r.toList ++ []) G' Q)) : E x F (d + 1) 141 0 [some (.ref 59), some (.int l1), o2, o3, o4, o5] [] (V, T) Q := by
  refine e_aload_n zd141_0 rfl rfl ?_
  refine e_sipush zd141_1 (v := Int32.ofInt 160) (by decide +kernel) ?_
  refine e_iload_n zd141_4 rfl ?_
  refine e_imul zd141_5 ?_
  refine e_putI zd141_6 (own := 8) (ci := 8) (kf := 19) (w := 877) (by decide +kernel) (by decide +kernel) (zsh_at hF rfl).1 (by decide +kernel) rfl ?_
  refine e_aload_n zd141_9 rfl rfl ?_
  refine e_aload_n zd141_10 rfl rfl ?_
  refine e_getA zd141_11 (own := 8) (ci := 8) (kf := 2) (w := 860) (by decide +kernel) (by decide +kernel) (zsh_at hF rfl).1 (by decide +kernel) rfl (zrf_at hF (i := 60) rfl) ?_
  refine e_iload_n zd141_14 rfl ?_
  refine e_iald zd141_15 (i := i1) (zsh_at hF rfl) e1 h1 (by omega) ?_
  refine e_putI zd141_16 (own := 8) (ci := 8) (kf := 20) (w := 878) (by decide +kernel) (by decide +kernel) (zsh_at hF rfl).1 (by decide +kernel) rfl ?_
  refine e_aload_n zd141_19 rfl rfl ?_
  refine e_iconst zd141_20 ?_
  refine e_putI zd141_21 (own := 8) (ci := 8) (kf := 21) (w := 879) (by decide +kernel) (by decide +kernel) (zsh_at hF rfl).1 (by decide +kernel) rfl ?_
  refine e_aload_n zd141_24 rfl rfl ?_
  refine e_iconst zd141_25 ?_
  refine e_putI zd141_26 (own := 8) (ci := 8) (kf := 25) (w := 883) (by decide +kernel) (by decide +kernel) (zsh_at hF rfl).1 (by decide +kernel) rfl ?_
  refine e_aload_n zd141_29 rfl rfl ?_
  refine e_iconst zd141_30 ?_
  refine e_putZ zd141_31 (own := 8) (ci := 8) (kf := 26) (w := 884) (by decide +kernel) (by decide +kernel) (zsh_at hF rfl).1 (by decide +kernel) rfl (by decide +kernel) ?_
  refine e_aload_n zd141_34 rfl rfl ?_
  exact e_callV zd141_35 (own := 8) (nest := false) (w := 1049) (by decide +kernel) (by decide +kernel) zs142 (as := []) (rest := []) rfl rfl (zsh_at hF rfl).1 (by omega) (Nat.le_of_ble_eq_true rfl) rfl rfl rfl (by omega) k
theorem b141_38 {x : zXs} {F : zF} (hF : zSh F) {d : Nat} {V : Nat → Nat → Int32} {T : Nat → Nat → Int64} {Q : Option Value → zG → Prop} {o1 : Option Value} {o2 : Option Value} {o3 : Option Value} {o4 : Option Value} {o5 : Option Value}   (k : E x F d 144 0 [some (.ref 59), some (.int (Int32.ofInt 116)), some (.int (Int32.ofInt 97)), some (.int (Int32.ofInt 107)), some (.int (Int32.ofInt 101)), some (.int (Int32.ofInt 115)), some (.int (Int32.ofInt 0)), some (.int (Int32.ofInt 0)), some (.int (Int32.ofInt 0))] [] (V, T) (fun r G' => E x F (d + 1) 141 56 [some (.ref 59), o1, o2, o3, o4, o5] (r.toList ++ [.ref 59]) G' Q)) : E x F (d + 1) 141 38 [some (.ref 59), o1, o2, o3, o4, o5] [] (V, T) Q := by
  refine e_aload_n zd141_38 rfl rfl ?_
  refine e_aload_n zd141_39 rfl rfl ?_
  refine e_bipush zd141_40 (v := Int32.ofInt 116) (by decide +kernel) ?_
  refine e_bipush zd141_42 (v := Int32.ofInt 97) (by decide +kernel) ?_
  refine e_bipush zd141_44 (v := Int32.ofInt 107) (by decide +kernel) ?_
  refine e_bipush zd141_46 (v := Int32.ofInt 101) (by decide +kernel) ?_
  refine e_bipush zd141_48 (v := Int32.ofInt 115) (by decide +kernel) ?_
  refine e_iconst zd141_50 ?_
  refine e_iconst zd141_51 ?_
  refine e_iconst zd141_52 ?_
  exact e_callV zd141_53 (own := 8) (nest := false) (w := 1061) (by decide +kernel) (by decide +kernel) zs144 (as := [.int (Int32.ofInt 116), .int (Int32.ofInt 97), .int (Int32.ofInt 107), .int (Int32.ofInt 101), .int (Int32.ofInt 115), .int (Int32.ofInt 0), .int (Int32.ofInt 0), .int (Int32.ofInt 0)]) (rest := [.ref 59]) rfl rfl (zsh_at hF rfl).1 (by omega) (Nat.le_of_ble_eq_true rfl) rfl rfl rfl (by omega) k
theorem b141_56 {x : zXs} {F : zF} (hF : zSh F) {d : Nat} {V : Nat → Nat → Int32} {T : Nat → Nat → Int64} {Q : Option Value → zG → Prop} {o0 : Option Value} {o1 : Option Value} {o2 : Option Value} {o3 : Option Value} {o4 : Option Value} {o5 : Option Value} {s1 : Int32}   (k : E x F d 146 0 [some (.ref 59), some (.int s1), none] [] (V, T) (fun r G' => E x F (d + 1) 141 59 [o0, o1, o2, o3, o4, o5] (r.toList ++ []) G' Q)) : E x F (d + 1) 141 56 [o0, o1, o2, o3, o4, o5] [.int s1, .ref 59] (V, T) Q := by
  exact e_callV zd141_56 (own := 8) (nest := false) (w := 1069) (by decide +kernel) (by decide +kernel) zs146 (as := [.int s1]) (rest := []) rfl rfl (zsh_at hF rfl).1 (by omega) (Nat.le_of_ble_eq_true rfl) rfl rfl rfl (by omega) k
theorem b141_59 {x : zXs} {F : zF} (hF : zSh F) {d : Nat} {V : Nat → Nat → Int32} {T : Nat → Nat → Int64} {Q : Option Value → zG → Prop} {o1 : Option Value} {o2 : Option Value} {o3 : Option Value} {o4 : Option Value} {o5 : Option Value} {s0 : Int32}   (kt : (V 59 26) = 0 → E x F d 141 71 [some (.ref 59), o1, o2, some (.int s0), o4, o5] [] (V, T) Q) (kf : ¬ ((V 59 26) = 0) → E x F d 141 67 [some (.ref 59), o1, o2, some (.int s0), o4, o5] [] (V, T) Q) : E x F d 141 59 [some (.ref 59), o1, o2, o3, o4, o5] [.int s0] (V, T) Q := by
  refine e_istore_n zd141_59 (by decide +kernel) (Nat.le_of_ble_eq_true rfl) ?_
  refine e_aload_n zd141_60 rfl rfl ?_
  refine e_getZ zd141_61 (own := 8) (ci := 8) (kf := 26) (w := 884) (by decide +kernel) (by decide +kernel) (zsh_at hF rfl).1 (by decide +kernel) rfl ?_
  exact e_if_eq zd141_64 (tg := 71) rfl kt kf
theorem b141_67 {x : zXs} {F : zF} (hF : zSh F) {d : Nat} {V : Nat → Nat → Int32} {T : Nat → Nat → Int64} {Q : Option Value → zG → Prop} {o0 : Option Value} {o1 : Option Value} {o2 : Option Value} {o3 : Option Value} {o4 : Option Value} {o5 : Option Value}   (k : E x F d 141 92 [o0, o1, o2, o3, o4, o5] [.int (Int32.ofInt 0)] (V, T) Q) : E x F d 141 67 [o0, o1, o2, o3, o4, o5] [] (V, T) Q := by
  refine e_iconst zd141_67 ?_
  exact e_goto zd141_68 (tg := 92) rfl k
theorem b141_71 {x : zXs} {F : zF} (hF : zSh F) {d : Nat} {V : Nat → Nat → Int32} {T : Nat → Nat → Int64} {Q : Option Value → zG → Prop} {o1 : Option Value} {o2 : Option Value} {o3 : Option Value} {o4 : Option Value} {o5 : Option Value}   (k : E x F d 144 0 [some (.ref 59), some (.int (Int32.ofInt 107)), some (.int (Int32.ofInt 101)), some (.int (Int32.ofInt 101)), some (.int (Int32.ofInt 112)), some (.int (Int32.ofInt 115)), some (.int (Int32.ofInt 0)), some (.int (Int32.ofInt 0)), some (.int (Int32.ofInt 0))] [] (V, T) (fun r G' => E x F (d + 1) 141 89 [some (.ref 59), o1, o2, o3, o4, o5] (r.toList ++ [.ref 59]) G' Q)) : E x F (d + 1) 141 71 [some (.ref 59), o1, o2, o3, o4, o5] [] (V, T) Q := by
  refine e_aload_n zd141_71 rfl rfl ?_
  refine e_aload_n zd141_72 rfl rfl ?_
  refine e_bipush zd141_73 (v := Int32.ofInt 107) (by decide +kernel) ?_
  refine e_bipush zd141_75 (v := Int32.ofInt 101) (by decide +kernel) ?_
  refine e_bipush zd141_77 (v := Int32.ofInt 101) (by decide +kernel) ?_
  refine e_bipush zd141_79 (v := Int32.ofInt 112) (by decide +kernel) ?_
  refine e_bipush zd141_81 (v := Int32.ofInt 115) (by decide +kernel) ?_
  refine e_iconst zd141_83 ?_
  refine e_iconst zd141_84 ?_
  refine e_iconst zd141_85 ?_
  exact e_callV zd141_86 (own := 8) (nest := false) (w := 1061) (by decide +kernel) (by decide +kernel) zs144 (as := [.int (Int32.ofInt 107), .int (Int32.ofInt 101), .int (Int32.ofInt 101), .int (Int32.ofInt 112), .int (Int32.ofInt 115), .int (Int32.ofInt 0), .int (Int32.ofInt 0), .int (Int32.ofInt 0)]) (rest := [.ref 59]) rfl rfl (zsh_at hF rfl).1 (by omega) (Nat.le_of_ble_eq_true rfl) rfl rfl rfl (by omega) k
theorem b141_89 {x : zXs} {F : zF} (hF : zSh F) {d : Nat} {V : Nat → Nat → Int32} {T : Nat → Nat → Int64} {Q : Option Value → zG → Prop} {o0 : Option Value} {o1 : Option Value} {o2 : Option Value} {o3 : Option Value} {o4 : Option Value} {o5 : Option Value} {s1 : Int32}   (k : E x F d 146 0 [some (.ref 59), some (.int s1), none] [] (V, T) (fun r G' => E x F (d + 1) 141 92 [o0, o1, o2, o3, o4, o5] (r.toList ++ []) G' Q)) : E x F (d + 1) 141 89 [o0, o1, o2, o3, o4, o5] [.int s1, .ref 59] (V, T) Q := by
  exact e_callV zd141_89 (own := 8) (nest := false) (w := 1069) (by decide +kernel) (by decide +kernel) zs146 (as := [.int s1]) (rest := []) rfl rfl (zsh_at hF rfl).1 (by omega) (Nat.le_of_ble_eq_true rfl) rfl rfl rfl (by omega) k
theorem b141_92 {x : zXs} {F : zF} (hF : zSh F) {d : Nat} {V : Nat → Nat → Int32} {T : Nat → Nat → Int64} {Q : Option Value → zG → Prop} {o1 : Option Value} {o2 : Option Value} {o3 : Option Value} {o4 : Option Value} {o5 : Option Value} {s0 : Int32}   (kt : (V 59 26) = 0 → E x F d 141 105 [some (.ref 59), o1, o2, o3, some (.int s0), o5] [] (V, T) Q) (kf : ¬ ((V 59 26) = 0) → E x F d 141 101 [some (.ref 59), o1, o2, o3, some (.int s0), o5] [] (V, T) Q) : E x F d 141 92 [some (.ref 59), o1, o2, o3, o4, o5] [.int s0] (V, T) Q := by
  refine e_istore zd141_92 (by decide +kernel) (Nat.le_of_ble_eq_true rfl) ?_
  refine e_aload_n zd141_94 rfl rfl ?_
  refine e_getZ zd141_95 (own := 8) (ci := 8) (kf := 26) (w := 884) (by decide +kernel) (by decide +kernel) (zsh_at hF rfl).1 (by decide +kernel) rfl ?_
  exact e_if_eq zd141_98 (tg := 105) rfl kt kf
theorem b141_101 {x : zXs} {F : zF} (hF : zSh F) {d : Nat} {V : Nat → Nat → Int32} {T : Nat → Nat → Int64} {Q : Option Value → zG → Prop} {o0 : Option Value} {o1 : Option Value} {o2 : Option Value} {o3 : Option Value} {o4 : Option Value} {o5 : Option Value}   (k : E x F d 141 127 [o0, o1, o2, o3, o4, o5] [.int (Int32.ofInt 0)] (V, T) Q) : E x F d 141 101 [o0, o1, o2, o3, o4, o5] [] (V, T) Q := by
  refine e_iconst zd141_101 ?_
  exact e_goto zd141_102 (tg := 127) rfl k
theorem b141_105 {x : zXs} {F : zF} (hF : zSh F) {d : Nat} {V : Nat → Nat → Int32} {T : Nat → Nat → Int64} {Q : Option Value → zG → Prop} {o1 : Option Value} {o2 : Option Value} {o3 : Option Value} {o4 : Option Value} {o5 : Option Value}   (k : E x F d 144 0 [some (.ref 59), some (.int (Int32.ofInt 115)), some (.int (Int32.ofInt 104)), some (.int (Int32.ofInt 97)), some (.int (Int32.ofInt 107)), some (.int (Int32.ofInt 101)), some (.int (Int32.ofInt 115)), some (.int (Int32.ofInt 0)), some (.int (Int32.ofInt 0))] [] (V, T) (fun r G' => E x F (d + 1) 141 124 [some (.ref 59), o1, o2, o3, o4, o5] (r.toList ++ [.ref 59]) G' Q)) : E x F (d + 1) 141 105 [some (.ref 59), o1, o2, o3, o4, o5] [] (V, T) Q := by
  refine e_aload_n zd141_105 rfl rfl ?_
  refine e_aload_n zd141_106 rfl rfl ?_
  refine e_bipush zd141_107 (v := Int32.ofInt 115) (by decide +kernel) ?_
  refine e_bipush zd141_109 (v := Int32.ofInt 104) (by decide +kernel) ?_
  refine e_bipush zd141_111 (v := Int32.ofInt 97) (by decide +kernel) ?_
  refine e_bipush zd141_113 (v := Int32.ofInt 107) (by decide +kernel) ?_
  refine e_bipush zd141_115 (v := Int32.ofInt 101) (by decide +kernel) ?_
  refine e_bipush zd141_117 (v := Int32.ofInt 115) (by decide +kernel) ?_
  refine e_iconst zd141_119 ?_
  refine e_iconst zd141_120 ?_
  exact e_callV zd141_121 (own := 8) (nest := false) (w := 1061) (by decide +kernel) (by decide +kernel) zs144 (as := [.int (Int32.ofInt 115), .int (Int32.ofInt 104), .int (Int32.ofInt 97), .int (Int32.ofInt 107), .int (Int32.ofInt 101), .int (Int32.ofInt 115), .int (Int32.ofInt 0), .int (Int32.ofInt 0)]) (rest := [.ref 59]) rfl rfl (zsh_at hF rfl).1 (by omega) (Nat.le_of_ble_eq_true rfl) rfl rfl rfl (by omega) k
theorem b141_124 {x : zXs} {F : zF} (hF : zSh F) {d : Nat} {V : Nat → Nat → Int32} {T : Nat → Nat → Int64} {Q : Option Value → zG → Prop} {o0 : Option Value} {o1 : Option Value} {o2 : Option Value} {o3 : Option Value} {o4 : Option Value} {o5 : Option Value} {s1 : Int32}   (k : E x F d 146 0 [some (.ref 59), some (.int s1), none] [] (V, T) (fun r G' => E x F (d + 1) 141 127 [o0, o1, o2, o3, o4, o5] (r.toList ++ []) G' Q)) : E x F (d + 1) 141 124 [o0, o1, o2, o3, o4, o5] [.int s1, .ref 59] (V, T) Q := by
  exact e_callV zd141_124 (own := 8) (nest := false) (w := 1069) (by decide +kernel) (by decide +kernel) zs146 (as := [.int s1]) (rest := []) rfl rfl (zsh_at hF rfl).1 (by omega) (Nat.le_of_ble_eq_true rfl) rfl rfl rfl (by omega) k
theorem b141_127 {x : zXs} {F : zF} (hF : zSh F) {d : Nat} {V : Nat → Nat → Int32} {T : Nat → Nat → Int64} {Q : Option Value → zG → Prop} {o1 : Option Value} {o2 : Option Value} {o3 : Option Value} {o4 : Option Value} {o5 : Option Value} {s0 : Int32}   (kt : ¬ (V 59 26) = 0 → E x F d 141 147 [some (.ref 59), o1, o2, o3, o4, some (.int s0)] [] (V, T) Q) (kf : ¬ (¬ (V 59 26) = 0) → E x F d 141 136 [some (.ref 59), o1, o2, o3, o4, some (.int s0)] [] (V, T) Q) : E x F d 141 127 [some (.ref 59), o1, o2, o3, o4, o5] [.int s0] (V, T) Q := by
  refine e_istore zd141_127 (by decide +kernel) (Nat.le_of_ble_eq_true rfl) ?_
  refine e_aload_n zd141_129 rfl rfl ?_
  refine e_getZ zd141_130 (own := 8) (ci := 8) (kf := 26) (w := 884) (by decide +kernel) (by decide +kernel) (zsh_at hF rfl).1 (by decide +kernel) rfl ?_
  exact e_if_ne zd141_133 (tg := 147) rfl kt kf
theorem b141_136 {x : zXs} {F : zF} (hF : zSh F) {d : Nat} {V : Nat → Nat → Int32} {T : Nat → Nat → Int64} {Q : Option Value → zG → Prop} {o1 : Option Value} {o2 : Option Value} {o3 : Option Value} {o4 : Option Value} {o5 : Option Value}   (kt : (V 59 22) = 0 → E x F d 141 147 [some (.ref 59), o1, o2, o3, o4, o5] [] (V, T) Q) (kf : ¬ ((V 59 22) = 0) → E x F d 141 143 [some (.ref 59), o1, o2, o3, o4, o5] [] (V, T) Q) : E x F d 141 136 [some (.ref 59), o1, o2, o3, o4, o5] [] (V, T) Q := by
  refine e_aload_n zd141_136 rfl rfl ?_
  refine e_getI zd141_137 (own := 8) (ci := 8) (kf := 22) (w := 880) (by decide +kernel) (by decide +kernel) (zsh_at hF rfl).1 (by decide +kernel) rfl ?_
  exact e_if_eq zd141_140 (tg := 147) rfl kt kf
theorem b141_143 {x : zXs} {F : zF} (hF : zSh F) {d : Nat} {V : Nat → Nat → Int32} {T : Nat → Nat → Int64} {Q : Option Value → zG → Prop} {o1 : Option Value} {o2 : Option Value} {o3 : Option Value} {o4 : Option Value} {o5 : Option Value}   (k : E x F d 147 0 [some (.ref 59)] [] (V, T) (fun r G' => E x F (d + 1) 141 147 [some (.ref 59), o1, o2, o3, o4, o5] (r.toList ++ []) G' Q)) : E x F (d + 1) 141 143 [some (.ref 59), o1, o2, o3, o4, o5] [] (V, T) Q := by
  refine e_aload_n zd141_143 rfl rfl ?_
  exact e_callV zd141_144 (own := 8) (nest := false) (w := 1073) (by decide +kernel) (by decide +kernel) zs147 (as := []) (rest := []) rfl rfl (zsh_at hF rfl).1 (by omega) (Nat.le_of_ble_eq_true rfl) rfl rfl rfl (by omega) k
theorem b141_147 {x : zXs} {F : zF} (hF : zSh F) {d : Nat} {V : Nat → Nat → Int32} {T : Nat → Nat → Int64} {Q : Option Value → zG → Prop} {o0 : Option Value} {o1 : Option Value} {l2 : Int32} {o3 : Option Value} {o4 : Option Value} {o5 : Option Value}   (kt : ¬ l2 = 0 → E x F d 141 155 [o0, o1, some (.int l2), o3, o4, o5] [] (V, T) Q) (kf : ¬ (¬ l2 = 0) → E x F d 141 151 [o0, o1, some (.int l2), o3, o4, o5] [] (V, T) Q) : E x F d 141 147 [o0, o1, some (.int l2), o3, o4, o5] [] (V, T) Q := by
  refine e_iload_n zd141_147 rfl ?_
  exact e_if_ne zd141_148 (tg := 155) rfl kt kf
theorem b141_151 {x : zXs} {F : zF} (hF : zSh F) {d : Nat} {V : Nat → Nat → Int32} {T : Nat → Nat → Int64} {Q : Option Value → zG → Prop} {o0 : Option Value} {o1 : Option Value} {o2 : Option Value} {l3 : Int32} {o4 : Option Value} {o5 : Option Value}   (k : E x F d 141 167 [o0, o1, o2, some (.int l3), o4, o5] [.int l3] (V, T) Q) : E x F d 141 151 [o0, o1, o2, some (.int l3), o4, o5] [] (V, T) Q := by
  refine e_iload_n zd141_151 rfl ?_
  exact e_goto zd141_152 (tg := 167) rfl k
theorem b141_155 {x : zXs} {F : zF} (hF : zSh F) {d : Nat} {V : Nat → Nat → Int32} {T : Nat → Nat → Int64} {Q : Option Value → zG → Prop} {o0 : Option Value} {o1 : Option Value} {l2 : Int32} {o3 : Option Value} {o4 : Option Value} {o5 : Option Value}   (kt : ¬ l2 = (Int32.ofInt 1) → E x F d 141 165 [o0, o1, some (.int l2), o3, o4, o5] [] (V, T) Q) (kf : ¬ (¬ l2 = (Int32.ofInt 1)) → E x F d 141 160 [o0, o1, some (.int l2), o3, o4, o5] [] (V, T) Q) : E x F d 141 155 [o0, o1, some (.int l2), o3, o4, o5] [] (V, T) Q := by
  refine e_iload_n zd141_155 rfl ?_
  refine e_iconst zd141_156 ?_
  exact e_icmp_ne zd141_157 (tg := 165) rfl kt kf
theorem b141_160 {x : zXs} {F : zF} (hF : zSh F) {d : Nat} {V : Nat → Nat → Int32} {T : Nat → Nat → Int64} {Q : Option Value → zG → Prop} {o0 : Option Value} {o1 : Option Value} {o2 : Option Value} {o3 : Option Value} {l4 : Int32} {o5 : Option Value}   (k : E x F d 141 167 [o0, o1, o2, o3, some (.int l4), o5] [.int l4] (V, T) Q) : E x F d 141 160 [o0, o1, o2, o3, some (.int l4), o5] [] (V, T) Q := by
  refine e_iload zd141_160 rfl ?_
  exact e_goto zd141_162 (tg := 167) rfl k
theorem b141_165 {x : zXs} {F : zF} (hF : zSh F) {d : Nat} {V : Nat → Nat → Int32} {T : Nat → Nat → Int64} {Q : Option Value → zG → Prop} {o0 : Option Value} {o1 : Option Value} {o2 : Option Value} {o3 : Option Value} {o4 : Option Value} {l5 : Int32}   (k : E x F d 141 167 [o0, o1, o2, o3, o4, some (.int l5)] [.int l5] (V, T) Q) : E x F d 141 165 [o0, o1, o2, o3, o4, some (.int l5)] [] (V, T) Q := by
  refine e_iload zd141_165 rfl ?_
  exact k
theorem b141_167 {x : zXs} {F : zF} (hF : zSh F) {d : Nat} {V : Nat → Nat → Int32} {T : Nat → Nat → Int64} {Q : Option Value → zG → Prop} {o0 : Option Value} {o1 : Option Value} {o2 : Option Value} {o3 : Option Value} {o4 : Option Value} {o5 : Option Value} {s0 : Int32}   (k : Q (some (.int s0)) (V, T)) : E x F d 141 167 [o0, o1, o2, o3, o4, o5] [.int s0] (V, T) Q := by
  exact e_ireti zd141_167 zs141 k
theorem zd142_0 : zop 142 0 = some (.aload_n 0, 1) := by decide +kernel
theorem zd142_1 : zop 142 1 = some (.aload_n 0, 1) := by decide +kernel
theorem zd142_2 : zop 142 2 = some (.getfield 161, 3) := by decide +kernel
theorem zd142_5 : zop 142 5 = some (.invokevirtual 164, 3) := by decide +kernel
theorem zd142_8 : zop 142 8 = some (.bipush 32, 2) := by decide +kernel
theorem zd142_10 : zop 142 10 = some (.if_icmp .eq 16, 3) := by decide +kernel
theorem zd142_13 : zop 142 13 = some (.aload_n 0, 1) := by decide +kernel
theorem zd142_14 : zop 142 14 = some (.aload_n 0, 1) := by decide +kernel
theorem zd142_15 : zop 142 15 = some (.getfield 161, 3) := by decide +kernel
theorem zd142_18 : zop 142 18 = some (.invokevirtual 164, 3) := by decide +kernel
theorem zd142_21 : zop 142 21 = some (.bipush 10, 2) := by decide +kernel
theorem zd142_23 : zop 142 23 = some (.if_icmp .ne 16, 3) := by decide +kernel
theorem zd142_26 : zop 142 26 = some (.aload_n 0, 1) := by decide +kernel
theorem zd142_27 : zop 142 27 = some (.dup, 1) := by decide +kernel
theorem zd142_28 : zop 142 28 = some (.getfield 161, 3) := by decide +kernel
theorem zd142_31 : zop 142 31 = some (.iconst 1, 1) := by decide +kernel
theorem zd142_32 : zop 142 32 = some (.iadd, 1) := by decide +kernel
theorem zd142_33 : zop 142 33 = some (.putfield 161, 3) := by decide +kernel
theorem zd142_36 : zop 142 36 = some (.goto (-36), 3) := by decide +kernel
theorem zd142_39 : zop 142 39 = some (.aload_n 0, 1) := by decide +kernel
theorem zd142_40 : zop 142 40 = some (.aload_n 0, 1) := by decide +kernel
theorem zd142_41 : zop 142 41 = some (.getfield 161, 3) := by decide +kernel
theorem zd142_44 : zop 142 44 = some (.putfield 167, 3) := by decide +kernel
theorem zd142_47 : zop 142 47 = some (.aload_n 0, 1) := by decide +kernel
theorem zd142_48 : zop 142 48 = some (.aload_n 0, 1) := by decide +kernel
theorem zd142_49 : zop 142 49 = some (.getfield 161, 3) := by decide +kernel
theorem zd142_52 : zop 142 52 = some (.invokevirtual 164, 3) := by decide +kernel
theorem zd142_55 : zop 142 55 = some (.istore_n 1, 1) := by decide +kernel
theorem zd142_56 : zop 142 56 = some (.aload_n 0, 1) := by decide +kernel
theorem zd142_57 : zop 142 57 = some (.iconst 4, 1) := by decide +kernel
theorem zd142_58 : zop 142 58 = some (.putfield 170, 3) := by decide +kernel
theorem zd142_61 : zop 142 61 = some (.iload_n 1, 1) := by decide +kernel
theorem zd142_62 : zop 142 62 = some (.ifCond .ge 19, 3) := by decide +kernel
theorem zd142_65 : zop 142 65 = some (.aload_n 0, 1) := by decide +kernel
theorem zd142_66 : zop 142 66 = some (.iconst 0, 1) := by decide +kernel
theorem zd142_67 : zop 142 67 = some (.putfield 170, 3) := by decide +kernel
theorem zd142_70 : zop 142 70 = some (.aload_n 0, 1) := by decide +kernel
theorem zd142_71 : zop 142 71 = some (.aload_n 0, 1) := by decide +kernel
theorem zd142_72 : zop 142 72 = some (.getfield 155, 3) := by decide +kernel
theorem zd142_75 : zop 142 75 = some (.putfield 167, 3) := by decide +kernel
theorem zd142_78 : zop 142 78 = some (.goto 243, 3) := by decide +kernel
theorem zd142_81 : zop 142 81 = some (.iload_n 1, 1) := by decide +kernel
theorem zd142_82 : zop 142 82 = some (.i2l, 1) := by decide +kernel
theorem zd142_83 : zop 142 83 = some (.ldc2_w 173, 3) := by decide +kernel
theorem zd142_86 : zop 142 86 = some (.ldc2_w 175, 3) := by decide +kernel
theorem zd142_89 : zop 142 89 = some (.invokestatic 91, 3) := by decide +kernel
theorem zd142_92 : zop 142 92 = some (.ifCond .eq 42, 3) := by decide +kernel
theorem zd142_95 : zop 142 95 = some (.aload_n 0, 1) := by decide +kernel
theorem zd142_96 : zop 142 96 = some (.iconst 1, 1) := by decide +kernel
theorem zd142_97 : zop 142 97 = some (.putfield 170, 3) := by decide +kernel
theorem zd142_100 : zop 142 100 = some (.aload_n 0, 1) := by decide +kernel
theorem zd142_101 : zop 142 101 = some (.aload_n 0, 1) := by decide +kernel
theorem zd142_102 : zop 142 102 = some (.getfield 161, 3) := by decide +kernel
theorem zd142_105 : zop 142 105 = some (.invokevirtual 164, 3) := by decide +kernel
theorem zd142_108 : zop 142 108 = some (.i2l, 1) := by decide +kernel
theorem zd142_109 : zop 142 109 = some (.ldc2_w 173, 3) := by decide +kernel
theorem zd142_112 : zop 142 112 = some (.ldc2_w 175, 3) := by decide +kernel
theorem zd142_115 : zop 142 115 = some (.invokestatic 91, 3) := by decide +kernel
theorem zd142_118 : zop 142 118 = some (.ifCond .eq 203, 3) := by decide +kernel
theorem zd142_121 : zop 142 121 = some (.aload_n 0, 1) := by decide +kernel
theorem zd142_122 : zop 142 122 = some (.dup, 1) := by decide +kernel
theorem zd142_123 : zop 142 123 = some (.getfield 161, 3) := by decide +kernel
theorem zd142_126 : zop 142 126 = some (.iconst 1, 1) := by decide +kernel
theorem zd142_127 : zop 142 127 = some (.iadd, 1) := by decide +kernel
theorem zd142_128 : zop 142 128 = some (.putfield 161, 3) := by decide +kernel
theorem zd142_131 : zop 142 131 = some (.goto (-31), 3) := by decide +kernel
theorem zd142_134 : zop 142 134 = some (.iload_n 1, 1) := by decide +kernel
theorem zd142_135 : zop 142 135 = some (.i2l, 1) := by decide +kernel
theorem zd142_136 : zop 142 136 = some (.ldc2_w 177, 3) := by decide +kernel
theorem zd142_139 : zop 142 139 = some (.ldc2_w 179, 3) := by decide +kernel
theorem zd142_142 : zop 142 142 = some (.invokestatic 91, 3) := by decide +kernel
theorem zd142_145 : zop 142 145 = some (.ifCond .eq 107, 3) := by decide +kernel
theorem zd142_148 : zop 142 148 = some (.aload_n 0, 1) := by decide +kernel
theorem zd142_149 : zop 142 149 = some (.iconst 2, 1) := by decide +kernel
theorem zd142_150 : zop 142 150 = some (.putfield 170, 3) := by decide +kernel
theorem zd142_153 : zop 142 153 = some (.aload_n 0, 1) := by decide +kernel
theorem zd142_154 : zop 142 154 = some (.lconst 0, 1) := by decide +kernel
theorem zd142_155 : zop 142 155 = some (.putfield 181, 3) := by decide +kernel
theorem zd142_158 : zop 142 158 = some (.iconst 0, 1) := by decide +kernel
theorem zd142_159 : zop 142 159 = some (.istore_n 2, 1) := by decide +kernel
theorem zd142_160 : zop 142 160 = some (.aload_n 0, 1) := by decide +kernel
theorem zd142_161 : zop 142 161 = some (.aload_n 0, 1) := by decide +kernel
theorem zd142_162 : zop 142 162 = some (.getfield 161, 3) := by decide +kernel
theorem zd142_165 : zop 142 165 = some (.invokevirtual 164, 3) := by decide +kernel
theorem zd142_168 : zop 142 168 = some (.i2l, 1) := by decide +kernel
theorem zd142_169 : zop 142 169 = some (.ldc2_w 177, 3) := by decide +kernel
theorem zd142_172 : zop 142 172 = some (.ldc2_w 179, 3) := by decide +kernel
theorem zd142_175 : zop 142 175 = some (.invokestatic 91, 3) := by decide +kernel
theorem zd142_178 : zop 142 178 = some (.ifCond .eq 57, 3) := by decide +kernel
theorem zd142_181 : zop 142 181 = some (.aload_n 0, 1) := by decide +kernel
theorem zd142_182 : zop 142 182 = some (.iload_n 2, 1) := by decide +kernel
theorem zd142_183 : zop 142 183 = some (.iconst 4, 1) := by decide +kernel
theorem zd142_184 : zop 142 184 = some (.if_icmp .ge 28, 3) := by decide +kernel
theorem zd142_187 : zop 142 187 = some (.ldc2_w 136, 3) := by decide +kernel
theorem zd142_190 : zop 142 190 = some (.aload_n 0, 1) := by decide +kernel
theorem zd142_191 : zop 142 191 = some (.getfield 181, 3) := by decide +kernel
theorem zd142_194 : zop 142 194 = some (.lmul, 1) := by decide +kernel
theorem zd142_195 : zop 142 195 = some (.aload_n 0, 1) := by decide +kernel
theorem zd142_196 : zop 142 196 = some (.aload_n 0, 1) := by decide +kernel
theorem zd142_197 : zop 142 197 = some (.getfield 161, 3) := by decide +kernel
theorem zd142_200 : zop 142 200 = some (.invokevirtual 164, 3) := by decide +kernel
theorem zd142_203 : zop 142 203 = some (.i2l, 1) := by decide +kernel
theorem zd142_204 : zop 142 204 = some (.ladd, 1) := by decide +kernel
theorem zd142_205 : zop 142 205 = some (.ldc2_w 177, 3) := by decide +kernel
theorem zd142_208 : zop 142 208 = some (.lsub, 1) := by decide +kernel
theorem zd142_209 : zop 142 209 = some (.goto 7, 3) := by decide +kernel
theorem zd142_212 : zop 142 212 = some (.aload_n 0, 1) := by decide +kernel
theorem zd142_213 : zop 142 213 = some (.getfield 181, 3) := by decide +kernel
theorem zd142_216 : zop 142 216 = some (.putfield 181, 3) := by decide +kernel
theorem zd142_219 : zop 142 219 = some (.iinc 2 1, 3) := by decide +kernel
theorem zd142_222 : zop 142 222 = some (.aload_n 0, 1) := by decide +kernel
theorem zd142_223 : zop 142 223 = some (.dup, 1) := by decide +kernel
theorem zd142_224 : zop 142 224 = some (.getfield 161, 3) := by decide +kernel
theorem zd142_227 : zop 142 227 = some (.iconst 1, 1) := by decide +kernel
theorem zd142_228 : zop 142 228 = some (.iadd, 1) := by decide +kernel
theorem zd142_229 : zop 142 229 = some (.putfield 161, 3) := by decide +kernel
theorem zd142_232 : zop 142 232 = some (.goto (-72), 3) := by decide +kernel
theorem zd142_235 : zop 142 235 = some (.aload_n 0, 1) := by decide +kernel
theorem zd142_236 : zop 142 236 = some (.iload_n 2, 1) := by decide +kernel
theorem zd142_237 : zop 142 237 = some (.iconst 4, 1) := by decide +kernel
theorem zd142_238 : zop 142 238 = some (.if_icmp .le 7, 3) := by decide +kernel
theorem zd142_241 : zop 142 241 = some (.iconst 4, 1) := by decide +kernel
theorem zd142_242 : zop 142 242 = some (.goto 4, 3) := by decide +kernel
theorem zd142_245 : zop 142 245 = some (.iconst 2, 1) := by decide +kernel
theorem zd142_246 : zop 142 246 = some (.putfield 170, 3) := by decide +kernel
theorem zd142_249 : zop 142 249 = some (.goto 72, 3) := by decide +kernel
theorem zd142_252 : zop 142 252 = some (.iload_n 1, 1) := by decide +kernel
theorem zd142_253 : zop 142 253 = some (.bipush 40, 2) := by decide +kernel
theorem zd142_255 : zop 142 255 = some (.if_icmp .eq 45, 3) := by decide +kernel
theorem zd142_258 : zop 142 258 = some (.iload_n 1, 1) := by decide +kernel
theorem zd142_259 : zop 142 259 = some (.bipush 41, 2) := by decide +kernel
theorem zd142_261 : zop 142 261 = some (.if_icmp .eq 39, 3) := by decide +kernel
theorem zd142_264 : zop 142 264 = some (.iload_n 1, 1) := by decide +kernel
theorem zd142_265 : zop 142 265 = some (.bipush 59, 2) := by decide +kernel
theorem zd142_267 : zop 142 267 = some (.if_icmp .eq 33, 3) := by decide +kernel
theorem zd142_270 : zop 142 270 = some (.iload_n 1, 1) := by decide +kernel
theorem zd142_271 : zop 142 271 = some (.bipush 43, 2) := by decide +kernel
theorem zd142_273 : zop 142 273 = some (.if_icmp .eq 27, 3) := by decide +kernel
theorem zd142_276 : zop 142 276 = some (.iload_n 1, 1) := by decide +kernel
theorem zd142_277 : zop 142 277 = some (.bipush 45, 2) := by decide +kernel
theorem zd142_279 : zop 142 279 = some (.if_icmp .eq 21, 3) := by decide +kernel
theorem zd142_282 : zop 142 282 = some (.iload_n 1, 1) := by decide +kernel
theorem zd142_283 : zop 142 283 = some (.bipush 42, 2) := by decide +kernel
theorem zd142_285 : zop 142 285 = some (.if_icmp .eq 15, 3) := by decide +kernel
theorem zd142_288 : zop 142 288 = some (.iload_n 1, 1) := by decide +kernel
theorem zd142_289 : zop 142 289 = some (.bipush 60, 2) := by decide +kernel
theorem zd142_291 : zop 142 291 = some (.if_icmp .eq 9, 3) := by decide +kernel
theorem zd142_294 : zop 142 294 = some (.iload_n 1, 1) := by decide +kernel
theorem zd142_295 : zop 142 295 = some (.bipush 61, 2) := by decide +kernel
theorem zd142_297 : zop 142 297 = some (.if_icmp .ne 24, 3) := by decide +kernel
theorem zd142_300 : zop 142 300 = some (.aload_n 0, 1) := by decide +kernel
theorem zd142_301 : zop 142 301 = some (.iconst 3, 1) := by decide +kernel
theorem zd142_302 : zop 142 302 = some (.putfield 170, 3) := by decide +kernel
theorem zd142_305 : zop 142 305 = some (.aload_n 0, 1) := by decide +kernel
theorem zd142_306 : zop 142 306 = some (.iload_n 1, 1) := by decide +kernel
theorem zd142_307 : zop 142 307 = some (.i2l, 1) := by decide +kernel
theorem zd142_308 : zop 142 308 = some (.putfield 181, 3) := by decide +kernel
theorem zd142_311 : zop 142 311 = some (.aload_n 0, 1) := by decide +kernel
theorem zd142_312 : zop 142 312 = some (.dup, 1) := by decide +kernel
theorem zd142_313 : zop 142 313 = some (.getfield 161, 3) := by decide +kernel
theorem zd142_316 : zop 142 316 = some (.iconst 1, 1) := by decide +kernel
theorem zd142_317 : zop 142 317 = some (.iadd, 1) := by decide +kernel
theorem zd142_318 : zop 142 318 = some (.putfield 161, 3) := by decide +kernel
theorem zd142_321 : zop 142 321 = some (.return_, 1) := by decide +kernel
theorem b142_0 {x : zXs} {F : zF} (hF : zSh F) {d : Nat} {V : Nat → Nat → Int32} {T : Nat → Nat → Int64} {Q : Option Value → zG → Prop} {o1 : Option Value} {o2 : Option Value}   (k : E x F d 143 0 [some (.ref 59), some (.int (V 59 21))] [] (V, T) (fun r G' => E x F (d + 1) 142 8 [some (.ref 59), o1, o2] (r.toList ++ []) G' Q)) : E x F (d + 1) 142 0 [some (.ref 59), o1, o2] [] (V, T) Q := by
  refine e_aload_n zd142_0 rfl rfl ?_
  refine e_aload_n zd142_1 rfl rfl ?_
  refine e_getI zd142_2 (own := 8) (ci := 8) (kf := 21) (w := 879) (by decide +kernel) (by decide +kernel) (zsh_at hF rfl).1 (by decide +kernel) rfl ?_
  exact e_callV zd142_5 (own := 8) (nest := false) (w := 1053) (by decide +kernel) (by decide +kernel) zs143 (as := [.int (V 59 21)]) (rest := []) rfl rfl (zsh_at hF rfl).1 (by omega) (Nat.le_of_ble_eq_true rfl) rfl rfl rfl (by omega) k
theorem b142_8 {x : zXs} {F : zF} (hF : zSh F) {d : Nat} {V : Nat → Nat → Int32} {T : Nat → Nat → Int64} {Q : Option Value → zG → Prop} {o0 : Option Value} {o1 : Option Value} {o2 : Option Value} {s0 : Int32}   (kt : s0 = (Int32.ofInt 32) → E x F d 142 26 [o0, o1, o2] [] (V, T) Q) (kf : ¬ (s0 = (Int32.ofInt 32)) → E x F d 142 13 [o0, o1, o2] [] (V, T) Q) : E x F d 142 8 [o0, o1, o2] [.int s0] (V, T) Q := by
  refine e_bipush zd142_8 (v := Int32.ofInt 32) (by decide +kernel) ?_
  exact e_icmp_eq zd142_10 (tg := 26) rfl kt kf
theorem b142_13 {x : zXs} {F : zF} (hF : zSh F) {d : Nat} {V : Nat → Nat → Int32} {T : Nat → Nat → Int64} {Q : Option Value → zG → Prop} {o1 : Option Value} {o2 : Option Value}   (k : E x F d 143 0 [some (.ref 59), some (.int (V 59 21))] [] (V, T) (fun r G' => E x F (d + 1) 142 21 [some (.ref 59), o1, o2] (r.toList ++ []) G' Q)) : E x F (d + 1) 142 13 [some (.ref 59), o1, o2] [] (V, T) Q := by
  refine e_aload_n zd142_13 rfl rfl ?_
  refine e_aload_n zd142_14 rfl rfl ?_
  refine e_getI zd142_15 (own := 8) (ci := 8) (kf := 21) (w := 879) (by decide +kernel) (by decide +kernel) (zsh_at hF rfl).1 (by decide +kernel) rfl ?_
  exact e_callV zd142_18 (own := 8) (nest := false) (w := 1053) (by decide +kernel) (by decide +kernel) zs143 (as := [.int (V 59 21)]) (rest := []) rfl rfl (zsh_at hF rfl).1 (by omega) (Nat.le_of_ble_eq_true rfl) rfl rfl rfl (by omega) k
theorem b142_21 {x : zXs} {F : zF} (hF : zSh F) {d : Nat} {V : Nat → Nat → Int32} {T : Nat → Nat → Int64} {Q : Option Value → zG → Prop} {o0 : Option Value} {o1 : Option Value} {o2 : Option Value} {s0 : Int32}   (kt : ¬ s0 = (Int32.ofInt 10) → E x F d 142 39 [o0, o1, o2] [] (V, T) Q) (kf : ¬ (¬ s0 = (Int32.ofInt 10)) → E x F d 142 26 [o0, o1, o2] [] (V, T) Q) : E x F d 142 21 [o0, o1, o2] [.int s0] (V, T) Q := by
  refine e_bipush zd142_21 (v := Int32.ofInt 10) (by decide +kernel) ?_
  exact e_icmp_ne zd142_23 (tg := 39) rfl kt kf
theorem b142_26 {x : zXs} {F : zF} (hF : zSh F) {d : Nat} {V : Nat → Nat → Int32} {T : Nat → Nat → Int64} {Q : Option Value → zG → Prop} {o1 : Option Value} {o2 : Option Value}   (k : E x F d 142 0 [some (.ref 59), o1, o2] [] (zu V 59 21 ((V 59 21) + (Int32.ofInt 1)), T) Q) : E x F d 142 26 [some (.ref 59), o1, o2] [] (V, T) Q := by
  refine e_aload_n zd142_26 rfl rfl ?_
  refine e_dup zd142_27 rfl ?_
  refine e_getI zd142_28 (own := 8) (ci := 8) (kf := 21) (w := 879) (by decide +kernel) (by decide +kernel) (zsh_at hF rfl).1 (by decide +kernel) rfl ?_
  refine e_iconst zd142_31 ?_
  refine e_iadd zd142_32 ?_
  refine e_putI zd142_33 (own := 8) (ci := 8) (kf := 21) (w := 879) (by decide +kernel) (by decide +kernel) (zsh_at hF rfl).1 (by decide +kernel) rfl ?_
  exact e_goto zd142_36 (tg := 0) rfl k
theorem b142_39 {x : zXs} {F : zF} (hF : zSh F) {d : Nat} {V : Nat → Nat → Int32} {T : Nat → Nat → Int64} {Q : Option Value → zG → Prop} {o1 : Option Value} {o2 : Option Value}   (k : E x F d 143 0 [some (.ref 59), some (.int ((zu V 59 23 (V 59 21)) 59 21))] [] (zu V 59 23 (V 59 21), T) (fun r G' => E x F (d + 1) 142 55 [some (.ref 59), o1, o2] (r.toList ++ []) G' Q)) : E x F (d + 1) 142 39 [some (.ref 59), o1, o2] [] (V, T) Q := by
  refine e_aload_n zd142_39 rfl rfl ?_
  refine e_aload_n zd142_40 rfl rfl ?_
  refine e_getI zd142_41 (own := 8) (ci := 8) (kf := 21) (w := 879) (by decide +kernel) (by decide +kernel) (zsh_at hF rfl).1 (by decide +kernel) rfl ?_
  refine e_putI zd142_44 (own := 8) (ci := 8) (kf := 23) (w := 881) (by decide +kernel) (by decide +kernel) (zsh_at hF rfl).1 (by decide +kernel) rfl ?_
  refine e_aload_n zd142_47 rfl rfl ?_
  refine e_aload_n zd142_48 rfl rfl ?_
  refine e_getI zd142_49 (own := 8) (ci := 8) (kf := 21) (w := 879) (by decide +kernel) (by decide +kernel) (zsh_at hF rfl).1 (by decide +kernel) rfl ?_
  exact e_callV zd142_52 (own := 8) (nest := false) (w := 1053) (by decide +kernel) (by decide +kernel) zs143 (as := [.int ((zu V 59 23 (V 59 21)) 59 21)]) (rest := []) rfl rfl (zsh_at hF rfl).1 (by omega) (Nat.le_of_ble_eq_true rfl) rfl rfl rfl (by omega) k
theorem b142_55 {x : zXs} {F : zF} (hF : zSh F) {d : Nat} {V : Nat → Nat → Int32} {T : Nat → Nat → Int64} {Q : Option Value → zG → Prop} {o1 : Option Value} {o2 : Option Value} {s0 : Int32}   (kt : 0 ≤ s0 → E x F d 142 81 [some (.ref 59), some (.int s0), o2] [] (zu V 59 22 (Int32.ofInt 4), T) Q) (kf : ¬ (0 ≤ s0) → E x F d 142 65 [some (.ref 59), some (.int s0), o2] [] (zu V 59 22 (Int32.ofInt 4), T) Q) : E x F d 142 55 [some (.ref 59), o1, o2] [.int s0] (V, T) Q := by
  refine e_istore_n zd142_55 (by decide +kernel) (Nat.le_of_ble_eq_true rfl) ?_
  refine e_aload_n zd142_56 rfl rfl ?_
  refine e_iconst zd142_57 ?_
  refine e_putI zd142_58 (own := 8) (ci := 8) (kf := 22) (w := 880) (by decide +kernel) (by decide +kernel) (zsh_at hF rfl).1 (by decide +kernel) rfl ?_
  refine e_iload_n zd142_61 rfl ?_
  exact e_if_ge zd142_62 (tg := 81) rfl kt kf
theorem b142_65 {x : zXs} {F : zF} (hF : zSh F) {d : Nat} {V : Nat → Nat → Int32} {T : Nat → Nat → Int64} {Q : Option Value → zG → Prop} {o1 : Option Value} {o2 : Option Value}   (k : E x F d 142 321 [some (.ref 59), o1, o2] [] (zu (zu V 59 22 (Int32.ofInt 0)) 59 23 ((zu V 59 22 (Int32.ofInt 0)) 59 20), T) Q) : E x F d 142 65 [some (.ref 59), o1, o2] [] (V, T) Q := by
  refine e_aload_n zd142_65 rfl rfl ?_
  refine e_iconst zd142_66 ?_
  refine e_putI zd142_67 (own := 8) (ci := 8) (kf := 22) (w := 880) (by decide +kernel) (by decide +kernel) (zsh_at hF rfl).1 (by decide +kernel) rfl ?_
  refine e_aload_n zd142_70 rfl rfl ?_
  refine e_aload_n zd142_71 rfl rfl ?_
  refine e_getI zd142_72 (own := 8) (ci := 8) (kf := 20) (w := 878) (by decide +kernel) (by decide +kernel) (zsh_at hF rfl).1 (by decide +kernel) rfl ?_
  refine e_putI zd142_75 (own := 8) (ci := 8) (kf := 23) (w := 881) (by decide +kernel) (by decide +kernel) (zsh_at hF rfl).1 (by decide +kernel) rfl ?_
  exact e_goto zd142_78 (tg := 321) rfl k
theorem b142_81 {x : zXs} {F : zF} (hF : zSh F) {d : Nat} {V : Nat → Nat → Int32} {T : Nat → Nat → Int64} {Q : Option Value → zG → Prop} {o0 : Option Value} {l1 : Int32} {o2 : Option Value}   (k : E x F d 132 0 [some (.long l1.toInt64), none, some (.long (97 : Int64)), none, some (.long (122 : Int64)), none] [] (V, T) (fun r G' => E x F (d + 1) 142 92 [o0, some (.int l1), o2] (r.toList ++ []) G' Q)) : E x F (d + 1) 142 81 [o0, some (.int l1), o2] [] (V, T) Q := by
  refine e_iload_n zd142_81 rfl ?_
  refine e_i2l zd142_82 ?_
  refine e_ldc2 zd142_83 (own := 8) (w := 1057) (v := 97) (by decide +kernel) (by decide +kernel) ?_
  refine e_ldc2 zd142_86 (own := 8) (w := 1058) (v := 122) (by decide +kernel) (by decide +kernel) ?_
  exact e_callS zd142_89 (own := 8) (nest := false) (w := 1009) (by decide +kernel) (by decide +kernel) zs132 (as := [.long l1.toInt64, .long (97 : Int64), .long (122 : Int64)]) (rest := []) rfl rfl (Nat.le_of_ble_eq_true rfl) rfl rfl rfl (by omega) k
theorem b142_92 {x : zXs} {F : zF} (hF : zSh F) {d : Nat} {V : Nat → Nat → Int32} {T : Nat → Nat → Int64} {Q : Option Value → zG → Prop} {o0 : Option Value} {o1 : Option Value} {o2 : Option Value} {s0 : Int32}   (kt : s0 = 0 → E x F d 142 134 [o0, o1, o2] [] (V, T) Q) (kf : ¬ (s0 = 0) → E x F d 142 95 [o0, o1, o2] [] (V, T) Q) : E x F d 142 92 [o0, o1, o2] [.int s0] (V, T) Q := by
  exact e_if_eq zd142_92 (tg := 134) rfl kt kf
theorem b142_95 {x : zXs} {F : zF} (hF : zSh F) {d : Nat} {V : Nat → Nat → Int32} {T : Nat → Nat → Int64} {Q : Option Value → zG → Prop} {o1 : Option Value} {o2 : Option Value}   (k : E x F d 142 100 [some (.ref 59), o1, o2] [] (zu V 59 22 (Int32.ofInt 1), T) Q) : E x F d 142 95 [some (.ref 59), o1, o2] [] (V, T) Q := by
  refine e_aload_n zd142_95 rfl rfl ?_
  refine e_iconst zd142_96 ?_
  refine e_putI zd142_97 (own := 8) (ci := 8) (kf := 22) (w := 880) (by decide +kernel) (by decide +kernel) (zsh_at hF rfl).1 (by decide +kernel) rfl ?_
  exact k
theorem b142_100 {x : zXs} {F : zF} (hF : zSh F) {d : Nat} {V : Nat → Nat → Int32} {T : Nat → Nat → Int64} {Q : Option Value → zG → Prop} {o1 : Option Value} {o2 : Option Value}   (k : E x F d 143 0 [some (.ref 59), some (.int (V 59 21))] [] (V, T) (fun r G' => E x F (d + 1) 142 108 [some (.ref 59), o1, o2] (r.toList ++ []) G' Q)) : E x F (d + 1) 142 100 [some (.ref 59), o1, o2] [] (V, T) Q := by
  refine e_aload_n zd142_100 rfl rfl ?_
  refine e_aload_n zd142_101 rfl rfl ?_
  refine e_getI zd142_102 (own := 8) (ci := 8) (kf := 21) (w := 879) (by decide +kernel) (by decide +kernel) (zsh_at hF rfl).1 (by decide +kernel) rfl ?_
  exact e_callV zd142_105 (own := 8) (nest := false) (w := 1053) (by decide +kernel) (by decide +kernel) zs143 (as := [.int (V 59 21)]) (rest := []) rfl rfl (zsh_at hF rfl).1 (by omega) (Nat.le_of_ble_eq_true rfl) rfl rfl rfl (by omega) k
theorem b142_108 {x : zXs} {F : zF} (hF : zSh F) {d : Nat} {V : Nat → Nat → Int32} {T : Nat → Nat → Int64} {Q : Option Value → zG → Prop} {o0 : Option Value} {o1 : Option Value} {o2 : Option Value} {s0 : Int32}   (k : E x F d 132 0 [some (.long s0.toInt64), none, some (.long (97 : Int64)), none, some (.long (122 : Int64)), none] [] (V, T) (fun r G' => E x F (d + 1) 142 118 [o0, o1, o2] (r.toList ++ []) G' Q)) : E x F (d + 1) 142 108 [o0, o1, o2] [.int s0] (V, T) Q := by
  refine e_i2l zd142_108 ?_
  refine e_ldc2 zd142_109 (own := 8) (w := 1057) (v := 97) (by decide +kernel) (by decide +kernel) ?_
  refine e_ldc2 zd142_112 (own := 8) (w := 1058) (v := 122) (by decide +kernel) (by decide +kernel) ?_
  exact e_callS zd142_115 (own := 8) (nest := false) (w := 1009) (by decide +kernel) (by decide +kernel) zs132 (as := [.long s0.toInt64, .long (97 : Int64), .long (122 : Int64)]) (rest := []) rfl rfl (Nat.le_of_ble_eq_true rfl) rfl rfl rfl (by omega) k
theorem b142_118 {x : zXs} {F : zF} (hF : zSh F) {d : Nat} {V : Nat → Nat → Int32} {T : Nat → Nat → Int64} {Q : Option Value → zG → Prop} {o0 : Option Value} {o1 : Option Value} {o2 : Option Value} {s0 : Int32}   (kt : s0 = 0 → E x F d 142 321 [o0, o1, o2] [] (V, T) Q) (kf : ¬ (s0 = 0) → E x F d 142 121 [o0, o1, o2] [] (V, T) Q) : E x F d 142 118 [o0, o1, o2] [.int s0] (V, T) Q := by
  exact e_if_eq zd142_118 (tg := 321) rfl kt kf
theorem b142_121 {x : zXs} {F : zF} (hF : zSh F) {d : Nat} {V : Nat → Nat → Int32} {T : Nat → Nat → Int64} {Q : Option Value → zG → Prop} {o1 : Option Value} {o2 : Option Value}   (k : E x F d 142 100 [some (.ref 59), o1, o2] [] (zu V 59 21 ((V 59 21) + (Int32.ofInt 1)), T) Q) : E x F d 142 121 [some (.ref 59), o1, o2] [] (V, T) Q := by
  refine e_aload_n zd142_121 rfl rfl ?_
  refine e_dup zd142_122 rfl ?_
  refine e_getI zd142_123 (own := 8) (ci := 8) (kf := 21) (w := 879) (by decide +kernel) (by decide +kernel) (zsh_at hF rfl).1 (by decide +kernel) rfl ?_
  refine e_iconst zd142_126 ?_
  refine e_iadd zd142_127 ?_
  refine e_putI zd142_128 (own := 8) (ci := 8) (kf := 21) (w := 879) (by decide +kernel) (by decide +kernel) (zsh_at hF rfl).1 (by decide +kernel) rfl ?_
  exact e_goto zd142_131 (tg := 100) rfl k
theorem b142_134 {x : zXs} {F : zF} (hF : zSh F) {d : Nat} {V : Nat → Nat → Int32} {T : Nat → Nat → Int64} {Q : Option Value → zG → Prop} {o0 : Option Value} {l1 : Int32} {o2 : Option Value}   (k : E x F d 132 0 [some (.long l1.toInt64), none, some (.long (48 : Int64)), none, some (.long (57 : Int64)), none] [] (V, T) (fun r G' => E x F (d + 1) 142 145 [o0, some (.int l1), o2] (r.toList ++ []) G' Q)) : E x F (d + 1) 142 134 [o0, some (.int l1), o2] [] (V, T) Q := by
  refine e_iload_n zd142_134 rfl ?_
  refine e_i2l zd142_135 ?_
  refine e_ldc2 zd142_136 (own := 8) (w := 1059) (v := 48) (by decide +kernel) (by decide +kernel) ?_
  refine e_ldc2 zd142_139 (own := 8) (w := 1060) (v := 57) (by decide +kernel) (by decide +kernel) ?_
  exact e_callS zd142_142 (own := 8) (nest := false) (w := 1009) (by decide +kernel) (by decide +kernel) zs132 (as := [.long l1.toInt64, .long (48 : Int64), .long (57 : Int64)]) (rest := []) rfl rfl (Nat.le_of_ble_eq_true rfl) rfl rfl rfl (by omega) k
theorem b142_145 {x : zXs} {F : zF} (hF : zSh F) {d : Nat} {V : Nat → Nat → Int32} {T : Nat → Nat → Int64} {Q : Option Value → zG → Prop} {o0 : Option Value} {o1 : Option Value} {o2 : Option Value} {s0 : Int32}   (kt : s0 = 0 → E x F d 142 252 [o0, o1, o2] [] (V, T) Q) (kf : ¬ (s0 = 0) → E x F d 142 148 [o0, o1, o2] [] (V, T) Q) : E x F d 142 145 [o0, o1, o2] [.int s0] (V, T) Q := by
  exact e_if_eq zd142_145 (tg := 252) rfl kt kf
theorem b142_148 {x : zXs} {F : zF} (hF : zSh F) {d : Nat} {V : Nat → Nat → Int32} {T : Nat → Nat → Int64} {Q : Option Value → zG → Prop} {o1 : Option Value} {o2 : Option Value}   (k : E x F d 142 160 [some (.ref 59), o1, some (.int (Int32.ofInt 0))] [] (zu V 59 22 (Int32.ofInt 2), zu T 59 24 0) Q) : E x F d 142 148 [some (.ref 59), o1, o2] [] (V, T) Q := by
  refine e_aload_n zd142_148 rfl rfl ?_
  refine e_iconst zd142_149 ?_
  refine e_putI zd142_150 (own := 8) (ci := 8) (kf := 22) (w := 880) (by decide +kernel) (by decide +kernel) (zsh_at hF rfl).1 (by decide +kernel) rfl ?_
  refine e_aload_n zd142_153 rfl rfl ?_
  refine e_lconst zd142_154 (v := 0) rfl ?_
  refine e_putJ zd142_155 (own := 8) (ci := 8) (kf := 24) (w := 882) (by decide +kernel) (by decide +kernel) (zsh_at hF rfl).1 (by decide +kernel) rfl ?_
  refine e_iconst zd142_158 ?_
  refine e_istore_n zd142_159 (by decide +kernel) (Nat.le_of_ble_eq_true rfl) ?_
  exact k
theorem b142_160 {x : zXs} {F : zF} (hF : zSh F) {d : Nat} {V : Nat → Nat → Int32} {T : Nat → Nat → Int64} {Q : Option Value → zG → Prop} {o1 : Option Value} {o2 : Option Value}   (k : E x F d 143 0 [some (.ref 59), some (.int (V 59 21))] [] (V, T) (fun r G' => E x F (d + 1) 142 168 [some (.ref 59), o1, o2] (r.toList ++ []) G' Q)) : E x F (d + 1) 142 160 [some (.ref 59), o1, o2] [] (V, T) Q := by
  refine e_aload_n zd142_160 rfl rfl ?_
  refine e_aload_n zd142_161 rfl rfl ?_
  refine e_getI zd142_162 (own := 8) (ci := 8) (kf := 21) (w := 879) (by decide +kernel) (by decide +kernel) (zsh_at hF rfl).1 (by decide +kernel) rfl ?_
  exact e_callV zd142_165 (own := 8) (nest := false) (w := 1053) (by decide +kernel) (by decide +kernel) zs143 (as := [.int (V 59 21)]) (rest := []) rfl rfl (zsh_at hF rfl).1 (by omega) (Nat.le_of_ble_eq_true rfl) rfl rfl rfl (by omega) k
theorem b142_168 {x : zXs} {F : zF} (hF : zSh F) {d : Nat} {V : Nat → Nat → Int32} {T : Nat → Nat → Int64} {Q : Option Value → zG → Prop} {o0 : Option Value} {o1 : Option Value} {o2 : Option Value} {s0 : Int32}   (k : E x F d 132 0 [some (.long s0.toInt64), none, some (.long (48 : Int64)), none, some (.long (57 : Int64)), none] [] (V, T) (fun r G' => E x F (d + 1) 142 178 [o0, o1, o2] (r.toList ++ []) G' Q)) : E x F (d + 1) 142 168 [o0, o1, o2] [.int s0] (V, T) Q := by
  refine e_i2l zd142_168 ?_
  refine e_ldc2 zd142_169 (own := 8) (w := 1059) (v := 48) (by decide +kernel) (by decide +kernel) ?_
  refine e_ldc2 zd142_172 (own := 8) (w := 1060) (v := 57) (by decide +kernel) (by decide +kernel) ?_
  exact e_callS zd142_175 (own := 8) (nest := false) (w := 1009) (by decide +kernel) (by decide +kernel) zs132 (as := [.long s0.toInt64, .long (48 : Int64), .long (57 : Int64)]) (rest := []) rfl rfl (Nat.le_of_ble_eq_true rfl) rfl rfl rfl (by omega) k
theorem b142_178 {x : zXs} {F : zF} (hF : zSh F) {d : Nat} {V : Nat → Nat → Int32} {T : Nat → Nat → Int64} {Q : Option Value → zG → Prop} {o0 : Option Value} {o1 : Option Value} {o2 : Option Value} {s0 : Int32}   (kt : s0 = 0 → E x F d 142 235 [o0, o1, o2] [] (V, T) Q) (kf : ¬ (s0 = 0) → E x F d 142 181 [o0, o1, o2] [] (V, T) Q) : E x F d 142 178 [o0, o1, o2] [.int s0] (V, T) Q := by
  exact e_if_eq zd142_178 (tg := 235) rfl kt kf
theorem b142_181 {x : zXs} {F : zF} (hF : zSh F) {d : Nat} {V : Nat → Nat → Int32} {T : Nat → Nat → Int64} {Q : Option Value → zG → Prop} {o1 : Option Value} {l2 : Int32}   (kt : (Int32.ofInt 4) ≤ l2 → E x F d 142 212 [some (.ref 59), o1, some (.int l2)] [.ref 59] (V, T) Q) (kf : ¬ ((Int32.ofInt 4) ≤ l2) → E x F d 142 187 [some (.ref 59), o1, some (.int l2)] [.ref 59] (V, T) Q) : E x F d 142 181 [some (.ref 59), o1, some (.int l2)] [] (V, T) Q := by
  refine e_aload_n zd142_181 rfl rfl ?_
  refine e_iload_n zd142_182 rfl ?_
  refine e_iconst zd142_183 ?_
  exact e_icmp_ge zd142_184 (tg := 212) rfl kt kf
theorem b142_187 {x : zXs} {F : zF} (hF : zSh F) {d : Nat} {V : Nat → Nat → Int32} {T : Nat → Nat → Int64} {Q : Option Value → zG → Prop} {o1 : Option Value} {o2 : Option Value}   (k : E x F d 143 0 [some (.ref 59), some (.int (V 59 21))] [] (V, T) (fun r G' => E x F (d + 1) 142 203 [some (.ref 59), o1, o2] (r.toList ++ [.long ((10 : Int64) * (T 59 24)), .ref 59]) G' Q)) : E x F (d + 1) 142 187 [some (.ref 59), o1, o2] [.ref 59] (V, T) Q := by
  refine e_ldc2 zd142_187 (own := 8) (w := 1036) (v := 10) (by decide +kernel) (by decide +kernel) ?_
  refine e_aload_n zd142_190 rfl rfl ?_
  refine e_getJ zd142_191 (own := 8) (ci := 8) (kf := 24) (w := 882) (by decide +kernel) (by decide +kernel) (zsh_at hF rfl).1 (by decide +kernel) rfl ?_
  refine e_lmul zd142_194 ?_
  refine e_aload_n zd142_195 rfl rfl ?_
  refine e_aload_n zd142_196 rfl rfl ?_
  refine e_getI zd142_197 (own := 8) (ci := 8) (kf := 21) (w := 879) (by decide +kernel) (by decide +kernel) (zsh_at hF rfl).1 (by decide +kernel) rfl ?_
  exact e_callV zd142_200 (own := 8) (nest := false) (w := 1053) (by decide +kernel) (by decide +kernel) zs143 (as := [.int (V 59 21)]) (rest := [.long ((10 : Int64) * (T 59 24)), .ref 59]) rfl rfl (zsh_at hF rfl).1 (by omega) (Nat.le_of_ble_eq_true rfl) rfl rfl rfl (by omega) k
theorem b142_203 {x : zXs} {F : zF} (hF : zSh F) {d : Nat} {V : Nat → Nat → Int32} {T : Nat → Nat → Int64} {Q : Option Value → zG → Prop} {o0 : Option Value} {o1 : Option Value} {o2 : Option Value} {s1 : Int64} {s2 : Int32}   (k : E x F d 142 216 [o0, o1, o2] [.long ((s1 + s2.toInt64) - (48 : Int64)), .ref 59] (V, T) Q) : E x F d 142 203 [o0, o1, o2] [.int s2, .long s1, .ref 59] (V, T) Q := by
  refine e_i2l zd142_203 ?_
  refine e_ladd zd142_204 ?_
  refine e_ldc2 zd142_205 (own := 8) (w := 1059) (v := 48) (by decide +kernel) (by decide +kernel) ?_
  refine e_lsub zd142_208 ?_
  exact e_goto zd142_209 (tg := 216) rfl k
theorem b142_212 {x : zXs} {F : zF} (hF : zSh F) {d : Nat} {V : Nat → Nat → Int32} {T : Nat → Nat → Int64} {Q : Option Value → zG → Prop} {o1 : Option Value} {o2 : Option Value}   (k : E x F d 142 216 [some (.ref 59), o1, o2] [.long (T 59 24), .ref 59] (V, T) Q) : E x F d 142 212 [some (.ref 59), o1, o2] [.ref 59] (V, T) Q := by
  refine e_aload_n zd142_212 rfl rfl ?_
  refine e_getJ zd142_213 (own := 8) (ci := 8) (kf := 24) (w := 882) (by decide +kernel) (by decide +kernel) (zsh_at hF rfl).1 (by decide +kernel) rfl ?_
  exact k
theorem b142_216 {x : zXs} {F : zF} (hF : zSh F) {d : Nat} {V : Nat → Nat → Int32} {T : Nat → Nat → Int64} {Q : Option Value → zG → Prop} {o1 : Option Value} {l2 : Int32} {s1 : Int64}   (k : E x F d 142 160 [some (.ref 59), o1, some (.int (l2 + Int32.ofInt 1))] [] (zu V 59 21 ((V 59 21) + (Int32.ofInt 1)), zu T 59 24 s1) Q) : E x F d 142 216 [some (.ref 59), o1, some (.int l2)] [.long s1, .ref 59] (V, T) Q := by
  refine e_putJ zd142_216 (own := 8) (ci := 8) (kf := 24) (w := 882) (by decide +kernel) (by decide +kernel) (zsh_at hF rfl).1 (by decide +kernel) rfl ?_
  refine e_iinc zd142_219 rfl (by decide +kernel) ?_
  refine e_aload_n zd142_222 rfl rfl ?_
  refine e_dup zd142_223 rfl ?_
  refine e_getI zd142_224 (own := 8) (ci := 8) (kf := 21) (w := 879) (by decide +kernel) (by decide +kernel) (zsh_at hF rfl).1 (by decide +kernel) rfl ?_
  refine e_iconst zd142_227 ?_
  refine e_iadd zd142_228 ?_
  refine e_putI zd142_229 (own := 8) (ci := 8) (kf := 21) (w := 879) (by decide +kernel) (by decide +kernel) (zsh_at hF rfl).1 (by decide +kernel) rfl ?_
  exact e_goto zd142_232 (tg := 160) rfl k
theorem b142_235 {x : zXs} {F : zF} (hF : zSh F) {d : Nat} {V : Nat → Nat → Int32} {T : Nat → Nat → Int64} {Q : Option Value → zG → Prop} {o1 : Option Value} {l2 : Int32}   (kt : l2 ≤ (Int32.ofInt 4) → E x F d 142 245 [some (.ref 59), o1, some (.int l2)] [.ref 59] (V, T) Q) (kf : ¬ (l2 ≤ (Int32.ofInt 4)) → E x F d 142 241 [some (.ref 59), o1, some (.int l2)] [.ref 59] (V, T) Q) : E x F d 142 235 [some (.ref 59), o1, some (.int l2)] [] (V, T) Q := by
  refine e_aload_n zd142_235 rfl rfl ?_
  refine e_iload_n zd142_236 rfl ?_
  refine e_iconst zd142_237 ?_
  exact e_icmp_le zd142_238 (tg := 245) rfl kt kf
theorem b142_241 {x : zXs} {F : zF} (hF : zSh F) {d : Nat} {V : Nat → Nat → Int32} {T : Nat → Nat → Int64} {Q : Option Value → zG → Prop} {o0 : Option Value} {o1 : Option Value} {o2 : Option Value}   (k : E x F d 142 246 [o0, o1, o2] [.int (Int32.ofInt 4), .ref 59] (V, T) Q) : E x F d 142 241 [o0, o1, o2] [.ref 59] (V, T) Q := by
  refine e_iconst zd142_241 ?_
  exact e_goto zd142_242 (tg := 246) rfl k
theorem b142_245 {x : zXs} {F : zF} (hF : zSh F) {d : Nat} {V : Nat → Nat → Int32} {T : Nat → Nat → Int64} {Q : Option Value → zG → Prop} {o0 : Option Value} {o1 : Option Value} {o2 : Option Value}   (k : E x F d 142 246 [o0, o1, o2] [.int (Int32.ofInt 2), .ref 59] (V, T) Q) : E x F d 142 245 [o0, o1, o2] [.ref 59] (V, T) Q := by
  refine e_iconst zd142_245 ?_
  exact k
theorem b142_246 {x : zXs} {F : zF} (hF : zSh F) {d : Nat} {V : Nat → Nat → Int32} {T : Nat → Nat → Int64} {Q : Option Value → zG → Prop} {o0 : Option Value} {o1 : Option Value} {o2 : Option Value} {s1 : Int32}   (k : E x F d 142 321 [o0, o1, o2] [] (zu V 59 22 s1, T) Q) : E x F d 142 246 [o0, o1, o2] [.int s1, .ref 59] (V, T) Q := by
  refine e_putI zd142_246 (own := 8) (ci := 8) (kf := 22) (w := 880) (by decide +kernel) (by decide +kernel) (zsh_at hF rfl).1 (by decide +kernel) rfl ?_
  exact e_goto zd142_249 (tg := 321) rfl k
theorem b142_252 {x : zXs} {F : zF} (hF : zSh F) {d : Nat} {V : Nat → Nat → Int32} {T : Nat → Nat → Int64} {Q : Option Value → zG → Prop} {o0 : Option Value} {l1 : Int32} {o2 : Option Value}   (kt : l1 = (Int32.ofInt 40) → E x F d 142 300 [o0, some (.int l1), o2] [] (V, T) Q) (kf : ¬ (l1 = (Int32.ofInt 40)) → E x F d 142 258 [o0, some (.int l1), o2] [] (V, T) Q) : E x F d 142 252 [o0, some (.int l1), o2] [] (V, T) Q := by
  refine e_iload_n zd142_252 rfl ?_
  refine e_bipush zd142_253 (v := Int32.ofInt 40) (by decide +kernel) ?_
  exact e_icmp_eq zd142_255 (tg := 300) rfl kt kf
theorem b142_258 {x : zXs} {F : zF} (hF : zSh F) {d : Nat} {V : Nat → Nat → Int32} {T : Nat → Nat → Int64} {Q : Option Value → zG → Prop} {o0 : Option Value} {l1 : Int32} {o2 : Option Value}   (kt : l1 = (Int32.ofInt 41) → E x F d 142 300 [o0, some (.int l1), o2] [] (V, T) Q) (kf : ¬ (l1 = (Int32.ofInt 41)) → E x F d 142 264 [o0, some (.int l1), o2] [] (V, T) Q) : E x F d 142 258 [o0, some (.int l1), o2] [] (V, T) Q := by
  refine e_iload_n zd142_258 rfl ?_
  refine e_bipush zd142_259 (v := Int32.ofInt 41) (by decide +kernel) ?_
  exact e_icmp_eq zd142_261 (tg := 300) rfl kt kf
theorem b142_264 {x : zXs} {F : zF} (hF : zSh F) {d : Nat} {V : Nat → Nat → Int32} {T : Nat → Nat → Int64} {Q : Option Value → zG → Prop} {o0 : Option Value} {l1 : Int32} {o2 : Option Value}   (kt : l1 = (Int32.ofInt 59) → E x F d 142 300 [o0, some (.int l1), o2] [] (V, T) Q) (kf : ¬ (l1 = (Int32.ofInt 59)) → E x F d 142 270 [o0, some (.int l1), o2] [] (V, T) Q) : E x F d 142 264 [o0, some (.int l1), o2] [] (V, T) Q := by
  refine e_iload_n zd142_264 rfl ?_
  refine e_bipush zd142_265 (v := Int32.ofInt 59) (by decide +kernel) ?_
  exact e_icmp_eq zd142_267 (tg := 300) rfl kt kf
theorem b142_270 {x : zXs} {F : zF} (hF : zSh F) {d : Nat} {V : Nat → Nat → Int32} {T : Nat → Nat → Int64} {Q : Option Value → zG → Prop} {o0 : Option Value} {l1 : Int32} {o2 : Option Value}   (kt : l1 = (Int32.ofInt 43) → E x F d 142 300 [o0, some (.int l1), o2] [] (V, T) Q) (kf : ¬ (l1 = (Int32.ofInt 43)) → E x F d 142 276 [o0, some (.int l1), o2] [] (V, T) Q) : E x F d 142 270 [o0, some (.int l1), o2] [] (V, T) Q := by
  refine e_iload_n zd142_270 rfl ?_
  refine e_bipush zd142_271 (v := Int32.ofInt 43) (by decide +kernel) ?_
  exact e_icmp_eq zd142_273 (tg := 300) rfl kt kf
theorem b142_276 {x : zXs} {F : zF} (hF : zSh F) {d : Nat} {V : Nat → Nat → Int32} {T : Nat → Nat → Int64} {Q : Option Value → zG → Prop} {o0 : Option Value} {l1 : Int32} {o2 : Option Value}   (kt : l1 = (Int32.ofInt 45) → E x F d 142 300 [o0, some (.int l1), o2] [] (V, T) Q) (kf : ¬ (l1 = (Int32.ofInt 45)) → E x F d 142 282 [o0, some (.int l1), o2] [] (V, T) Q) : E x F d 142 276 [o0, some (.int l1), o2] [] (V, T) Q := by
  refine e_iload_n zd142_276 rfl ?_
  refine e_bipush zd142_277 (v := Int32.ofInt 45) (by decide +kernel) ?_
  exact e_icmp_eq zd142_279 (tg := 300) rfl kt kf
theorem b142_282 {x : zXs} {F : zF} (hF : zSh F) {d : Nat} {V : Nat → Nat → Int32} {T : Nat → Nat → Int64} {Q : Option Value → zG → Prop} {o0 : Option Value} {l1 : Int32} {o2 : Option Value}   (kt : l1 = (Int32.ofInt 42) → E x F d 142 300 [o0, some (.int l1), o2] [] (V, T) Q) (kf : ¬ (l1 = (Int32.ofInt 42)) → E x F d 142 288 [o0, some (.int l1), o2] [] (V, T) Q) : E x F d 142 282 [o0, some (.int l1), o2] [] (V, T) Q := by
  refine e_iload_n zd142_282 rfl ?_
  refine e_bipush zd142_283 (v := Int32.ofInt 42) (by decide +kernel) ?_
  exact e_icmp_eq zd142_285 (tg := 300) rfl kt kf
theorem b142_288 {x : zXs} {F : zF} (hF : zSh F) {d : Nat} {V : Nat → Nat → Int32} {T : Nat → Nat → Int64} {Q : Option Value → zG → Prop} {o0 : Option Value} {l1 : Int32} {o2 : Option Value}   (kt : l1 = (Int32.ofInt 60) → E x F d 142 300 [o0, some (.int l1), o2] [] (V, T) Q) (kf : ¬ (l1 = (Int32.ofInt 60)) → E x F d 142 294 [o0, some (.int l1), o2] [] (V, T) Q) : E x F d 142 288 [o0, some (.int l1), o2] [] (V, T) Q := by
  refine e_iload_n zd142_288 rfl ?_
  refine e_bipush zd142_289 (v := Int32.ofInt 60) (by decide +kernel) ?_
  exact e_icmp_eq zd142_291 (tg := 300) rfl kt kf
theorem b142_294 {x : zXs} {F : zF} (hF : zSh F) {d : Nat} {V : Nat → Nat → Int32} {T : Nat → Nat → Int64} {Q : Option Value → zG → Prop} {o0 : Option Value} {l1 : Int32} {o2 : Option Value}   (kt : ¬ l1 = (Int32.ofInt 61) → E x F d 142 321 [o0, some (.int l1), o2] [] (V, T) Q) (kf : ¬ (¬ l1 = (Int32.ofInt 61)) → E x F d 142 300 [o0, some (.int l1), o2] [] (V, T) Q) : E x F d 142 294 [o0, some (.int l1), o2] [] (V, T) Q := by
  refine e_iload_n zd142_294 rfl ?_
  refine e_bipush zd142_295 (v := Int32.ofInt 61) (by decide +kernel) ?_
  exact e_icmp_ne zd142_297 (tg := 321) rfl kt kf
theorem b142_300 {x : zXs} {F : zF} (hF : zSh F) {d : Nat} {V : Nat → Nat → Int32} {T : Nat → Nat → Int64} {Q : Option Value → zG → Prop} {l1 : Int32} {o2 : Option Value}   (k : E x F d 142 321 [some (.ref 59), some (.int l1), o2] [] (zu (zu V 59 22 (Int32.ofInt 3)) 59 21 (((zu V 59 22 (Int32.ofInt 3)) 59 21) + (Int32.ofInt 1)), zu T 59 24 l1.toInt64) Q) : E x F d 142 300 [some (.ref 59), some (.int l1), o2] [] (V, T) Q := by
  refine e_aload_n zd142_300 rfl rfl ?_
  refine e_iconst zd142_301 ?_
  refine e_putI zd142_302 (own := 8) (ci := 8) (kf := 22) (w := 880) (by decide +kernel) (by decide +kernel) (zsh_at hF rfl).1 (by decide +kernel) rfl ?_
  refine e_aload_n zd142_305 rfl rfl ?_
  refine e_iload_n zd142_306 rfl ?_
  refine e_i2l zd142_307 ?_
  refine e_putJ zd142_308 (own := 8) (ci := 8) (kf := 24) (w := 882) (by decide +kernel) (by decide +kernel) (zsh_at hF rfl).1 (by decide +kernel) rfl ?_
  refine e_aload_n zd142_311 rfl rfl ?_
  refine e_dup zd142_312 rfl ?_
  refine e_getI zd142_313 (own := 8) (ci := 8) (kf := 21) (w := 879) (by decide +kernel) (by decide +kernel) (zsh_at hF rfl).1 (by decide +kernel) rfl ?_
  refine e_iconst zd142_316 ?_
  refine e_iadd zd142_317 ?_
  refine e_putI zd142_318 (own := 8) (ci := 8) (kf := 21) (w := 879) (by decide +kernel) (by decide +kernel) (zsh_at hF rfl).1 (by decide +kernel) rfl ?_
  exact k
theorem b142_321 {x : zXs} {F : zF} (hF : zSh F) {d : Nat} {V : Nat → Nat → Int32} {T : Nat → Nat → Int64} {Q : Option Value → zG → Prop} {o0 : Option Value} {o1 : Option Value} {o2 : Option Value}   (k : Q none (V, T)) : E x F d 142 321 [o0, o1, o2] [] (V, T) Q := by
  exact e_vret zd142_321 zs142 k
theorem zd143_0 : zop 143 0 = some (.iload_n 1, 1) := by decide +kernel
theorem zd143_1 : zop 143 1 = some (.aload_n 0, 1) := by decide +kernel
theorem zd143_2 : zop 143 2 = some (.getfield 155, 3) := by decide +kernel
theorem zd143_5 : zop 143 5 = some (.if_icmp .ge 17, 3) := by decide +kernel
theorem zd143_8 : zop 143 8 = some (.aload_n 0, 1) := by decide +kernel
theorem zd143_9 : zop 143 9 = some (.getfield 13, 3) := by decide +kernel
theorem zd143_12 : zop 143 12 = some (.aload_n 0, 1) := by decide +kernel
theorem zd143_13 : zop 143 13 = some (.getfield 158, 3) := by decide +kernel
theorem zd143_16 : zop 143 16 = some (.iload_n 1, 1) := by decide +kernel
theorem zd143_17 : zop 143 17 = some (.iadd, 1) := by decide +kernel
theorem zd143_18 : zop 143 18 = some (.iaload, 1) := by decide +kernel
theorem zd143_19 : zop 143 19 = some (.goto 4, 3) := by decide +kernel
theorem zd143_22 : zop 143 22 = some (.iconst (-1), 1) := by decide +kernel
theorem zd143_23 : zop 143 23 = some (.ireturn, 1) := by decide +kernel
theorem b143_0 {x : zXs} {F : zF} (hF : zSh F) {d : Nat} {V : Nat → Nat → Int32} {T : Nat → Nat → Int64} {Q : Option Value → zG → Prop} {l1 : Int32}   (kt : (V 59 20) ≤ l1 → E x F d 143 22 [some (.ref 59), some (.int l1)] [] (V, T) Q) (kf : ¬ ((V 59 20) ≤ l1) → E x F d 143 8 [some (.ref 59), some (.int l1)] [] (V, T) Q) : E x F d 143 0 [some (.ref 59), some (.int l1)] [] (V, T) Q := by
  refine e_iload_n zd143_0 rfl ?_
  refine e_aload_n zd143_1 rfl rfl ?_
  refine e_getI zd143_2 (own := 8) (ci := 8) (kf := 20) (w := 878) (by decide +kernel) (by decide +kernel) (zsh_at hF rfl).1 (by decide +kernel) rfl ?_
  exact e_icmp_ge zd143_5 (tg := 22) rfl kt kf
theorem b143_8 {x : zXs} {F : zF} (hF : zSh F) {d : Nat} {V : Nat → Nat → Int32} {T : Nat → Nat → Int64} {Q : Option Value → zG → Prop} {l1 : Int32}  {i1 : Nat} (e1 : (V 59 19) + l1 = nI i1) (h1 : i1 < 960) (k : E x F d 143 23 [some (.ref 59), some (.int l1)] [.int (V 60 i1)] (V, T) Q) : E x F d 143 8 [some (.ref 59), some (.int l1)] [] (V, T) Q := by
  refine e_aload_n zd143_8 rfl rfl ?_
  refine e_getA zd143_9 (own := 8) (ci := 8) (kf := 1) (w := 859) (by decide +kernel) (by decide +kernel) (zsh_at hF rfl).1 (by decide +kernel) rfl (zrf_at hF (i := 59) rfl) ?_
  refine e_aload_n zd143_12 rfl rfl ?_
  refine e_getI zd143_13 (own := 8) (ci := 8) (kf := 19) (w := 877) (by decide +kernel) (by decide +kernel) (zsh_at hF rfl).1 (by decide +kernel) rfl ?_
  refine e_iload_n zd143_16 rfl ?_
  refine e_iadd zd143_17 ?_
  refine e_iald zd143_18 (i := i1) (zsh_at hF rfl) e1 h1 (by omega) ?_
  exact e_goto zd143_19 (tg := 23) rfl k
theorem b143_22 {x : zXs} {F : zF} (hF : zSh F) {d : Nat} {V : Nat → Nat → Int32} {T : Nat → Nat → Int64} {Q : Option Value → zG → Prop} {o0 : Option Value} {o1 : Option Value}   (k : E x F d 143 23 [o0, o1] [.int (Int32.ofInt (-1))] (V, T) Q) : E x F d 143 22 [o0, o1] [] (V, T) Q := by
  refine e_iconst zd143_22 ?_
  exact k
theorem b143_23 {x : zXs} {F : zF} (hF : zSh F) {d : Nat} {V : Nat → Nat → Int32} {T : Nat → Nat → Int64} {Q : Option Value → zG → Prop} {o0 : Option Value} {o1 : Option Value} {s0 : Int32}   (k : Q (some (.int s0)) (V, T)) : E x F d 143 23 [o0, o1] [.int s0] (V, T) Q := by
  exact e_ireti zd143_23 zs143 k
theorem zd144_0 : zop 144 0 = some (.aload_n 0, 1) := by decide +kernel
theorem zd144_1 : zop 144 1 = some (.getfield 185, 3) := by decide +kernel
theorem zd144_4 : zop 144 4 = some (.ifCond .ne 108, 3) := by decide +kernel
theorem zd144_7 : zop 144 7 = some (.aload_n 0, 1) := by decide +kernel
theorem zd144_8 : zop 144 8 = some (.getfield 170, 3) := by decide +kernel
theorem zd144_11 : zop 144 11 = some (.iconst 1, 1) := by decide +kernel
theorem zd144_12 : zop 144 12 = some (.if_icmp .ne 100, 3) := by decide +kernel
theorem zd144_15 : zop 144 15 = some (.aload_n 0, 1) := by decide +kernel
theorem zd144_16 : zop 144 16 = some (.getfield 161, 3) := by decide +kernel
theorem zd144_19 : zop 144 19 = some (.aload_n 0, 1) := by decide +kernel
theorem zd144_20 : zop 144 20 = some (.getfield 167, 3) := by decide +kernel
theorem zd144_23 : zop 144 23 = some (.bipush 8, 2) := by decide +kernel
theorem zd144_25 : zop 144 25 = some (.iadd, 1) := by decide +kernel
theorem zd144_26 : zop 144 26 = some (.if_icmp .gt 86, 3) := by decide +kernel
theorem zd144_29 : zop 144 29 = some (.aload_n 0, 1) := by decide +kernel
theorem zd144_30 : zop 144 30 = some (.iconst 0, 1) := by decide +kernel
theorem zd144_31 : zop 144 31 = some (.iload_n 1, 1) := by decide +kernel
theorem zd144_32 : zop 144 32 = some (.invokevirtual 192, 3) := by decide +kernel
theorem zd144_35 : zop 144 35 = some (.ifCond .eq 77, 3) := by decide +kernel
theorem zd144_38 : zop 144 38 = some (.aload_n 0, 1) := by decide +kernel
theorem zd144_39 : zop 144 39 = some (.iconst 1, 1) := by decide +kernel
theorem zd144_40 : zop 144 40 = some (.iload_n 2, 1) := by decide +kernel
theorem zd144_41 : zop 144 41 = some (.invokevirtual 192, 3) := by decide +kernel
theorem zd144_44 : zop 144 44 = some (.ifCond .eq 68, 3) := by decide +kernel
theorem zd144_47 : zop 144 47 = some (.aload_n 0, 1) := by decide +kernel
theorem zd144_48 : zop 144 48 = some (.iconst 2, 1) := by decide +kernel
theorem zd144_49 : zop 144 49 = some (.iload_n 3, 1) := by decide +kernel
theorem zd144_50 : zop 144 50 = some (.invokevirtual 192, 3) := by decide +kernel
theorem zd144_53 : zop 144 53 = some (.ifCond .eq 59, 3) := by decide +kernel
theorem zd144_56 : zop 144 56 = some (.aload_n 0, 1) := by decide +kernel
theorem zd144_57 : zop 144 57 = some (.iconst 3, 1) := by decide +kernel
theorem zd144_58 : zop 144 58 = some (.iload 4, 2) := by decide +kernel
theorem zd144_60 : zop 144 60 = some (.invokevirtual 192, 3) := by decide +kernel
theorem zd144_63 : zop 144 63 = some (.ifCond .eq 49, 3) := by decide +kernel
theorem zd144_66 : zop 144 66 = some (.aload_n 0, 1) := by decide +kernel
theorem zd144_67 : zop 144 67 = some (.iconst 4, 1) := by decide +kernel
theorem zd144_68 : zop 144 68 = some (.iload 5, 2) := by decide +kernel
theorem zd144_70 : zop 144 70 = some (.invokevirtual 192, 3) := by decide +kernel
theorem zd144_73 : zop 144 73 = some (.ifCond .eq 39, 3) := by decide +kernel
theorem zd144_76 : zop 144 76 = some (.aload_n 0, 1) := by decide +kernel
theorem zd144_77 : zop 144 77 = some (.iconst 5, 1) := by decide +kernel
theorem zd144_78 : zop 144 78 = some (.iload 6, 2) := by decide +kernel
theorem zd144_80 : zop 144 80 = some (.invokevirtual 192, 3) := by decide +kernel
theorem zd144_83 : zop 144 83 = some (.ifCond .eq 29, 3) := by decide +kernel
theorem zd144_86 : zop 144 86 = some (.aload_n 0, 1) := by decide +kernel
theorem zd144_87 : zop 144 87 = some (.bipush 6, 2) := by decide +kernel
theorem zd144_89 : zop 144 89 = some (.iload 7, 2) := by decide +kernel
theorem zd144_91 : zop 144 91 = some (.invokevirtual 192, 3) := by decide +kernel
theorem zd144_94 : zop 144 94 = some (.ifCond .eq 18, 3) := by decide +kernel
theorem zd144_97 : zop 144 97 = some (.aload_n 0, 1) := by decide +kernel
theorem zd144_98 : zop 144 98 = some (.bipush 7, 2) := by decide +kernel
theorem zd144_100 : zop 144 100 = some (.iload 8, 2) := by decide +kernel
theorem zd144_102 : zop 144 102 = some (.invokevirtual 192, 3) := by decide +kernel
theorem zd144_105 : zop 144 105 = some (.ifCond .eq 7, 3) := by decide +kernel
theorem zd144_108 : zop 144 108 = some (.iconst 1, 1) := by decide +kernel
theorem zd144_109 : zop 144 109 = some (.goto 4, 3) := by decide +kernel
theorem zd144_112 : zop 144 112 = some (.iconst 0, 1) := by decide +kernel
theorem zd144_113 : zop 144 113 = some (.ireturn, 1) := by decide +kernel
theorem b144_0 {x : zXs} {F : zF} (hF : zSh F) {d : Nat} {V : Nat → Nat → Int32} {T : Nat → Nat → Int64} {Q : Option Value → zG → Prop} {o1 : Option Value} {o2 : Option Value} {o3 : Option Value} {o4 : Option Value} {o5 : Option Value} {o6 : Option Value} {o7 : Option Value} {o8 : Option Value}   (kt : ¬ (V 59 26) = 0 → E x F d 144 112 [some (.ref 59), o1, o2, o3, o4, o5, o6, o7, o8] [] (V, T) Q) (kf : ¬ (¬ (V 59 26) = 0) → E x F d 144 7 [some (.ref 59), o1, o2, o3, o4, o5, o6, o7, o8] [] (V, T) Q) : E x F d 144 0 [some (.ref 59), o1, o2, o3, o4, o5, o6, o7, o8] [] (V, T) Q := by
  refine e_aload_n zd144_0 rfl rfl ?_
  refine e_getZ zd144_1 (own := 8) (ci := 8) (kf := 26) (w := 884) (by decide +kernel) (by decide +kernel) (zsh_at hF rfl).1 (by decide +kernel) rfl ?_
  exact e_if_ne zd144_4 (tg := 112) rfl kt kf
theorem b144_7 {x : zXs} {F : zF} (hF : zSh F) {d : Nat} {V : Nat → Nat → Int32} {T : Nat → Nat → Int64} {Q : Option Value → zG → Prop} {o1 : Option Value} {o2 : Option Value} {o3 : Option Value} {o4 : Option Value} {o5 : Option Value} {o6 : Option Value} {o7 : Option Value} {o8 : Option Value}   (kt : ¬ (V 59 22) = (Int32.ofInt 1) → E x F d 144 112 [some (.ref 59), o1, o2, o3, o4, o5, o6, o7, o8] [] (V, T) Q) (kf : ¬ (¬ (V 59 22) = (Int32.ofInt 1)) → E x F d 144 15 [some (.ref 59), o1, o2, o3, o4, o5, o6, o7, o8] [] (V, T) Q) : E x F d 144 7 [some (.ref 59), o1, o2, o3, o4, o5, o6, o7, o8] [] (V, T) Q := by
  refine e_aload_n zd144_7 rfl rfl ?_
  refine e_getI zd144_8 (own := 8) (ci := 8) (kf := 22) (w := 880) (by decide +kernel) (by decide +kernel) (zsh_at hF rfl).1 (by decide +kernel) rfl ?_
  refine e_iconst zd144_11 ?_
  exact e_icmp_ne zd144_12 (tg := 112) rfl kt kf
theorem b144_15 {x : zXs} {F : zF} (hF : zSh F) {d : Nat} {V : Nat → Nat → Int32} {T : Nat → Nat → Int64} {Q : Option Value → zG → Prop} {o1 : Option Value} {o2 : Option Value} {o3 : Option Value} {o4 : Option Value} {o5 : Option Value} {o6 : Option Value} {o7 : Option Value} {o8 : Option Value}   (kt : ((V 59 23) + (Int32.ofInt 8)) < (V 59 21) → E x F d 144 112 [some (.ref 59), o1, o2, o3, o4, o5, o6, o7, o8] [] (V, T) Q) (kf : ¬ (((V 59 23) + (Int32.ofInt 8)) < (V 59 21)) → E x F d 144 29 [some (.ref 59), o1, o2, o3, o4, o5, o6, o7, o8] [] (V, T) Q) : E x F d 144 15 [some (.ref 59), o1, o2, o3, o4, o5, o6, o7, o8] [] (V, T) Q := by
  refine e_aload_n zd144_15 rfl rfl ?_
  refine e_getI zd144_16 (own := 8) (ci := 8) (kf := 21) (w := 879) (by decide +kernel) (by decide +kernel) (zsh_at hF rfl).1 (by decide +kernel) rfl ?_
  refine e_aload_n zd144_19 rfl rfl ?_
  refine e_getI zd144_20 (own := 8) (ci := 8) (kf := 23) (w := 881) (by decide +kernel) (by decide +kernel) (zsh_at hF rfl).1 (by decide +kernel) rfl ?_
  refine e_bipush zd144_23 (v := Int32.ofInt 8) (by decide +kernel) ?_
  refine e_iadd zd144_25 ?_
  exact e_icmp_gt zd144_26 (tg := 112) rfl kt kf
theorem b144_29 {x : zXs} {F : zF} (hF : zSh F) {d : Nat} {V : Nat → Nat → Int32} {T : Nat → Nat → Int64} {Q : Option Value → zG → Prop} {l1 : Int32} {o2 : Option Value} {o3 : Option Value} {o4 : Option Value} {o5 : Option Value} {o6 : Option Value} {o7 : Option Value} {o8 : Option Value}   (k : E x F d 145 0 [some (.ref 59), some (.int (Int32.ofInt 0)), some (.int l1)] [] (V, T) (fun r G' => E x F (d + 1) 144 35 [some (.ref 59), some (.int l1), o2, o3, o4, o5, o6, o7, o8] (r.toList ++ []) G' Q)) : E x F (d + 1) 144 29 [some (.ref 59), some (.int l1), o2, o3, o4, o5, o6, o7, o8] [] (V, T) Q := by
  refine e_aload_n zd144_29 rfl rfl ?_
  refine e_iconst zd144_30 ?_
  refine e_iload_n zd144_31 rfl ?_
  exact e_callV zd144_32 (own := 8) (nest := false) (w := 1065) (by decide +kernel) (by decide +kernel) zs145 (as := [.int (Int32.ofInt 0), .int l1]) (rest := []) rfl rfl (zsh_at hF rfl).1 (by omega) (Nat.le_of_ble_eq_true rfl) rfl rfl rfl (by omega) k
theorem b144_35 {x : zXs} {F : zF} (hF : zSh F) {d : Nat} {V : Nat → Nat → Int32} {T : Nat → Nat → Int64} {Q : Option Value → zG → Prop} {o0 : Option Value} {o1 : Option Value} {o2 : Option Value} {o3 : Option Value} {o4 : Option Value} {o5 : Option Value} {o6 : Option Value} {o7 : Option Value} {o8 : Option Value} {s0 : Int32}   (kt : s0 = 0 → E x F d 144 112 [o0, o1, o2, o3, o4, o5, o6, o7, o8] [] (V, T) Q) (kf : ¬ (s0 = 0) → E x F d 144 38 [o0, o1, o2, o3, o4, o5, o6, o7, o8] [] (V, T) Q) : E x F d 144 35 [o0, o1, o2, o3, o4, o5, o6, o7, o8] [.int s0] (V, T) Q := by
  exact e_if_eq zd144_35 (tg := 112) rfl kt kf
theorem b144_38 {x : zXs} {F : zF} (hF : zSh F) {d : Nat} {V : Nat → Nat → Int32} {T : Nat → Nat → Int64} {Q : Option Value → zG → Prop} {o1 : Option Value} {l2 : Int32} {o3 : Option Value} {o4 : Option Value} {o5 : Option Value} {o6 : Option Value} {o7 : Option Value} {o8 : Option Value}   (k : E x F d 145 0 [some (.ref 59), some (.int (Int32.ofInt 1)), some (.int l2)] [] (V, T) (fun r G' => E x F (d + 1) 144 44 [some (.ref 59), o1, some (.int l2), o3, o4, o5, o6, o7, o8] (r.toList ++ []) G' Q)) : E x F (d + 1) 144 38 [some (.ref 59), o1, some (.int l2), o3, o4, o5, o6, o7, o8] [] (V, T) Q := by
  refine e_aload_n zd144_38 rfl rfl ?_
  refine e_iconst zd144_39 ?_
  refine e_iload_n zd144_40 rfl ?_
  exact e_callV zd144_41 (own := 8) (nest := false) (w := 1065) (by decide +kernel) (by decide +kernel) zs145 (as := [.int (Int32.ofInt 1), .int l2]) (rest := []) rfl rfl (zsh_at hF rfl).1 (by omega) (Nat.le_of_ble_eq_true rfl) rfl rfl rfl (by omega) k
theorem b144_44 {x : zXs} {F : zF} (hF : zSh F) {d : Nat} {V : Nat → Nat → Int32} {T : Nat → Nat → Int64} {Q : Option Value → zG → Prop} {o0 : Option Value} {o1 : Option Value} {o2 : Option Value} {o3 : Option Value} {o4 : Option Value} {o5 : Option Value} {o6 : Option Value} {o7 : Option Value} {o8 : Option Value} {s0 : Int32}   (kt : s0 = 0 → E x F d 144 112 [o0, o1, o2, o3, o4, o5, o6, o7, o8] [] (V, T) Q) (kf : ¬ (s0 = 0) → E x F d 144 47 [o0, o1, o2, o3, o4, o5, o6, o7, o8] [] (V, T) Q) : E x F d 144 44 [o0, o1, o2, o3, o4, o5, o6, o7, o8] [.int s0] (V, T) Q := by
  exact e_if_eq zd144_44 (tg := 112) rfl kt kf
theorem b144_47 {x : zXs} {F : zF} (hF : zSh F) {d : Nat} {V : Nat → Nat → Int32} {T : Nat → Nat → Int64} {Q : Option Value → zG → Prop} {o1 : Option Value} {o2 : Option Value} {l3 : Int32} {o4 : Option Value} {o5 : Option Value} {o6 : Option Value} {o7 : Option Value} {o8 : Option Value}   (k : E x F d 145 0 [some (.ref 59), some (.int (Int32.ofInt 2)), some (.int l3)] [] (V, T) (fun r G' => E x F (d + 1) 144 53 [some (.ref 59), o1, o2, some (.int l3), o4, o5, o6, o7, o8] (r.toList ++ []) G' Q)) : E x F (d + 1) 144 47 [some (.ref 59), o1, o2, some (.int l3), o4, o5, o6, o7, o8] [] (V, T) Q := by
  refine e_aload_n zd144_47 rfl rfl ?_
  refine e_iconst zd144_48 ?_
  refine e_iload_n zd144_49 rfl ?_
  exact e_callV zd144_50 (own := 8) (nest := false) (w := 1065) (by decide +kernel) (by decide +kernel) zs145 (as := [.int (Int32.ofInt 2), .int l3]) (rest := []) rfl rfl (zsh_at hF rfl).1 (by omega) (Nat.le_of_ble_eq_true rfl) rfl rfl rfl (by omega) k
theorem b144_53 {x : zXs} {F : zF} (hF : zSh F) {d : Nat} {V : Nat → Nat → Int32} {T : Nat → Nat → Int64} {Q : Option Value → zG → Prop} {o0 : Option Value} {o1 : Option Value} {o2 : Option Value} {o3 : Option Value} {o4 : Option Value} {o5 : Option Value} {o6 : Option Value} {o7 : Option Value} {o8 : Option Value} {s0 : Int32}   (kt : s0 = 0 → E x F d 144 112 [o0, o1, o2, o3, o4, o5, o6, o7, o8] [] (V, T) Q) (kf : ¬ (s0 = 0) → E x F d 144 56 [o0, o1, o2, o3, o4, o5, o6, o7, o8] [] (V, T) Q) : E x F d 144 53 [o0, o1, o2, o3, o4, o5, o6, o7, o8] [.int s0] (V, T) Q := by
  exact e_if_eq zd144_53 (tg := 112) rfl kt kf
theorem b144_56 {x : zXs} {F : zF} (hF : zSh F) {d : Nat} {V : Nat → Nat → Int32} {T : Nat → Nat → Int64} {Q : Option Value → zG → Prop} {o1 : Option Value} {o2 : Option Value} {o3 : Option Value} {l4 : Int32} {o5 : Option Value} {o6 : Option Value} {o7 : Option Value} {o8 : Option Value}   (k : E x F d 145 0 [some (.ref 59), some (.int (Int32.ofInt 3)), some (.int l4)] [] (V, T) (fun r G' => E x F (d + 1) 144 63 [some (.ref 59), o1, o2, o3, some (.int l4), o5, o6, o7, o8] (r.toList ++ []) G' Q)) : E x F (d + 1) 144 56 [some (.ref 59), o1, o2, o3, some (.int l4), o5, o6, o7, o8] [] (V, T) Q := by
  refine e_aload_n zd144_56 rfl rfl ?_
  refine e_iconst zd144_57 ?_
  refine e_iload zd144_58 rfl ?_
  exact e_callV zd144_60 (own := 8) (nest := false) (w := 1065) (by decide +kernel) (by decide +kernel) zs145 (as := [.int (Int32.ofInt 3), .int l4]) (rest := []) rfl rfl (zsh_at hF rfl).1 (by omega) (Nat.le_of_ble_eq_true rfl) rfl rfl rfl (by omega) k
theorem b144_63 {x : zXs} {F : zF} (hF : zSh F) {d : Nat} {V : Nat → Nat → Int32} {T : Nat → Nat → Int64} {Q : Option Value → zG → Prop} {o0 : Option Value} {o1 : Option Value} {o2 : Option Value} {o3 : Option Value} {o4 : Option Value} {o5 : Option Value} {o6 : Option Value} {o7 : Option Value} {o8 : Option Value} {s0 : Int32}   (kt : s0 = 0 → E x F d 144 112 [o0, o1, o2, o3, o4, o5, o6, o7, o8] [] (V, T) Q) (kf : ¬ (s0 = 0) → E x F d 144 66 [o0, o1, o2, o3, o4, o5, o6, o7, o8] [] (V, T) Q) : E x F d 144 63 [o0, o1, o2, o3, o4, o5, o6, o7, o8] [.int s0] (V, T) Q := by
  exact e_if_eq zd144_63 (tg := 112) rfl kt kf
theorem b144_66 {x : zXs} {F : zF} (hF : zSh F) {d : Nat} {V : Nat → Nat → Int32} {T : Nat → Nat → Int64} {Q : Option Value → zG → Prop} {o1 : Option Value} {o2 : Option Value} {o3 : Option Value} {o4 : Option Value} {l5 : Int32} {o6 : Option Value} {o7 : Option Value} {o8 : Option Value}   (k : E x F d 145 0 [some (.ref 59), some (.int (Int32.ofInt 4)), some (.int l5)] [] (V, T) (fun r G' => E x F (d + 1) 144 73 [some (.ref 59), o1, o2, o3, o4, some (.int l5), o6, o7, o8] (r.toList ++ []) G' Q)) : E x F (d + 1) 144 66 [some (.ref 59), o1, o2, o3, o4, some (.int l5), o6, o7, o8] [] (V, T) Q := by
  refine e_aload_n zd144_66 rfl rfl ?_
  refine e_iconst zd144_67 ?_
  refine e_iload zd144_68 rfl ?_
  exact e_callV zd144_70 (own := 8) (nest := false) (w := 1065) (by decide +kernel) (by decide +kernel) zs145 (as := [.int (Int32.ofInt 4), .int l5]) (rest := []) rfl rfl (zsh_at hF rfl).1 (by omega) (Nat.le_of_ble_eq_true rfl) rfl rfl rfl (by omega) k
theorem b144_73 {x : zXs} {F : zF} (hF : zSh F) {d : Nat} {V : Nat → Nat → Int32} {T : Nat → Nat → Int64} {Q : Option Value → zG → Prop} {o0 : Option Value} {o1 : Option Value} {o2 : Option Value} {o3 : Option Value} {o4 : Option Value} {o5 : Option Value} {o6 : Option Value} {o7 : Option Value} {o8 : Option Value} {s0 : Int32}   (kt : s0 = 0 → E x F d 144 112 [o0, o1, o2, o3, o4, o5, o6, o7, o8] [] (V, T) Q) (kf : ¬ (s0 = 0) → E x F d 144 76 [o0, o1, o2, o3, o4, o5, o6, o7, o8] [] (V, T) Q) : E x F d 144 73 [o0, o1, o2, o3, o4, o5, o6, o7, o8] [.int s0] (V, T) Q := by
  exact e_if_eq zd144_73 (tg := 112) rfl kt kf
theorem b144_76 {x : zXs} {F : zF} (hF : zSh F) {d : Nat} {V : Nat → Nat → Int32} {T : Nat → Nat → Int64} {Q : Option Value → zG → Prop} {o1 : Option Value} {o2 : Option Value} {o3 : Option Value} {o4 : Option Value} {o5 : Option Value} {l6 : Int32} {o7 : Option Value} {o8 : Option Value}   (k : E x F d 145 0 [some (.ref 59), some (.int (Int32.ofInt 5)), some (.int l6)] [] (V, T) (fun r G' => E x F (d + 1) 144 83 [some (.ref 59), o1, o2, o3, o4, o5, some (.int l6), o7, o8] (r.toList ++ []) G' Q)) : E x F (d + 1) 144 76 [some (.ref 59), o1, o2, o3, o4, o5, some (.int l6), o7, o8] [] (V, T) Q := by
  refine e_aload_n zd144_76 rfl rfl ?_
  refine e_iconst zd144_77 ?_
  refine e_iload zd144_78 rfl ?_
  exact e_callV zd144_80 (own := 8) (nest := false) (w := 1065) (by decide +kernel) (by decide +kernel) zs145 (as := [.int (Int32.ofInt 5), .int l6]) (rest := []) rfl rfl (zsh_at hF rfl).1 (by omega) (Nat.le_of_ble_eq_true rfl) rfl rfl rfl (by omega) k
theorem b144_83 {x : zXs} {F : zF} (hF : zSh F) {d : Nat} {V : Nat → Nat → Int32} {T : Nat → Nat → Int64} {Q : Option Value → zG → Prop} {o0 : Option Value} {o1 : Option Value} {o2 : Option Value} {o3 : Option Value} {o4 : Option Value} {o5 : Option Value} {o6 : Option Value} {o7 : Option Value} {o8 : Option Value} {s0 : Int32}   (kt : s0 = 0 → E x F d 144 112 [o0, o1, o2, o3, o4, o5, o6, o7, o8] [] (V, T) Q) (kf : ¬ (s0 = 0) → E x F d 144 86 [o0, o1, o2, o3, o4, o5, o6, o7, o8] [] (V, T) Q) : E x F d 144 83 [o0, o1, o2, o3, o4, o5, o6, o7, o8] [.int s0] (V, T) Q := by
  exact e_if_eq zd144_83 (tg := 112) rfl kt kf
theorem b144_86 {x : zXs} {F : zF} (hF : zSh F) {d : Nat} {V : Nat → Nat → Int32} {T : Nat → Nat → Int64} {Q : Option Value → zG → Prop} {o1 : Option Value} {o2 : Option Value} {o3 : Option Value} {o4 : Option Value} {o5 : Option Value} {o6 : Option Value} {l7 : Int32} {o8 : Option Value}   (k : E x F d 145 0 [some (.ref 59), some (.int (Int32.ofInt 6)), some (.int l7)] [] (V, T) (fun r G' => E x F (d + 1) 144 94 [some (.ref 59), o1, o2, o3, o4, o5, o6, some (.int l7), o8] (r.toList ++ []) G' Q)) : E x F (d + 1) 144 86 [some (.ref 59), o1, o2, o3, o4, o5, o6, some (.int l7), o8] [] (V, T) Q := by
  refine e_aload_n zd144_86 rfl rfl ?_
  refine e_bipush zd144_87 (v := Int32.ofInt 6) (by decide +kernel) ?_
  refine e_iload zd144_89 rfl ?_
  exact e_callV zd144_91 (own := 8) (nest := false) (w := 1065) (by decide +kernel) (by decide +kernel) zs145 (as := [.int (Int32.ofInt 6), .int l7]) (rest := []) rfl rfl (zsh_at hF rfl).1 (by omega) (Nat.le_of_ble_eq_true rfl) rfl rfl rfl (by omega) k
theorem b144_94 {x : zXs} {F : zF} (hF : zSh F) {d : Nat} {V : Nat → Nat → Int32} {T : Nat → Nat → Int64} {Q : Option Value → zG → Prop} {o0 : Option Value} {o1 : Option Value} {o2 : Option Value} {o3 : Option Value} {o4 : Option Value} {o5 : Option Value} {o6 : Option Value} {o7 : Option Value} {o8 : Option Value} {s0 : Int32}   (kt : s0 = 0 → E x F d 144 112 [o0, o1, o2, o3, o4, o5, o6, o7, o8] [] (V, T) Q) (kf : ¬ (s0 = 0) → E x F d 144 97 [o0, o1, o2, o3, o4, o5, o6, o7, o8] [] (V, T) Q) : E x F d 144 94 [o0, o1, o2, o3, o4, o5, o6, o7, o8] [.int s0] (V, T) Q := by
  exact e_if_eq zd144_94 (tg := 112) rfl kt kf
theorem b144_97 {x : zXs} {F : zF} (hF : zSh F) {d : Nat} {V : Nat → Nat → Int32} {T : Nat → Nat → Int64} {Q : Option Value → zG → Prop} {o1 : Option Value} {o2 : Option Value} {o3 : Option Value} {o4 : Option Value} {o5 : Option Value} {o6 : Option Value} {o7 : Option Value} {l8 : Int32}   (k : E x F d 145 0 [some (.ref 59), some (.int (Int32.ofInt 7)), some (.int l8)] [] (V, T) (fun r G' => E x F (d + 1) 144 105 [some (.ref 59), o1, o2, o3, o4, o5, o6, o7, some (.int l8)] (r.toList ++ []) G' Q)) : E x F (d + 1) 144 97 [some (.ref 59), o1, o2, o3, o4, o5, o6, o7, some (.int l8)] [] (V, T) Q := by
  refine e_aload_n zd144_97 rfl rfl ?_
  refine e_bipush zd144_98 (v := Int32.ofInt 7) (by decide +kernel) ?_
  refine e_iload zd144_100 rfl ?_
  exact e_callV zd144_102 (own := 8) (nest := false) (w := 1065) (by decide +kernel) (by decide +kernel) zs145 (as := [.int (Int32.ofInt 7), .int l8]) (rest := []) rfl rfl (zsh_at hF rfl).1 (by omega) (Nat.le_of_ble_eq_true rfl) rfl rfl rfl (by omega) k
theorem b144_105 {x : zXs} {F : zF} (hF : zSh F) {d : Nat} {V : Nat → Nat → Int32} {T : Nat → Nat → Int64} {Q : Option Value → zG → Prop} {o0 : Option Value} {o1 : Option Value} {o2 : Option Value} {o3 : Option Value} {o4 : Option Value} {o5 : Option Value} {o6 : Option Value} {o7 : Option Value} {o8 : Option Value} {s0 : Int32}   (kt : s0 = 0 → E x F d 144 112 [o0, o1, o2, o3, o4, o5, o6, o7, o8] [] (V, T) Q) (kf : ¬ (s0 = 0) → E x F d 144 108 [o0, o1, o2, o3, o4, o5, o6, o7, o8] [] (V, T) Q) : E x F d 144 105 [o0, o1, o2, o3, o4, o5, o6, o7, o8] [.int s0] (V, T) Q := by
  exact e_if_eq zd144_105 (tg := 112) rfl kt kf
theorem b144_108 {x : zXs} {F : zF} (hF : zSh F) {d : Nat} {V : Nat → Nat → Int32} {T : Nat → Nat → Int64} {Q : Option Value → zG → Prop} {o0 : Option Value} {o1 : Option Value} {o2 : Option Value} {o3 : Option Value} {o4 : Option Value} {o5 : Option Value} {o6 : Option Value} {o7 : Option Value} {o8 : Option Value}   (k : E x F d 144 113 [o0, o1, o2, o3, o4, o5, o6, o7, o8] [.int (Int32.ofInt 1)] (V, T) Q) : E x F d 144 108 [o0, o1, o2, o3, o4, o5, o6, o7, o8] [] (V, T) Q := by
  refine e_iconst zd144_108 ?_
  exact e_goto zd144_109 (tg := 113) rfl k
theorem b144_112 {x : zXs} {F : zF} (hF : zSh F) {d : Nat} {V : Nat → Nat → Int32} {T : Nat → Nat → Int64} {Q : Option Value → zG → Prop} {o0 : Option Value} {o1 : Option Value} {o2 : Option Value} {o3 : Option Value} {o4 : Option Value} {o5 : Option Value} {o6 : Option Value} {o7 : Option Value} {o8 : Option Value}   (k : E x F d 144 113 [o0, o1, o2, o3, o4, o5, o6, o7, o8] [.int (Int32.ofInt 0)] (V, T) Q) : E x F d 144 112 [o0, o1, o2, o3, o4, o5, o6, o7, o8] [] (V, T) Q := by
  refine e_iconst zd144_112 ?_
  exact k
theorem b144_113 {x : zXs} {F : zF} (hF : zSh F) {d : Nat} {V : Nat → Nat → Int32} {T : Nat → Nat → Int64} {Q : Option Value → zG → Prop} {o0 : Option Value} {o1 : Option Value} {o2 : Option Value} {o3 : Option Value} {o4 : Option Value} {o5 : Option Value} {o6 : Option Value} {o7 : Option Value} {o8 : Option Value} {s0 : Int32}  (b1 : narrow .boolean (.int s0) = .int s0) (k : Q (some (.int s0)) (V, T)) : E x F d 144 113 [o0, o1, o2, o3, o4, o5, o6, o7, o8] [.int s0] (V, T) Q := by
  exact e_iretz zd144_113 zs144 b1 k
theorem zd145_0 : zop 145 0 = some (.aload_n 0, 1) := by decide +kernel
theorem zd145_1 : zop 145 1 = some (.getfield 167, 3) := by decide +kernel
theorem zd145_4 : zop 145 4 = some (.iload_n 1, 1) := by decide +kernel
theorem zd145_5 : zop 145 5 = some (.iadd, 1) := by decide +kernel
theorem zd145_6 : zop 145 6 = some (.aload_n 0, 1) := by decide +kernel
theorem zd145_7 : zop 145 7 = some (.getfield 161, 3) := by decide +kernel
theorem zd145_10 : zop 145 10 = some (.if_icmp .ge 25, 3) := by decide +kernel
theorem zd145_13 : zop 145 13 = some (.aload_n 0, 1) := by decide +kernel
theorem zd145_14 : zop 145 14 = some (.aload_n 0, 1) := by decide +kernel
theorem zd145_15 : zop 145 15 = some (.getfield 167, 3) := by decide +kernel
theorem zd145_18 : zop 145 18 = some (.iload_n 1, 1) := by decide +kernel
theorem zd145_19 : zop 145 19 = some (.iadd, 1) := by decide +kernel
theorem zd145_20 : zop 145 20 = some (.invokevirtual 164, 3) := by decide +kernel
theorem zd145_23 : zop 145 23 = some (.iload_n 2, 1) := by decide +kernel
theorem zd145_24 : zop 145 24 = some (.if_icmp .ne 7, 3) := by decide +kernel
theorem zd145_27 : zop 145 27 = some (.iconst 1, 1) := by decide +kernel
theorem zd145_28 : zop 145 28 = some (.goto 16, 3) := by decide +kernel
theorem zd145_31 : zop 145 31 = some (.iconst 0, 1) := by decide +kernel
theorem zd145_32 : zop 145 32 = some (.goto 12, 3) := by decide +kernel
theorem zd145_35 : zop 145 35 = some (.iload_n 2, 1) := by decide +kernel
theorem zd145_36 : zop 145 36 = some (.ifCond .ne 7, 3) := by decide +kernel
theorem zd145_39 : zop 145 39 = some (.iconst 1, 1) := by decide +kernel
theorem zd145_40 : zop 145 40 = some (.goto 4, 3) := by decide +kernel
theorem zd145_43 : zop 145 43 = some (.iconst 0, 1) := by decide +kernel
theorem zd145_44 : zop 145 44 = some (.ireturn, 1) := by decide +kernel
theorem b145_0 {x : zXs} {F : zF} (hF : zSh F) {d : Nat} {V : Nat → Nat → Int32} {T : Nat → Nat → Int64} {Q : Option Value → zG → Prop} {l1 : Int32} {o2 : Option Value}   (kt : (V 59 21) ≤ ((V 59 23) + l1) → E x F d 145 35 [some (.ref 59), some (.int l1), o2] [] (V, T) Q) (kf : ¬ ((V 59 21) ≤ ((V 59 23) + l1)) → E x F d 145 13 [some (.ref 59), some (.int l1), o2] [] (V, T) Q) : E x F d 145 0 [some (.ref 59), some (.int l1), o2] [] (V, T) Q := by
  refine e_aload_n zd145_0 rfl rfl ?_
  refine e_getI zd145_1 (own := 8) (ci := 8) (kf := 23) (w := 881) (by decide +kernel) (by decide +kernel) (zsh_at hF rfl).1 (by decide +kernel) rfl ?_
  refine e_iload_n zd145_4 rfl ?_
  refine e_iadd zd145_5 ?_
  refine e_aload_n zd145_6 rfl rfl ?_
  refine e_getI zd145_7 (own := 8) (ci := 8) (kf := 21) (w := 879) (by decide +kernel) (by decide +kernel) (zsh_at hF rfl).1 (by decide +kernel) rfl ?_
  exact e_icmp_ge zd145_10 (tg := 35) rfl kt kf
theorem b145_13 {x : zXs} {F : zF} (hF : zSh F) {d : Nat} {V : Nat → Nat → Int32} {T : Nat → Nat → Int64} {Q : Option Value → zG → Prop} {l1 : Int32} {o2 : Option Value}   (k : E x F d 143 0 [some (.ref 59), some (.int ((V 59 23) + l1))] [] (V, T) (fun r G' => E x F (d + 1) 145 23 [some (.ref 59), some (.int l1), o2] (r.toList ++ []) G' Q)) : E x F (d + 1) 145 13 [some (.ref 59), some (.int l1), o2] [] (V, T) Q := by
  refine e_aload_n zd145_13 rfl rfl ?_
  refine e_aload_n zd145_14 rfl rfl ?_
  refine e_getI zd145_15 (own := 8) (ci := 8) (kf := 23) (w := 881) (by decide +kernel) (by decide +kernel) (zsh_at hF rfl).1 (by decide +kernel) rfl ?_
  refine e_iload_n zd145_18 rfl ?_
  refine e_iadd zd145_19 ?_
  exact e_callV zd145_20 (own := 8) (nest := false) (w := 1053) (by decide +kernel) (by decide +kernel) zs143 (as := [.int ((V 59 23) + l1)]) (rest := []) rfl rfl (zsh_at hF rfl).1 (by omega) (Nat.le_of_ble_eq_true rfl) rfl rfl rfl (by omega) k
theorem b145_23 {x : zXs} {F : zF} (hF : zSh F) {d : Nat} {V : Nat → Nat → Int32} {T : Nat → Nat → Int64} {Q : Option Value → zG → Prop} {o0 : Option Value} {o1 : Option Value} {l2 : Int32} {s0 : Int32}   (kt : ¬ s0 = l2 → E x F d 145 31 [o0, o1, some (.int l2)] [] (V, T) Q) (kf : ¬ (¬ s0 = l2) → E x F d 145 27 [o0, o1, some (.int l2)] [] (V, T) Q) : E x F d 145 23 [o0, o1, some (.int l2)] [.int s0] (V, T) Q := by
  refine e_iload_n zd145_23 rfl ?_
  exact e_icmp_ne zd145_24 (tg := 31) rfl kt kf
theorem b145_27 {x : zXs} {F : zF} (hF : zSh F) {d : Nat} {V : Nat → Nat → Int32} {T : Nat → Nat → Int64} {Q : Option Value → zG → Prop} {o0 : Option Value} {o1 : Option Value} {o2 : Option Value}   (k : E x F d 145 44 [o0, o1, o2] [.int (Int32.ofInt 1)] (V, T) Q) : E x F d 145 27 [o0, o1, o2] [] (V, T) Q := by
  refine e_iconst zd145_27 ?_
  exact e_goto zd145_28 (tg := 44) rfl k
theorem b145_31 {x : zXs} {F : zF} (hF : zSh F) {d : Nat} {V : Nat → Nat → Int32} {T : Nat → Nat → Int64} {Q : Option Value → zG → Prop} {o0 : Option Value} {o1 : Option Value} {o2 : Option Value}   (k : E x F d 145 44 [o0, o1, o2] [.int (Int32.ofInt 0)] (V, T) Q) : E x F d 145 31 [o0, o1, o2] [] (V, T) Q := by
  refine e_iconst zd145_31 ?_
  exact e_goto zd145_32 (tg := 44) rfl k
theorem b145_35 {x : zXs} {F : zF} (hF : zSh F) {d : Nat} {V : Nat → Nat → Int32} {T : Nat → Nat → Int64} {Q : Option Value → zG → Prop} {o0 : Option Value} {o1 : Option Value} {l2 : Int32}   (kt : ¬ l2 = 0 → E x F d 145 43 [o0, o1, some (.int l2)] [] (V, T) Q) (kf : ¬ (¬ l2 = 0) → E x F d 145 39 [o0, o1, some (.int l2)] [] (V, T) Q) : E x F d 145 35 [o0, o1, some (.int l2)] [] (V, T) Q := by
  refine e_iload_n zd145_35 rfl ?_
  exact e_if_ne zd145_36 (tg := 43) rfl kt kf
theorem b145_39 {x : zXs} {F : zF} (hF : zSh F) {d : Nat} {V : Nat → Nat → Int32} {T : Nat → Nat → Int64} {Q : Option Value → zG → Prop} {o0 : Option Value} {o1 : Option Value} {o2 : Option Value}   (k : E x F d 145 44 [o0, o1, o2] [.int (Int32.ofInt 1)] (V, T) Q) : E x F d 145 39 [o0, o1, o2] [] (V, T) Q := by
  refine e_iconst zd145_39 ?_
  exact e_goto zd145_40 (tg := 44) rfl k
theorem b145_43 {x : zXs} {F : zF} (hF : zSh F) {d : Nat} {V : Nat → Nat → Int32} {T : Nat → Nat → Int64} {Q : Option Value → zG → Prop} {o0 : Option Value} {o1 : Option Value} {o2 : Option Value}   (k : E x F d 145 44 [o0, o1, o2] [.int (Int32.ofInt 0)] (V, T) Q) : E x F d 145 43 [o0, o1, o2] [] (V, T) Q := by
  refine e_iconst zd145_43 ?_
  exact k
theorem b145_44 {x : zXs} {F : zF} (hF : zSh F) {d : Nat} {V : Nat → Nat → Int32} {T : Nat → Nat → Int64} {Q : Option Value → zG → Prop} {o0 : Option Value} {o1 : Option Value} {o2 : Option Value} {s0 : Int32}  (b1 : narrow .boolean (.int s0) = .int s0) (k : Q (some (.int s0)) (V, T)) : E x F d 145 44 [o0, o1, o2] [.int s0] (V, T) Q := by
  exact e_iretz zd145_44 zs145 b1 k
theorem zd146_0 : zop 146 0 = some (.iload_n 1, 1) := by decide +kernel
theorem zd146_1 : zop 146 1 = some (.ifCond .ne 7, 3) := by decide +kernel
theorem zd146_4 : zop 146 4 = some (.aload_n 0, 1) := by decide +kernel
theorem zd146_5 : zop 146 5 = some (.invokevirtual 199, 3) := by decide +kernel
theorem zd146_8 : zop 146 8 = some (.aload_n 0, 1) := by decide +kernel
theorem zd146_9 : zop 146 9 = some (.getfield 185, 3) := by decide +kernel
theorem zd146_12 : zop 146 12 = some (.ifCond .ne 7, 3) := by decide +kernel
theorem zd146_15 : zop 146 15 = some (.aload_n 0, 1) := by decide +kernel
theorem zd146_16 : zop 146 16 = some (.invokevirtual 202, 3) := by decide +kernel
theorem zd146_19 : zop 146 19 = some (.aload_n 0, 1) := by decide +kernel
theorem zd146_20 : zop 146 20 = some (.getfield 185, 3) := by decide +kernel
theorem zd146_23 : zop 146 23 = some (.ifCond .eq 7, 3) := by decide +kernel
theorem zd146_26 : zop 146 26 = some (.iconst 0, 1) := by decide +kernel
theorem zd146_27 : zop 146 27 = some (.goto 7, 3) := by decide +kernel
theorem zd146_30 : zop 146 30 = some (.aload_n 0, 1) := by decide +kernel
theorem zd146_31 : zop 146 31 = some (.invokevirtual 238, 3) := by decide +kernel
theorem zd146_34 : zop 146 34 = some (.istore_n 2, 1) := by decide +kernel
theorem zd146_35 : zop 146 35 = some (.aload_n 0, 1) := by decide +kernel
theorem zd146_36 : zop 146 36 = some (.bipush 59, 2) := by decide +kernel
theorem zd146_38 : zop 146 38 = some (.invokevirtual 227, 3) := by decide +kernel
theorem zd146_41 : zop 146 41 = some (.ifCond .ne 7, 3) := by decide +kernel
theorem zd146_44 : zop 146 44 = some (.aload_n 0, 1) := by decide +kernel
theorem zd146_45 : zop 146 45 = some (.invokevirtual 199, 3) := by decide +kernel
theorem zd146_48 : zop 146 48 = some (.aload_n 0, 1) := by decide +kernel
theorem zd146_49 : zop 146 49 = some (.getfield 185, 3) := by decide +kernel
theorem zd146_52 : zop 146 52 = some (.ifCond .ne 7, 3) := by decide +kernel
theorem zd146_55 : zop 146 55 = some (.aload_n 0, 1) := by decide +kernel
theorem zd146_56 : zop 146 56 = some (.invokevirtual 202, 3) := by decide +kernel
theorem zd146_59 : zop 146 59 = some (.iload_n 2, 1) := by decide +kernel
theorem zd146_60 : zop 146 60 = some (.ireturn, 1) := by decide +kernel
theorem b146_0 {x : zXs} {F : zF} (hF : zSh F) {d : Nat} {V : Nat → Nat → Int32} {T : Nat → Nat → Int64} {Q : Option Value → zG → Prop} {o0 : Option Value} {l1 : Int32} {o2 : Option Value}   (kt : ¬ l1 = 0 → E x F d 146 8 [o0, some (.int l1), o2] [] (V, T) Q) (kf : ¬ (¬ l1 = 0) → E x F d 146 4 [o0, some (.int l1), o2] [] (V, T) Q) : E x F d 146 0 [o0, some (.int l1), o2] [] (V, T) Q := by
  refine e_iload_n zd146_0 rfl ?_
  exact e_if_ne zd146_1 (tg := 8) rfl kt kf
theorem b146_4 {x : zXs} {F : zF} (hF : zSh F) {d : Nat} {V : Nat → Nat → Int32} {T : Nat → Nat → Int64} {Q : Option Value → zG → Prop} {o1 : Option Value} {o2 : Option Value}   (k : E x F d 147 0 [some (.ref 59)] [] (V, T) (fun r G' => E x F (d + 1) 146 8 [some (.ref 59), o1, o2] (r.toList ++ []) G' Q)) : E x F (d + 1) 146 4 [some (.ref 59), o1, o2] [] (V, T) Q := by
  refine e_aload_n zd146_4 rfl rfl ?_
  exact e_callV zd146_5 (own := 8) (nest := false) (w := 1073) (by decide +kernel) (by decide +kernel) zs147 (as := []) (rest := []) rfl rfl (zsh_at hF rfl).1 (by omega) (Nat.le_of_ble_eq_true rfl) rfl rfl rfl (by omega) k
theorem b146_8 {x : zXs} {F : zF} (hF : zSh F) {d : Nat} {V : Nat → Nat → Int32} {T : Nat → Nat → Int64} {Q : Option Value → zG → Prop} {o1 : Option Value} {o2 : Option Value}   (kt : ¬ (V 59 26) = 0 → E x F d 146 19 [some (.ref 59), o1, o2] [] (V, T) Q) (kf : ¬ (¬ (V 59 26) = 0) → E x F d 146 15 [some (.ref 59), o1, o2] [] (V, T) Q) : E x F d 146 8 [some (.ref 59), o1, o2] [] (V, T) Q := by
  refine e_aload_n zd146_8 rfl rfl ?_
  refine e_getZ zd146_9 (own := 8) (ci := 8) (kf := 26) (w := 884) (by decide +kernel) (by decide +kernel) (zsh_at hF rfl).1 (by decide +kernel) rfl ?_
  exact e_if_ne zd146_12 (tg := 19) rfl kt kf
theorem b146_15 {x : zXs} {F : zF} (hF : zSh F) {d : Nat} {V : Nat → Nat → Int32} {T : Nat → Nat → Int64} {Q : Option Value → zG → Prop} {o1 : Option Value} {o2 : Option Value}   (k : E x F d 142 0 [some (.ref 59), none, none] [] (V, T) (fun r G' => E x F (d + 1) 146 19 [some (.ref 59), o1, o2] (r.toList ++ []) G' Q)) : E x F (d + 1) 146 15 [some (.ref 59), o1, o2] [] (V, T) Q := by
  refine e_aload_n zd146_15 rfl rfl ?_
  exact e_callV zd146_16 (own := 8) (nest := false) (w := 1049) (by decide +kernel) (by decide +kernel) zs142 (as := []) (rest := []) rfl rfl (zsh_at hF rfl).1 (by omega) (Nat.le_of_ble_eq_true rfl) rfl rfl rfl (by omega) k
theorem b146_19 {x : zXs} {F : zF} (hF : zSh F) {d : Nat} {V : Nat → Nat → Int32} {T : Nat → Nat → Int64} {Q : Option Value → zG → Prop} {o1 : Option Value} {o2 : Option Value}   (kt : (V 59 26) = 0 → E x F d 146 30 [some (.ref 59), o1, o2] [] (V, T) Q) (kf : ¬ ((V 59 26) = 0) → E x F d 146 26 [some (.ref 59), o1, o2] [] (V, T) Q) : E x F d 146 19 [some (.ref 59), o1, o2] [] (V, T) Q := by
  refine e_aload_n zd146_19 rfl rfl ?_
  refine e_getZ zd146_20 (own := 8) (ci := 8) (kf := 26) (w := 884) (by decide +kernel) (by decide +kernel) (zsh_at hF rfl).1 (by decide +kernel) rfl ?_
  exact e_if_eq zd146_23 (tg := 30) rfl kt kf
theorem b146_26 {x : zXs} {F : zF} (hF : zSh F) {d : Nat} {V : Nat → Nat → Int32} {T : Nat → Nat → Int64} {Q : Option Value → zG → Prop} {o0 : Option Value} {o1 : Option Value} {o2 : Option Value}   (k : E x F d 146 34 [o0, o1, o2] [.int (Int32.ofInt 0)] (V, T) Q) : E x F d 146 26 [o0, o1, o2] [] (V, T) Q := by
  refine e_iconst zd146_26 ?_
  exact e_goto zd146_27 (tg := 34) rfl k
theorem b146_30 {x : zXs} {F : zF} (hF : zSh F) {d : Nat} {V : Nat → Nat → Int32} {T : Nat → Nat → Int64} {Q : Option Value → zG → Prop} {o1 : Option Value} {o2 : Option Value}   (k : E x F d 148 0 [some (.ref 59), none, none] [] (V, T) (fun r G' => E x F (d + 1) 146 34 [some (.ref 59), o1, o2] (r.toList ++ []) G' Q)) : E x F (d + 1) 146 30 [some (.ref 59), o1, o2] [] (V, T) Q := by
  refine e_aload_n zd146_30 rfl rfl ?_
  exact e_callV zd146_31 (own := 8) (nest := false) (w := 1077) (by decide +kernel) (by decide +kernel) zs148 (as := []) (rest := []) rfl rfl (zsh_at hF rfl).1 (by omega) (Nat.le_of_ble_eq_true rfl) rfl rfl rfl (by omega) k
theorem b146_34 {x : zXs} {F : zF} (hF : zSh F) {d : Nat} {V : Nat → Nat → Int32} {T : Nat → Nat → Int64} {Q : Option Value → zG → Prop} {o1 : Option Value} {o2 : Option Value} {s0 : Int32}   (k : E x F d 155 0 [some (.ref 59), some (.int (Int32.ofInt 59))] [] (V, T) (fun r G' => E x F (d + 1) 146 41 [some (.ref 59), o1, some (.int s0)] (r.toList ++ []) G' Q)) : E x F (d + 1) 146 34 [some (.ref 59), o1, o2] [.int s0] (V, T) Q := by
  refine e_istore_n zd146_34 (by decide +kernel) (Nat.le_of_ble_eq_true rfl) ?_
  refine e_aload_n zd146_35 rfl rfl ?_
  refine e_bipush zd146_36 (v := Int32.ofInt 59) (by decide +kernel) ?_
  exact e_callV zd146_38 (own := 8) (nest := false) (w := 1105) (by decide +kernel) (by decide +kernel) zs155 (as := [.int (Int32.ofInt 59)]) (rest := []) rfl rfl (zsh_at hF rfl).1 (by omega) (Nat.le_of_ble_eq_true rfl) rfl rfl rfl (by omega) k
theorem b146_41 {x : zXs} {F : zF} (hF : zSh F) {d : Nat} {V : Nat → Nat → Int32} {T : Nat → Nat → Int64} {Q : Option Value → zG → Prop} {o0 : Option Value} {o1 : Option Value} {o2 : Option Value} {s0 : Int32}   (kt : ¬ s0 = 0 → E x F d 146 48 [o0, o1, o2] [] (V, T) Q) (kf : ¬ (¬ s0 = 0) → E x F d 146 44 [o0, o1, o2] [] (V, T) Q) : E x F d 146 41 [o0, o1, o2] [.int s0] (V, T) Q := by
  exact e_if_ne zd146_41 (tg := 48) rfl kt kf
theorem b146_44 {x : zXs} {F : zF} (hF : zSh F) {d : Nat} {V : Nat → Nat → Int32} {T : Nat → Nat → Int64} {Q : Option Value → zG → Prop} {o1 : Option Value} {o2 : Option Value}   (k : E x F d 147 0 [some (.ref 59)] [] (V, T) (fun r G' => E x F (d + 1) 146 48 [some (.ref 59), o1, o2] (r.toList ++ []) G' Q)) : E x F (d + 1) 146 44 [some (.ref 59), o1, o2] [] (V, T) Q := by
  refine e_aload_n zd146_44 rfl rfl ?_
  exact e_callV zd146_45 (own := 8) (nest := false) (w := 1073) (by decide +kernel) (by decide +kernel) zs147 (as := []) (rest := []) rfl rfl (zsh_at hF rfl).1 (by omega) (Nat.le_of_ble_eq_true rfl) rfl rfl rfl (by omega) k
theorem b146_48 {x : zXs} {F : zF} (hF : zSh F) {d : Nat} {V : Nat → Nat → Int32} {T : Nat → Nat → Int64} {Q : Option Value → zG → Prop} {o1 : Option Value} {o2 : Option Value}   (kt : ¬ (V 59 26) = 0 → E x F d 146 59 [some (.ref 59), o1, o2] [] (V, T) Q) (kf : ¬ (¬ (V 59 26) = 0) → E x F d 146 55 [some (.ref 59), o1, o2] [] (V, T) Q) : E x F d 146 48 [some (.ref 59), o1, o2] [] (V, T) Q := by
  refine e_aload_n zd146_48 rfl rfl ?_
  refine e_getZ zd146_49 (own := 8) (ci := 8) (kf := 26) (w := 884) (by decide +kernel) (by decide +kernel) (zsh_at hF rfl).1 (by decide +kernel) rfl ?_
  exact e_if_ne zd146_52 (tg := 59) rfl kt kf
theorem b146_55 {x : zXs} {F : zF} (hF : zSh F) {d : Nat} {V : Nat → Nat → Int32} {T : Nat → Nat → Int64} {Q : Option Value → zG → Prop} {o1 : Option Value} {o2 : Option Value}   (k : E x F d 142 0 [some (.ref 59), none, none] [] (V, T) (fun r G' => E x F (d + 1) 146 59 [some (.ref 59), o1, o2] (r.toList ++ []) G' Q)) : E x F (d + 1) 146 55 [some (.ref 59), o1, o2] [] (V, T) Q := by
  refine e_aload_n zd146_55 rfl rfl ?_
  exact e_callV zd146_56 (own := 8) (nest := false) (w := 1049) (by decide +kernel) (by decide +kernel) zs142 (as := []) (rest := []) rfl rfl (zsh_at hF rfl).1 (by omega) (Nat.le_of_ble_eq_true rfl) rfl rfl rfl (by omega) k
theorem b146_59 {x : zXs} {F : zF} (hF : zSh F) {d : Nat} {V : Nat → Nat → Int32} {T : Nat → Nat → Int64} {Q : Option Value → zG → Prop} {o0 : Option Value} {o1 : Option Value} {l2 : Int32}   (k : Q (some (.int l2)) (V, T)) : E x F d 146 59 [o0, o1, some (.int l2)] [] (V, T) Q := by
  refine e_iload_n zd146_59 rfl ?_
  exact e_ireti zd146_60 zs146 k
theorem zd147_0 : zop 147 0 = some (.aload_n 0, 1) := by decide +kernel
theorem zd147_1 : zop 147 1 = some (.getfield 185, 3) := by decide +kernel
theorem zd147_4 : zop 147 4 = some (.ifCond .ne 16, 3) := by decide +kernel
theorem zd147_7 : zop 147 7 = some (.aload_n 0, 1) := by decide +kernel
theorem zd147_8 : zop 147 8 = some (.iconst 1, 1) := by decide +kernel
theorem zd147_9 : zop 147 9 = some (.putfield 185, 3) := by decide +kernel
theorem zd147_12 : zop 147 12 = some (.aload_n 0, 1) := by decide +kernel
theorem zd147_13 : zop 147 13 = some (.aload_n 0, 1) := by decide +kernel
theorem zd147_14 : zop 147 14 = some (.getfield 167, 3) := by decide +kernel
theorem zd147_17 : zop 147 17 = some (.putfield 189, 3) := by decide +kernel
theorem zd147_20 : zop 147 20 = some (.return_, 1) := by decide +kernel
theorem b147_0 {x : zXs} {F : zF} (hF : zSh F) {d : Nat} {V : Nat → Nat → Int32} {T : Nat → Nat → Int64} {Q : Option Value → zG → Prop}    (kt : ¬ (V 59 26) = 0 → E x F d 147 20 [some (.ref 59)] [] (V, T) Q) (kf : ¬ (¬ (V 59 26) = 0) → E x F d 147 7 [some (.ref 59)] [] (V, T) Q) : E x F d 147 0 [some (.ref 59)] [] (V, T) Q := by
  refine e_aload_n zd147_0 rfl rfl ?_
  refine e_getZ zd147_1 (own := 8) (ci := 8) (kf := 26) (w := 884) (by decide +kernel) (by decide +kernel) (zsh_at hF rfl).1 (by decide +kernel) rfl ?_
  exact e_if_ne zd147_4 (tg := 20) rfl kt kf
theorem b147_7 {x : zXs} {F : zF} (hF : zSh F) {d : Nat} {V : Nat → Nat → Int32} {T : Nat → Nat → Int64} {Q : Option Value → zG → Prop}    (k : E x F d 147 20 [some (.ref 59)] [] (zu (zu V 59 26 (Int32.ofInt 1)) 59 27 ((zu V 59 26 (Int32.ofInt 1)) 59 23), T) Q) : E x F d 147 7 [some (.ref 59)] [] (V, T) Q := by
  refine e_aload_n zd147_7 rfl rfl ?_
  refine e_iconst zd147_8 ?_
  refine e_putZ zd147_9 (own := 8) (ci := 8) (kf := 26) (w := 884) (by decide +kernel) (by decide +kernel) (zsh_at hF rfl).1 (by decide +kernel) rfl (by decide +kernel) ?_
  refine e_aload_n zd147_12 rfl rfl ?_
  refine e_aload_n zd147_13 rfl rfl ?_
  refine e_getI zd147_14 (own := 8) (ci := 8) (kf := 23) (w := 881) (by decide +kernel) (by decide +kernel) (zsh_at hF rfl).1 (by decide +kernel) rfl ?_
  refine e_putI zd147_17 (own := 8) (ci := 8) (kf := 27) (w := 885) (by decide +kernel) (by decide +kernel) (zsh_at hF rfl).1 (by decide +kernel) rfl ?_
  exact k
theorem b147_20 {x : zXs} {F : zF} (hF : zSh F) {d : Nat} {V : Nat → Nat → Int32} {T : Nat → Nat → Int64} {Q : Option Value → zG → Prop} {o0 : Option Value}   (k : Q none (V, T)) : E x F d 147 20 [o0] [] (V, T) Q := by
  exact e_vret zd147_20 zs147 k
theorem zd148_0 : zop 148 0 = some (.aload_n 0, 1) := by decide +kernel
theorem zd148_1 : zop 148 1 = some (.invokevirtual 257, 3) := by decide +kernel
theorem zd148_4 : zop 148 4 = some (.istore_n 1, 1) := by decide +kernel
theorem zd148_5 : zop 148 5 = some (.aload_n 0, 1) := by decide +kernel
theorem zd148_6 : zop 148 6 = some (.bipush 111, 2) := by decide +kernel
theorem zd148_8 : zop 148 8 = some (.bipush 114, 2) := by decide +kernel
theorem zd148_10 : zop 148 10 = some (.iconst 0, 1) := by decide +kernel
theorem zd148_11 : zop 148 11 = some (.iconst 0, 1) := by decide +kernel
theorem zd148_12 : zop 148 12 = some (.iconst 0, 1) := by decide +kernel
theorem zd148_13 : zop 148 13 = some (.iconst 0, 1) := by decide +kernel
theorem zd148_14 : zop 148 14 = some (.iconst 0, 1) := by decide +kernel
theorem zd148_15 : zop 148 15 = some (.iconst 0, 1) := by decide +kernel
theorem zd148_16 : zop 148 16 = some (.invokevirtual 205, 3) := by decide +kernel
theorem zd148_19 : zop 148 19 = some (.ifCond .eq 29, 3) := by decide +kernel
theorem zd148_22 : zop 148 22 = some (.aload_n 0, 1) := by decide +kernel
theorem zd148_23 : zop 148 23 = some (.invokevirtual 202, 3) := by decide +kernel
theorem zd148_26 : zop 148 26 = some (.aload_n 0, 1) := by decide +kernel
theorem zd148_27 : zop 148 27 = some (.invokevirtual 257, 3) := by decide +kernel
theorem zd148_30 : zop 148 30 = some (.istore_n 2, 1) := by decide +kernel
theorem zd148_31 : zop 148 31 = some (.iload_n 1, 1) := by decide +kernel
theorem zd148_32 : zop 148 32 = some (.ifCond .ne 7, 3) := by decide +kernel
theorem zd148_35 : zop 148 35 = some (.iload_n 2, 1) := by decide +kernel
theorem zd148_36 : zop 148 36 = some (.ifCond .eq 7, 3) := by decide +kernel
theorem zd148_39 : zop 148 39 = some (.iconst 1, 1) := by decide +kernel
theorem zd148_40 : zop 148 40 = some (.goto 4, 3) := by decide +kernel
theorem zd148_43 : zop 148 43 = some (.iconst 0, 1) := by decide +kernel
theorem zd148_44 : zop 148 44 = some (.istore_n 1, 1) := by decide +kernel
theorem zd148_45 : zop 148 45 = some (.goto (-40), 3) := by decide +kernel
theorem zd148_48 : zop 148 48 = some (.iload_n 1, 1) := by decide +kernel
theorem zd148_49 : zop 148 49 = some (.ireturn, 1) := by decide +kernel
theorem b148_0 {x : zXs} {F : zF} (hF : zSh F) {d : Nat} {V : Nat → Nat → Int32} {T : Nat → Nat → Int64} {Q : Option Value → zG → Prop} {o1 : Option Value} {o2 : Option Value}   (k : E x F d 149 0 [some (.ref 59), none, none] [] (V, T) (fun r G' => E x F (d + 1) 148 4 [some (.ref 59), o1, o2] (r.toList ++ []) G' Q)) : E x F (d + 1) 148 0 [some (.ref 59), o1, o2] [] (V, T) Q := by
  refine e_aload_n zd148_0 rfl rfl ?_
  exact e_callV zd148_1 (own := 8) (nest := false) (w := 1081) (by decide +kernel) (by decide +kernel) zs149 (as := []) (rest := []) rfl rfl (zsh_at hF rfl).1 (by omega) (Nat.le_of_ble_eq_true rfl) rfl rfl rfl (by omega) k
theorem b148_4 {x : zXs} {F : zF} (hF : zSh F) {d : Nat} {V : Nat → Nat → Int32} {T : Nat → Nat → Int64} {Q : Option Value → zG → Prop} {o0 : Option Value} {o1 : Option Value} {o2 : Option Value} {s0 : Int32}   (k : E x F d 148 5 [o0, some (.int s0), o2] [] (V, T) Q) : E x F d 148 4 [o0, o1, o2] [.int s0] (V, T) Q := by
  refine e_istore_n zd148_4 (by decide +kernel) (Nat.le_of_ble_eq_true rfl) ?_
  exact k
theorem b148_5 {x : zXs} {F : zF} (hF : zSh F) {d : Nat} {V : Nat → Nat → Int32} {T : Nat → Nat → Int64} {Q : Option Value → zG → Prop} {o1 : Option Value} {o2 : Option Value}   (k : E x F d 144 0 [some (.ref 59), some (.int (Int32.ofInt 111)), some (.int (Int32.ofInt 114)), some (.int (Int32.ofInt 0)), some (.int (Int32.ofInt 0)), some (.int (Int32.ofInt 0)), some (.int (Int32.ofInt 0)), some (.int (Int32.ofInt 0)), some (.int (Int32.ofInt 0))] [] (V, T) (fun r G' => E x F (d + 1) 148 19 [some (.ref 59), o1, o2] (r.toList ++ []) G' Q)) : E x F (d + 1) 148 5 [some (.ref 59), o1, o2] [] (V, T) Q := by
  refine e_aload_n zd148_5 rfl rfl ?_
  refine e_bipush zd148_6 (v := Int32.ofInt 111) (by decide +kernel) ?_
  refine e_bipush zd148_8 (v := Int32.ofInt 114) (by decide +kernel) ?_
  refine e_iconst zd148_10 ?_
  refine e_iconst zd148_11 ?_
  refine e_iconst zd148_12 ?_
  refine e_iconst zd148_13 ?_
  refine e_iconst zd148_14 ?_
  refine e_iconst zd148_15 ?_
  exact e_callV zd148_16 (own := 8) (nest := false) (w := 1061) (by decide +kernel) (by decide +kernel) zs144 (as := [.int (Int32.ofInt 111), .int (Int32.ofInt 114), .int (Int32.ofInt 0), .int (Int32.ofInt 0), .int (Int32.ofInt 0), .int (Int32.ofInt 0), .int (Int32.ofInt 0), .int (Int32.ofInt 0)]) (rest := []) rfl rfl (zsh_at hF rfl).1 (by omega) (Nat.le_of_ble_eq_true rfl) rfl rfl rfl (by omega) k
theorem b148_19 {x : zXs} {F : zF} (hF : zSh F) {d : Nat} {V : Nat → Nat → Int32} {T : Nat → Nat → Int64} {Q : Option Value → zG → Prop} {o0 : Option Value} {o1 : Option Value} {o2 : Option Value} {s0 : Int32}   (kt : s0 = 0 → E x F d 148 48 [o0, o1, o2] [] (V, T) Q) (kf : ¬ (s0 = 0) → E x F d 148 22 [o0, o1, o2] [] (V, T) Q) : E x F d 148 19 [o0, o1, o2] [.int s0] (V, T) Q := by
  exact e_if_eq zd148_19 (tg := 48) rfl kt kf
theorem b148_22 {x : zXs} {F : zF} (hF : zSh F) {d : Nat} {V : Nat → Nat → Int32} {T : Nat → Nat → Int64} {Q : Option Value → zG → Prop} {o1 : Option Value} {o2 : Option Value}   (k : E x F d 142 0 [some (.ref 59), none, none] [] (V, T) (fun r G' => E x F (d + 1) 148 26 [some (.ref 59), o1, o2] (r.toList ++ []) G' Q)) : E x F (d + 1) 148 22 [some (.ref 59), o1, o2] [] (V, T) Q := by
  refine e_aload_n zd148_22 rfl rfl ?_
  exact e_callV zd148_23 (own := 8) (nest := false) (w := 1049) (by decide +kernel) (by decide +kernel) zs142 (as := []) (rest := []) rfl rfl (zsh_at hF rfl).1 (by omega) (Nat.le_of_ble_eq_true rfl) rfl rfl rfl (by omega) k
theorem b148_26 {x : zXs} {F : zF} (hF : zSh F) {d : Nat} {V : Nat → Nat → Int32} {T : Nat → Nat → Int64} {Q : Option Value → zG → Prop} {o1 : Option Value} {o2 : Option Value}   (k : E x F d 149 0 [some (.ref 59), none, none] [] (V, T) (fun r G' => E x F (d + 1) 148 30 [some (.ref 59), o1, o2] (r.toList ++ []) G' Q)) : E x F (d + 1) 148 26 [some (.ref 59), o1, o2] [] (V, T) Q := by
  refine e_aload_n zd148_26 rfl rfl ?_
  exact e_callV zd148_27 (own := 8) (nest := false) (w := 1081) (by decide +kernel) (by decide +kernel) zs149 (as := []) (rest := []) rfl rfl (zsh_at hF rfl).1 (by omega) (Nat.le_of_ble_eq_true rfl) rfl rfl rfl (by omega) k
theorem b148_30 {x : zXs} {F : zF} (hF : zSh F) {d : Nat} {V : Nat → Nat → Int32} {T : Nat → Nat → Int64} {Q : Option Value → zG → Prop} {o0 : Option Value} {l1 : Int32} {o2 : Option Value} {s0 : Int32}   (kt : ¬ l1 = 0 → E x F d 148 39 [o0, some (.int l1), some (.int s0)] [] (V, T) Q) (kf : ¬ (¬ l1 = 0) → E x F d 148 35 [o0, some (.int l1), some (.int s0)] [] (V, T) Q) : E x F d 148 30 [o0, some (.int l1), o2] [.int s0] (V, T) Q := by
  refine e_istore_n zd148_30 (by decide +kernel) (Nat.le_of_ble_eq_true rfl) ?_
  refine e_iload_n zd148_31 rfl ?_
  exact e_if_ne zd148_32 (tg := 39) rfl kt kf
theorem b148_35 {x : zXs} {F : zF} (hF : zSh F) {d : Nat} {V : Nat → Nat → Int32} {T : Nat → Nat → Int64} {Q : Option Value → zG → Prop} {o0 : Option Value} {o1 : Option Value} {l2 : Int32}   (kt : l2 = 0 → E x F d 148 43 [o0, o1, some (.int l2)] [] (V, T) Q) (kf : ¬ (l2 = 0) → E x F d 148 39 [o0, o1, some (.int l2)] [] (V, T) Q) : E x F d 148 35 [o0, o1, some (.int l2)] [] (V, T) Q := by
  refine e_iload_n zd148_35 rfl ?_
  exact e_if_eq zd148_36 (tg := 43) rfl kt kf
theorem b148_39 {x : zXs} {F : zF} (hF : zSh F) {d : Nat} {V : Nat → Nat → Int32} {T : Nat → Nat → Int64} {Q : Option Value → zG → Prop} {o0 : Option Value} {o1 : Option Value} {o2 : Option Value}   (k : E x F d 148 44 [o0, o1, o2] [.int (Int32.ofInt 1)] (V, T) Q) : E x F d 148 39 [o0, o1, o2] [] (V, T) Q := by
  refine e_iconst zd148_39 ?_
  exact e_goto zd148_40 (tg := 44) rfl k
theorem b148_43 {x : zXs} {F : zF} (hF : zSh F) {d : Nat} {V : Nat → Nat → Int32} {T : Nat → Nat → Int64} {Q : Option Value → zG → Prop} {o0 : Option Value} {o1 : Option Value} {o2 : Option Value}   (k : E x F d 148 44 [o0, o1, o2] [.int (Int32.ofInt 0)] (V, T) Q) : E x F d 148 43 [o0, o1, o2] [] (V, T) Q := by
  refine e_iconst zd148_43 ?_
  exact k
theorem b148_44 {x : zXs} {F : zF} (hF : zSh F) {d : Nat} {V : Nat → Nat → Int32} {T : Nat → Nat → Int64} {Q : Option Value → zG → Prop} {o0 : Option Value} {o1 : Option Value} {o2 : Option Value} {s0 : Int32}   (k : E x F d 148 5 [o0, some (.int s0), o2] [] (V, T) Q) : E x F d 148 44 [o0, o1, o2] [.int s0] (V, T) Q := by
  refine e_istore_n zd148_44 (by decide +kernel) (Nat.le_of_ble_eq_true rfl) ?_
  exact e_goto zd148_45 (tg := 5) rfl k
theorem b148_48 {x : zXs} {F : zF} (hF : zSh F) {d : Nat} {V : Nat → Nat → Int32} {T : Nat → Nat → Int64} {Q : Option Value → zG → Prop} {o0 : Option Value} {l1 : Int32} {o2 : Option Value}   (k : Q (some (.int l1)) (V, T)) : E x F d 148 48 [o0, some (.int l1), o2] [] (V, T) Q := by
  refine e_iload_n zd148_48 rfl ?_
  exact e_ireti zd148_49 zs148 k
theorem zd149_0 : zop 149 0 = some (.aload_n 0, 1) := by decide +kernel
theorem zd149_1 : zop 149 1 = some (.invokevirtual 249, 3) := by decide +kernel
theorem zd149_4 : zop 149 4 = some (.istore_n 1, 1) := by decide +kernel
theorem zd149_5 : zop 149 5 = some (.aload_n 0, 1) := by decide +kernel
theorem zd149_6 : zop 149 6 = some (.bipush 97, 2) := by decide +kernel
theorem zd149_8 : zop 149 8 = some (.bipush 110, 2) := by decide +kernel
theorem zd149_10 : zop 149 10 = some (.bipush 100, 2) := by decide +kernel
theorem zd149_12 : zop 149 12 = some (.iconst 0, 1) := by decide +kernel
theorem zd149_13 : zop 149 13 = some (.iconst 0, 1) := by decide +kernel
theorem zd149_14 : zop 149 14 = some (.iconst 0, 1) := by decide +kernel
theorem zd149_15 : zop 149 15 = some (.iconst 0, 1) := by decide +kernel
theorem zd149_16 : zop 149 16 = some (.iconst 0, 1) := by decide +kernel
theorem zd149_17 : zop 149 17 = some (.invokevirtual 205, 3) := by decide +kernel
theorem zd149_20 : zop 149 20 = some (.ifCond .eq 29, 3) := by decide +kernel
theorem zd149_23 : zop 149 23 = some (.aload_n 0, 1) := by decide +kernel
theorem zd149_24 : zop 149 24 = some (.invokevirtual 202, 3) := by decide +kernel
theorem zd149_27 : zop 149 27 = some (.aload_n 0, 1) := by decide +kernel
theorem zd149_28 : zop 149 28 = some (.invokevirtual 249, 3) := by decide +kernel
theorem zd149_31 : zop 149 31 = some (.istore_n 2, 1) := by decide +kernel
theorem zd149_32 : zop 149 32 = some (.iload_n 1, 1) := by decide +kernel
theorem zd149_33 : zop 149 33 = some (.ifCond .eq 11, 3) := by decide +kernel
theorem zd149_36 : zop 149 36 = some (.iload_n 2, 1) := by decide +kernel
theorem zd149_37 : zop 149 37 = some (.ifCond .eq 7, 3) := by decide +kernel
theorem zd149_40 : zop 149 40 = some (.iconst 1, 1) := by decide +kernel
theorem zd149_41 : zop 149 41 = some (.goto 4, 3) := by decide +kernel
theorem zd149_44 : zop 149 44 = some (.iconst 0, 1) := by decide +kernel
theorem zd149_45 : zop 149 45 = some (.istore_n 1, 1) := by decide +kernel
theorem zd149_46 : zop 149 46 = some (.goto (-41), 3) := by decide +kernel
theorem zd149_49 : zop 149 49 = some (.iload_n 1, 1) := by decide +kernel
theorem zd149_50 : zop 149 50 = some (.ireturn, 1) := by decide +kernel
theorem b149_0 {x : zXs} {F : zF} (hF : zSh F) {d : Nat} {V : Nat → Nat → Int32} {T : Nat → Nat → Int64} {Q : Option Value → zG → Prop} {o1 : Option Value} {o2 : Option Value}   (k : E x F d 150 0 [some (.ref 59), none, none, none] [] (V, T) (fun r G' => E x F (d + 1) 149 4 [some (.ref 59), o1, o2] (r.toList ++ []) G' Q)) : E x F (d + 1) 149 0 [some (.ref 59), o1, o2] [] (V, T) Q := by
  refine e_aload_n zd149_0 rfl rfl ?_
  exact e_callV zd149_1 (own := 8) (nest := false) (w := 1085) (by decide +kernel) (by decide +kernel) zs150 (as := []) (rest := []) rfl rfl (zsh_at hF rfl).1 (by omega) (Nat.le_of_ble_eq_true rfl) rfl rfl rfl (by omega) k
theorem b149_4 {x : zXs} {F : zF} (hF : zSh F) {d : Nat} {V : Nat → Nat → Int32} {T : Nat → Nat → Int64} {Q : Option Value → zG → Prop} {o0 : Option Value} {o1 : Option Value} {o2 : Option Value} {s0 : Int32}   (k : E x F d 149 5 [o0, some (.int s0), o2] [] (V, T) Q) : E x F d 149 4 [o0, o1, o2] [.int s0] (V, T) Q := by
  refine e_istore_n zd149_4 (by decide +kernel) (Nat.le_of_ble_eq_true rfl) ?_
  exact k
theorem b149_5 {x : zXs} {F : zF} (hF : zSh F) {d : Nat} {V : Nat → Nat → Int32} {T : Nat → Nat → Int64} {Q : Option Value → zG → Prop} {o1 : Option Value} {o2 : Option Value}   (k : E x F d 144 0 [some (.ref 59), some (.int (Int32.ofInt 97)), some (.int (Int32.ofInt 110)), some (.int (Int32.ofInt 100)), some (.int (Int32.ofInt 0)), some (.int (Int32.ofInt 0)), some (.int (Int32.ofInt 0)), some (.int (Int32.ofInt 0)), some (.int (Int32.ofInt 0))] [] (V, T) (fun r G' => E x F (d + 1) 149 20 [some (.ref 59), o1, o2] (r.toList ++ []) G' Q)) : E x F (d + 1) 149 5 [some (.ref 59), o1, o2] [] (V, T) Q := by
  refine e_aload_n zd149_5 rfl rfl ?_
  refine e_bipush zd149_6 (v := Int32.ofInt 97) (by decide +kernel) ?_
  refine e_bipush zd149_8 (v := Int32.ofInt 110) (by decide +kernel) ?_
  refine e_bipush zd149_10 (v := Int32.ofInt 100) (by decide +kernel) ?_
  refine e_iconst zd149_12 ?_
  refine e_iconst zd149_13 ?_
  refine e_iconst zd149_14 ?_
  refine e_iconst zd149_15 ?_
  refine e_iconst zd149_16 ?_
  exact e_callV zd149_17 (own := 8) (nest := false) (w := 1061) (by decide +kernel) (by decide +kernel) zs144 (as := [.int (Int32.ofInt 97), .int (Int32.ofInt 110), .int (Int32.ofInt 100), .int (Int32.ofInt 0), .int (Int32.ofInt 0), .int (Int32.ofInt 0), .int (Int32.ofInt 0), .int (Int32.ofInt 0)]) (rest := []) rfl rfl (zsh_at hF rfl).1 (by omega) (Nat.le_of_ble_eq_true rfl) rfl rfl rfl (by omega) k
theorem b149_20 {x : zXs} {F : zF} (hF : zSh F) {d : Nat} {V : Nat → Nat → Int32} {T : Nat → Nat → Int64} {Q : Option Value → zG → Prop} {o0 : Option Value} {o1 : Option Value} {o2 : Option Value} {s0 : Int32}   (kt : s0 = 0 → E x F d 149 49 [o0, o1, o2] [] (V, T) Q) (kf : ¬ (s0 = 0) → E x F d 149 23 [o0, o1, o2] [] (V, T) Q) : E x F d 149 20 [o0, o1, o2] [.int s0] (V, T) Q := by
  exact e_if_eq zd149_20 (tg := 49) rfl kt kf
theorem b149_23 {x : zXs} {F : zF} (hF : zSh F) {d : Nat} {V : Nat → Nat → Int32} {T : Nat → Nat → Int64} {Q : Option Value → zG → Prop} {o1 : Option Value} {o2 : Option Value}   (k : E x F d 142 0 [some (.ref 59), none, none] [] (V, T) (fun r G' => E x F (d + 1) 149 27 [some (.ref 59), o1, o2] (r.toList ++ []) G' Q)) : E x F (d + 1) 149 23 [some (.ref 59), o1, o2] [] (V, T) Q := by
  refine e_aload_n zd149_23 rfl rfl ?_
  exact e_callV zd149_24 (own := 8) (nest := false) (w := 1049) (by decide +kernel) (by decide +kernel) zs142 (as := []) (rest := []) rfl rfl (zsh_at hF rfl).1 (by omega) (Nat.le_of_ble_eq_true rfl) rfl rfl rfl (by omega) k
theorem b149_27 {x : zXs} {F : zF} (hF : zSh F) {d : Nat} {V : Nat → Nat → Int32} {T : Nat → Nat → Int64} {Q : Option Value → zG → Prop} {o1 : Option Value} {o2 : Option Value}   (k : E x F d 150 0 [some (.ref 59), none, none, none] [] (V, T) (fun r G' => E x F (d + 1) 149 31 [some (.ref 59), o1, o2] (r.toList ++ []) G' Q)) : E x F (d + 1) 149 27 [some (.ref 59), o1, o2] [] (V, T) Q := by
  refine e_aload_n zd149_27 rfl rfl ?_
  exact e_callV zd149_28 (own := 8) (nest := false) (w := 1085) (by decide +kernel) (by decide +kernel) zs150 (as := []) (rest := []) rfl rfl (zsh_at hF rfl).1 (by omega) (Nat.le_of_ble_eq_true rfl) rfl rfl rfl (by omega) k
theorem b149_31 {x : zXs} {F : zF} (hF : zSh F) {d : Nat} {V : Nat → Nat → Int32} {T : Nat → Nat → Int64} {Q : Option Value → zG → Prop} {o0 : Option Value} {l1 : Int32} {o2 : Option Value} {s0 : Int32}   (kt : l1 = 0 → E x F d 149 44 [o0, some (.int l1), some (.int s0)] [] (V, T) Q) (kf : ¬ (l1 = 0) → E x F d 149 36 [o0, some (.int l1), some (.int s0)] [] (V, T) Q) : E x F d 149 31 [o0, some (.int l1), o2] [.int s0] (V, T) Q := by
  refine e_istore_n zd149_31 (by decide +kernel) (Nat.le_of_ble_eq_true rfl) ?_
  refine e_iload_n zd149_32 rfl ?_
  exact e_if_eq zd149_33 (tg := 44) rfl kt kf
theorem b149_36 {x : zXs} {F : zF} (hF : zSh F) {d : Nat} {V : Nat → Nat → Int32} {T : Nat → Nat → Int64} {Q : Option Value → zG → Prop} {o0 : Option Value} {o1 : Option Value} {l2 : Int32}   (kt : l2 = 0 → E x F d 149 44 [o0, o1, some (.int l2)] [] (V, T) Q) (kf : ¬ (l2 = 0) → E x F d 149 40 [o0, o1, some (.int l2)] [] (V, T) Q) : E x F d 149 36 [o0, o1, some (.int l2)] [] (V, T) Q := by
  refine e_iload_n zd149_36 rfl ?_
  exact e_if_eq zd149_37 (tg := 44) rfl kt kf
theorem b149_40 {x : zXs} {F : zF} (hF : zSh F) {d : Nat} {V : Nat → Nat → Int32} {T : Nat → Nat → Int64} {Q : Option Value → zG → Prop} {o0 : Option Value} {o1 : Option Value} {o2 : Option Value}   (k : E x F d 149 45 [o0, o1, o2] [.int (Int32.ofInt 1)] (V, T) Q) : E x F d 149 40 [o0, o1, o2] [] (V, T) Q := by
  refine e_iconst zd149_40 ?_
  exact e_goto zd149_41 (tg := 45) rfl k
theorem b149_44 {x : zXs} {F : zF} (hF : zSh F) {d : Nat} {V : Nat → Nat → Int32} {T : Nat → Nat → Int64} {Q : Option Value → zG → Prop} {o0 : Option Value} {o1 : Option Value} {o2 : Option Value}   (k : E x F d 149 45 [o0, o1, o2] [.int (Int32.ofInt 0)] (V, T) Q) : E x F d 149 44 [o0, o1, o2] [] (V, T) Q := by
  refine e_iconst zd149_44 ?_
  exact k
theorem b149_45 {x : zXs} {F : zF} (hF : zSh F) {d : Nat} {V : Nat → Nat → Int32} {T : Nat → Nat → Int64} {Q : Option Value → zG → Prop} {o0 : Option Value} {o1 : Option Value} {o2 : Option Value} {s0 : Int32}   (k : E x F d 149 5 [o0, some (.int s0), o2] [] (V, T) Q) : E x F d 149 45 [o0, o1, o2] [.int s0] (V, T) Q := by
  refine e_istore_n zd149_45 (by decide +kernel) (Nat.le_of_ble_eq_true rfl) ?_
  exact e_goto zd149_46 (tg := 5) rfl k
theorem b149_49 {x : zXs} {F : zF} (hF : zSh F) {d : Nat} {V : Nat → Nat → Int32} {T : Nat → Nat → Int64} {Q : Option Value → zG → Prop} {o0 : Option Value} {l1 : Int32} {o2 : Option Value}   (k : Q (some (.int l1)) (V, T)) : E x F d 149 49 [o0, some (.int l1), o2] [] (V, T) Q := by
  refine e_iload_n zd149_49 rfl ?_
  exact e_ireti zd149_50 zs149 k
theorem zd150_0 : zop 150 0 = some (.aload_n 0, 1) := by decide +kernel
theorem zd150_1 : zop 150 1 = some (.bipush 110, 2) := by decide +kernel
theorem zd150_3 : zop 150 3 = some (.bipush 111, 2) := by decide +kernel
theorem zd150_5 : zop 150 5 = some (.bipush 116, 2) := by decide +kernel
theorem zd150_7 : zop 150 7 = some (.iconst 0, 1) := by decide +kernel
theorem zd150_8 : zop 150 8 = some (.iconst 0, 1) := by decide +kernel
theorem zd150_9 : zop 150 9 = some (.iconst 0, 1) := by decide +kernel
theorem zd150_10 : zop 150 10 = some (.iconst 0, 1) := by decide +kernel
theorem zd150_11 : zop 150 11 = some (.iconst 0, 1) := by decide +kernel
theorem zd150_12 : zop 150 12 = some (.invokevirtual 205, 3) := by decide +kernel
theorem zd150_15 : zop 150 15 = some (.ifCond .eq 37, 3) := by decide +kernel
theorem zd150_18 : zop 150 18 = some (.aload_n 0, 1) := by decide +kernel
theorem zd150_19 : zop 150 19 = some (.invokevirtual 230, 3) := by decide +kernel
theorem zd150_22 : zop 150 22 = some (.ifCond .ne 5, 3) := by decide +kernel
theorem zd150_25 : zop 150 25 = some (.iconst 0, 1) := by decide +kernel
theorem zd150_26 : zop 150 26 = some (.ireturn, 1) := by decide +kernel
theorem zd150_27 : zop 150 27 = some (.aload_n 0, 1) := by decide +kernel
theorem zd150_28 : zop 150 28 = some (.invokevirtual 249, 3) := by decide +kernel
theorem zd150_31 : zop 150 31 = some (.istore_n 1, 1) := by decide +kernel
theorem zd150_32 : zop 150 32 = some (.aload_n 0, 1) := by decide +kernel
theorem zd150_33 : zop 150 33 = some (.dup, 1) := by decide +kernel
theorem zd150_34 : zop 150 34 = some (.getfield 196, 3) := by decide +kernel
theorem zd150_37 : zop 150 37 = some (.iconst 1, 1) := by decide +kernel
theorem zd150_38 : zop 150 38 = some (.isub, 1) := by decide +kernel
theorem zd150_39 : zop 150 39 = some (.putfield 196, 3) := by decide +kernel
theorem zd150_42 : zop 150 42 = some (.iload_n 1, 1) := by decide +kernel
theorem zd150_43 : zop 150 43 = some (.ifCond .ne 7, 3) := by decide +kernel
theorem zd150_46 : zop 150 46 = some (.iconst 1, 1) := by decide +kernel
theorem zd150_47 : zop 150 47 = some (.goto 4, 3) := by decide +kernel
theorem zd150_50 : zop 150 50 = some (.iconst 0, 1) := by decide +kernel
theorem zd150_51 : zop 150 51 = some (.ireturn, 1) := by decide +kernel
theorem zd150_52 : zop 150 52 = some (.aload_n 0, 1) := by decide +kernel
theorem zd150_53 : zop 150 53 = some (.invokevirtual 252, 3) := by decide +kernel
theorem zd150_56 : zop 150 56 = some (.istore_n 1, 1) := by decide +kernel
theorem zd150_57 : zop 150 57 = some (.aload_n 0, 1) := by decide +kernel
theorem zd150_58 : zop 150 58 = some (.bipush 60, 2) := by decide +kernel
theorem zd150_60 : zop 150 60 = some (.invokevirtual 227, 3) := by decide +kernel
theorem zd150_63 : zop 150 63 = some (.ifCond .ne 14, 3) := by decide +kernel
theorem zd150_66 : zop 150 66 = some (.aload_n 0, 1) := by decide +kernel
theorem zd150_67 : zop 150 67 = some (.bipush 61, 2) := by decide +kernel
theorem zd150_69 : zop 150 69 = some (.invokevirtual 227, 3) := by decide +kernel
theorem zd150_72 : zop 150 72 = some (.ifCond .ne 5, 3) := by decide +kernel
theorem zd150_75 : zop 150 75 = some (.iload_n 1, 1) := by decide +kernel
theorem zd150_76 : zop 150 76 = some (.ireturn, 1) := by decide +kernel
theorem zd150_77 : zop 150 77 = some (.aload_n 0, 1) := by decide +kernel
theorem zd150_78 : zop 150 78 = some (.getfield 181, 3) := by decide +kernel
theorem zd150_81 : zop 150 81 = some (.ldc2_w 255, 3) := by decide +kernel
theorem zd150_84 : zop 150 84 = some (.lcmp, 1) := by decide +kernel
theorem zd150_85 : zop 150 85 = some (.ifCond .ne 7, 3) := by decide +kernel
theorem zd150_88 : zop 150 88 = some (.iconst 1, 1) := by decide +kernel
theorem zd150_89 : zop 150 89 = some (.goto 4, 3) := by decide +kernel
theorem zd150_92 : zop 150 92 = some (.iconst 0, 1) := by decide +kernel
theorem zd150_93 : zop 150 93 = some (.istore_n 2, 1) := by decide +kernel
theorem zd150_94 : zop 150 94 = some (.aload_n 0, 1) := by decide +kernel
theorem zd150_95 : zop 150 95 = some (.invokevirtual 202, 3) := by decide +kernel
theorem zd150_98 : zop 150 98 = some (.aload_n 0, 1) := by decide +kernel
theorem zd150_99 : zop 150 99 = some (.invokevirtual 252, 3) := by decide +kernel
theorem zd150_102 : zop 150 102 = some (.istore_n 3, 1) := by decide +kernel
theorem zd150_103 : zop 150 103 = some (.iload_n 2, 1) := by decide +kernel
theorem zd150_104 : zop 150 104 = some (.ifCond .eq 11, 3) := by decide +kernel
theorem zd150_107 : zop 150 107 = some (.iload_n 1, 1) := by decide +kernel
theorem zd150_108 : zop 150 108 = some (.iload_n 3, 1) := by decide +kernel
theorem zd150_109 : zop 150 109 = some (.if_icmp .ge 15, 3) := by decide +kernel
theorem zd150_112 : zop 150 112 = some (.goto 8, 3) := by decide +kernel
theorem zd150_115 : zop 150 115 = some (.iload_n 1, 1) := by decide +kernel
theorem zd150_116 : zop 150 116 = some (.iload_n 3, 1) := by decide +kernel
theorem zd150_117 : zop 150 117 = some (.if_icmp .ne 7, 3) := by decide +kernel
theorem zd150_120 : zop 150 120 = some (.iconst 1, 1) := by decide +kernel
theorem zd150_121 : zop 150 121 = some (.goto 4, 3) := by decide +kernel
theorem zd150_124 : zop 150 124 = some (.iconst 0, 1) := by decide +kernel
theorem zd150_125 : zop 150 125 = some (.ireturn, 1) := by decide +kernel
theorem b150_0 {x : zXs} {F : zF} (hF : zSh F) {d : Nat} {V : Nat → Nat → Int32} {T : Nat → Nat → Int64} {Q : Option Value → zG → Prop} {o1 : Option Value} {o2 : Option Value} {o3 : Option Value}   (k : E x F d 144 0 [some (.ref 59), some (.int (Int32.ofInt 110)), some (.int (Int32.ofInt 111)), some (.int (Int32.ofInt 116)), some (.int (Int32.ofInt 0)), some (.int (Int32.ofInt 0)), some (.int (Int32.ofInt 0)), some (.int (Int32.ofInt 0)), some (.int (Int32.ofInt 0))] [] (V, T) (fun r G' => E x F (d + 1) 150 15 [some (.ref 59), o1, o2, o3] (r.toList ++ []) G' Q)) : E x F (d + 1) 150 0 [some (.ref 59), o1, o2, o3] [] (V, T) Q := by
  refine e_aload_n zd150_0 rfl rfl ?_
  refine e_bipush zd150_1 (v := Int32.ofInt 110) (by decide +kernel) ?_
  refine e_bipush zd150_3 (v := Int32.ofInt 111) (by decide +kernel) ?_
  refine e_bipush zd150_5 (v := Int32.ofInt 116) (by decide +kernel) ?_
  refine e_iconst zd150_7 ?_
  refine e_iconst zd150_8 ?_
  refine e_iconst zd150_9 ?_
  refine e_iconst zd150_10 ?_
  refine e_iconst zd150_11 ?_
  exact e_callV zd150_12 (own := 8) (nest := false) (w := 1061) (by decide +kernel) (by decide +kernel) zs144 (as := [.int (Int32.ofInt 110), .int (Int32.ofInt 111), .int (Int32.ofInt 116), .int (Int32.ofInt 0), .int (Int32.ofInt 0), .int (Int32.ofInt 0), .int (Int32.ofInt 0), .int (Int32.ofInt 0)]) (rest := []) rfl rfl (zsh_at hF rfl).1 (by omega) (Nat.le_of_ble_eq_true rfl) rfl rfl rfl (by omega) k
theorem b150_15 {x : zXs} {F : zF} (hF : zSh F) {d : Nat} {V : Nat → Nat → Int32} {T : Nat → Nat → Int64} {Q : Option Value → zG → Prop} {o0 : Option Value} {o1 : Option Value} {o2 : Option Value} {o3 : Option Value} {s0 : Int32}   (kt : s0 = 0 → E x F d 150 52 [o0, o1, o2, o3] [] (V, T) Q) (kf : ¬ (s0 = 0) → E x F d 150 18 [o0, o1, o2, o3] [] (V, T) Q) : E x F d 150 15 [o0, o1, o2, o3] [.int s0] (V, T) Q := by
  exact e_if_eq zd150_15 (tg := 52) rfl kt kf
theorem b150_18 {x : zXs} {F : zF} (hF : zSh F) {d : Nat} {V : Nat → Nat → Int32} {T : Nat → Nat → Int64} {Q : Option Value → zG → Prop} {o1 : Option Value} {o2 : Option Value} {o3 : Option Value}   (k : E x F d 151 0 [some (.ref 59)] [] (V, T) (fun r G' => E x F (d + 1) 150 22 [some (.ref 59), o1, o2, o3] (r.toList ++ []) G' Q)) : E x F (d + 1) 150 18 [some (.ref 59), o1, o2, o3] [] (V, T) Q := by
  refine e_aload_n zd150_18 rfl rfl ?_
  exact e_callV zd150_19 (own := 8) (nest := false) (w := 1089) (by decide +kernel) (by decide +kernel) zs151 (as := []) (rest := []) rfl rfl (zsh_at hF rfl).1 (by omega) (Nat.le_of_ble_eq_true rfl) rfl rfl rfl (by omega) k
theorem b150_22 {x : zXs} {F : zF} (hF : zSh F) {d : Nat} {V : Nat → Nat → Int32} {T : Nat → Nat → Int64} {Q : Option Value → zG → Prop} {o0 : Option Value} {o1 : Option Value} {o2 : Option Value} {o3 : Option Value} {s0 : Int32}   (kt : ¬ s0 = 0 → E x F d 150 27 [o0, o1, o2, o3] [] (V, T) Q) (kf : ¬ (¬ s0 = 0) → E x F d 150 25 [o0, o1, o2, o3] [] (V, T) Q) : E x F d 150 22 [o0, o1, o2, o3] [.int s0] (V, T) Q := by
  exact e_if_ne zd150_22 (tg := 27) rfl kt kf
theorem b150_25 {x : zXs} {F : zF} (hF : zSh F) {d : Nat} {V : Nat → Nat → Int32} {T : Nat → Nat → Int64} {Q : Option Value → zG → Prop} {o0 : Option Value} {o1 : Option Value} {o2 : Option Value} {o3 : Option Value}   (k : Q (some (.int (Int32.ofInt 0))) (V, T)) : E x F d 150 25 [o0, o1, o2, o3] [] (V, T) Q := by
  refine e_iconst zd150_25 ?_
  exact e_ireti zd150_26 zs150 k
theorem b150_27 {x : zXs} {F : zF} (hF : zSh F) {d : Nat} {V : Nat → Nat → Int32} {T : Nat → Nat → Int64} {Q : Option Value → zG → Prop} {o1 : Option Value} {o2 : Option Value} {o3 : Option Value}   (k : E x F d 150 0 [some (.ref 59), none, none, none] [] (V, T) (fun r G' => E x F (d + 1) 150 31 [some (.ref 59), o1, o2, o3] (r.toList ++ []) G' Q)) : E x F (d + 1) 150 27 [some (.ref 59), o1, o2, o3] [] (V, T) Q := by
  refine e_aload_n zd150_27 rfl rfl ?_
  exact e_callV zd150_28 (own := 8) (nest := false) (w := 1085) (by decide +kernel) (by decide +kernel) zs150 (as := []) (rest := []) rfl rfl (zsh_at hF rfl).1 (by omega) (Nat.le_of_ble_eq_true rfl) rfl rfl rfl (by omega) k
theorem b150_31 {x : zXs} {F : zF} (hF : zSh F) {d : Nat} {V : Nat → Nat → Int32} {T : Nat → Nat → Int64} {Q : Option Value → zG → Prop} {o1 : Option Value} {o2 : Option Value} {o3 : Option Value} {s0 : Int32}   (kt : ¬ s0 = 0 → E x F d 150 50 [some (.ref 59), some (.int s0), o2, o3] [] (zu V 59 25 ((V 59 25) - (Int32.ofInt 1)), T) Q) (kf : ¬ (¬ s0 = 0) → E x F d 150 46 [some (.ref 59), some (.int s0), o2, o3] [] (zu V 59 25 ((V 59 25) - (Int32.ofInt 1)), T) Q) : E x F d 150 31 [some (.ref 59), o1, o2, o3] [.int s0] (V, T) Q := by
  refine e_istore_n zd150_31 (by decide +kernel) (Nat.le_of_ble_eq_true rfl) ?_
  refine e_aload_n zd150_32 rfl rfl ?_
  refine e_dup zd150_33 rfl ?_
  refine e_getI zd150_34 (own := 8) (ci := 8) (kf := 25) (w := 883) (by decide +kernel) (by decide +kernel) (zsh_at hF rfl).1 (by decide +kernel) rfl ?_
  refine e_iconst zd150_37 ?_
  refine e_isub zd150_38 ?_
  refine e_putI zd150_39 (own := 8) (ci := 8) (kf := 25) (w := 883) (by decide +kernel) (by decide +kernel) (zsh_at hF rfl).1 (by decide +kernel) rfl ?_
  refine e_iload_n zd150_42 rfl ?_
  exact e_if_ne zd150_43 (tg := 50) rfl kt kf
theorem b150_46 {x : zXs} {F : zF} (hF : zSh F) {d : Nat} {V : Nat → Nat → Int32} {T : Nat → Nat → Int64} {Q : Option Value → zG → Prop} {o0 : Option Value} {o1 : Option Value} {o2 : Option Value} {o3 : Option Value}   (k : E x F d 150 51 [o0, o1, o2, o3] [.int (Int32.ofInt 1)] (V, T) Q) : E x F d 150 46 [o0, o1, o2, o3] [] (V, T) Q := by
  refine e_iconst zd150_46 ?_
  exact e_goto zd150_47 (tg := 51) rfl k
theorem b150_50 {x : zXs} {F : zF} (hF : zSh F) {d : Nat} {V : Nat → Nat → Int32} {T : Nat → Nat → Int64} {Q : Option Value → zG → Prop} {o0 : Option Value} {o1 : Option Value} {o2 : Option Value} {o3 : Option Value}   (k : E x F d 150 51 [o0, o1, o2, o3] [.int (Int32.ofInt 0)] (V, T) Q) : E x F d 150 50 [o0, o1, o2, o3] [] (V, T) Q := by
  refine e_iconst zd150_50 ?_
  exact k
theorem b150_51 {x : zXs} {F : zF} (hF : zSh F) {d : Nat} {V : Nat → Nat → Int32} {T : Nat → Nat → Int64} {Q : Option Value → zG → Prop} {o0 : Option Value} {o1 : Option Value} {o2 : Option Value} {o3 : Option Value} {s0 : Int32}   (k : Q (some (.int s0)) (V, T)) : E x F d 150 51 [o0, o1, o2, o3] [.int s0] (V, T) Q := by
  exact e_ireti zd150_51 zs150 k
theorem b150_52 {x : zXs} {F : zF} (hF : zSh F) {d : Nat} {V : Nat → Nat → Int32} {T : Nat → Nat → Int64} {Q : Option Value → zG → Prop} {o1 : Option Value} {o2 : Option Value} {o3 : Option Value}   (k : E x F d 152 0 [some (.ref 59), none, none, none] [] (V, T) (fun r G' => E x F (d + 1) 150 56 [some (.ref 59), o1, o2, o3] (r.toList ++ []) G' Q)) : E x F (d + 1) 150 52 [some (.ref 59), o1, o2, o3] [] (V, T) Q := by
  refine e_aload_n zd150_52 rfl rfl ?_
  exact e_callV zd150_53 (own := 8) (nest := false) (w := 1093) (by decide +kernel) (by decide +kernel) zs152 (as := []) (rest := []) rfl rfl (zsh_at hF rfl).1 (by omega) (Nat.le_of_ble_eq_true rfl) rfl rfl rfl (by omega) k
theorem b150_56 {x : zXs} {F : zF} (hF : zSh F) {d : Nat} {V : Nat → Nat → Int32} {T : Nat → Nat → Int64} {Q : Option Value → zG → Prop} {o1 : Option Value} {o2 : Option Value} {o3 : Option Value} {s0 : Int32}   (k : E x F d 155 0 [some (.ref 59), some (.int (Int32.ofInt 60))] [] (V, T) (fun r G' => E x F (d + 1) 150 63 [some (.ref 59), some (.int s0), o2, o3] (r.toList ++ []) G' Q)) : E x F (d + 1) 150 56 [some (.ref 59), o1, o2, o3] [.int s0] (V, T) Q := by
  refine e_istore_n zd150_56 (by decide +kernel) (Nat.le_of_ble_eq_true rfl) ?_
  refine e_aload_n zd150_57 rfl rfl ?_
  refine e_bipush zd150_58 (v := Int32.ofInt 60) (by decide +kernel) ?_
  exact e_callV zd150_60 (own := 8) (nest := false) (w := 1105) (by decide +kernel) (by decide +kernel) zs155 (as := [.int (Int32.ofInt 60)]) (rest := []) rfl rfl (zsh_at hF rfl).1 (by omega) (Nat.le_of_ble_eq_true rfl) rfl rfl rfl (by omega) k
theorem b150_63 {x : zXs} {F : zF} (hF : zSh F) {d : Nat} {V : Nat → Nat → Int32} {T : Nat → Nat → Int64} {Q : Option Value → zG → Prop} {o0 : Option Value} {o1 : Option Value} {o2 : Option Value} {o3 : Option Value} {s0 : Int32}   (kt : ¬ s0 = 0 → E x F d 150 77 [o0, o1, o2, o3] [] (V, T) Q) (kf : ¬ (¬ s0 = 0) → E x F d 150 66 [o0, o1, o2, o3] [] (V, T) Q) : E x F d 150 63 [o0, o1, o2, o3] [.int s0] (V, T) Q := by
  exact e_if_ne zd150_63 (tg := 77) rfl kt kf
theorem b150_66 {x : zXs} {F : zF} (hF : zSh F) {d : Nat} {V : Nat → Nat → Int32} {T : Nat → Nat → Int64} {Q : Option Value → zG → Prop} {o1 : Option Value} {o2 : Option Value} {o3 : Option Value}   (k : E x F d 155 0 [some (.ref 59), some (.int (Int32.ofInt 61))] [] (V, T) (fun r G' => E x F (d + 1) 150 72 [some (.ref 59), o1, o2, o3] (r.toList ++ []) G' Q)) : E x F (d + 1) 150 66 [some (.ref 59), o1, o2, o3] [] (V, T) Q := by
  refine e_aload_n zd150_66 rfl rfl ?_
  refine e_bipush zd150_67 (v := Int32.ofInt 61) (by decide +kernel) ?_
  exact e_callV zd150_69 (own := 8) (nest := false) (w := 1105) (by decide +kernel) (by decide +kernel) zs155 (as := [.int (Int32.ofInt 61)]) (rest := []) rfl rfl (zsh_at hF rfl).1 (by omega) (Nat.le_of_ble_eq_true rfl) rfl rfl rfl (by omega) k
theorem b150_72 {x : zXs} {F : zF} (hF : zSh F) {d : Nat} {V : Nat → Nat → Int32} {T : Nat → Nat → Int64} {Q : Option Value → zG → Prop} {o0 : Option Value} {o1 : Option Value} {o2 : Option Value} {o3 : Option Value} {s0 : Int32}   (kt : ¬ s0 = 0 → E x F d 150 77 [o0, o1, o2, o3] [] (V, T) Q) (kf : ¬ (¬ s0 = 0) → E x F d 150 75 [o0, o1, o2, o3] [] (V, T) Q) : E x F d 150 72 [o0, o1, o2, o3] [.int s0] (V, T) Q := by
  exact e_if_ne zd150_72 (tg := 77) rfl kt kf
theorem b150_75 {x : zXs} {F : zF} (hF : zSh F) {d : Nat} {V : Nat → Nat → Int32} {T : Nat → Nat → Int64} {Q : Option Value → zG → Prop} {o0 : Option Value} {l1 : Int32} {o2 : Option Value} {o3 : Option Value}   (k : Q (some (.int l1)) (V, T)) : E x F d 150 75 [o0, some (.int l1), o2, o3] [] (V, T) Q := by
  refine e_iload_n zd150_75 rfl ?_
  exact e_ireti zd150_76 zs150 k
theorem b150_77 {x : zXs} {F : zF} (hF : zSh F) {d : Nat} {V : Nat → Nat → Int32} {T : Nat → Nat → Int64} {Q : Option Value → zG → Prop} {o1 : Option Value} {o2 : Option Value} {o3 : Option Value}   (kt : ¬ (lg_cmp (T 59 24) (60 : Int64)) = 0 → E x F d 150 92 [some (.ref 59), o1, o2, o3] [] (V, T) Q) (kf : ¬ (¬ (lg_cmp (T 59 24) (60 : Int64)) = 0) → E x F d 150 88 [some (.ref 59), o1, o2, o3] [] (V, T) Q) : E x F d 150 77 [some (.ref 59), o1, o2, o3] [] (V, T) Q := by
  refine e_aload_n zd150_77 rfl rfl ?_
  refine e_getJ zd150_78 (own := 8) (ci := 8) (kf := 24) (w := 882) (by decide +kernel) (by decide +kernel) (zsh_at hF rfl).1 (by decide +kernel) rfl ?_
  refine e_ldc2 zd150_81 (own := 8) (w := 1114) (v := 60) (by decide +kernel) (by decide +kernel) ?_
  refine e_lcmp zd150_84 ?_
  exact e_if_ne zd150_85 (tg := 92) rfl kt kf
theorem b150_88 {x : zXs} {F : zF} (hF : zSh F) {d : Nat} {V : Nat → Nat → Int32} {T : Nat → Nat → Int64} {Q : Option Value → zG → Prop} {o0 : Option Value} {o1 : Option Value} {o2 : Option Value} {o3 : Option Value}   (k : E x F d 150 93 [o0, o1, o2, o3] [.int (Int32.ofInt 1)] (V, T) Q) : E x F d 150 88 [o0, o1, o2, o3] [] (V, T) Q := by
  refine e_iconst zd150_88 ?_
  exact e_goto zd150_89 (tg := 93) rfl k
theorem b150_92 {x : zXs} {F : zF} (hF : zSh F) {d : Nat} {V : Nat → Nat → Int32} {T : Nat → Nat → Int64} {Q : Option Value → zG → Prop} {o0 : Option Value} {o1 : Option Value} {o2 : Option Value} {o3 : Option Value}   (k : E x F d 150 93 [o0, o1, o2, o3] [.int (Int32.ofInt 0)] (V, T) Q) : E x F d 150 92 [o0, o1, o2, o3] [] (V, T) Q := by
  refine e_iconst zd150_92 ?_
  exact k
theorem b150_93 {x : zXs} {F : zF} (hF : zSh F) {d : Nat} {V : Nat → Nat → Int32} {T : Nat → Nat → Int64} {Q : Option Value → zG → Prop} {o1 : Option Value} {o2 : Option Value} {o3 : Option Value} {s0 : Int32}   (k : E x F d 142 0 [some (.ref 59), none, none] [] (V, T) (fun r G' => E x F (d + 1) 150 98 [some (.ref 59), o1, some (.int s0), o3] (r.toList ++ []) G' Q)) : E x F (d + 1) 150 93 [some (.ref 59), o1, o2, o3] [.int s0] (V, T) Q := by
  refine e_istore_n zd150_93 (by decide +kernel) (Nat.le_of_ble_eq_true rfl) ?_
  refine e_aload_n zd150_94 rfl rfl ?_
  exact e_callV zd150_95 (own := 8) (nest := false) (w := 1049) (by decide +kernel) (by decide +kernel) zs142 (as := []) (rest := []) rfl rfl (zsh_at hF rfl).1 (by omega) (Nat.le_of_ble_eq_true rfl) rfl rfl rfl (by omega) k
theorem b150_98 {x : zXs} {F : zF} (hF : zSh F) {d : Nat} {V : Nat → Nat → Int32} {T : Nat → Nat → Int64} {Q : Option Value → zG → Prop} {o1 : Option Value} {o2 : Option Value} {o3 : Option Value}   (k : E x F d 152 0 [some (.ref 59), none, none, none] [] (V, T) (fun r G' => E x F (d + 1) 150 102 [some (.ref 59), o1, o2, o3] (r.toList ++ []) G' Q)) : E x F (d + 1) 150 98 [some (.ref 59), o1, o2, o3] [] (V, T) Q := by
  refine e_aload_n zd150_98 rfl rfl ?_
  exact e_callV zd150_99 (own := 8) (nest := false) (w := 1093) (by decide +kernel) (by decide +kernel) zs152 (as := []) (rest := []) rfl rfl (zsh_at hF rfl).1 (by omega) (Nat.le_of_ble_eq_true rfl) rfl rfl rfl (by omega) k
theorem b150_102 {x : zXs} {F : zF} (hF : zSh F) {d : Nat} {V : Nat → Nat → Int32} {T : Nat → Nat → Int64} {Q : Option Value → zG → Prop} {o0 : Option Value} {o1 : Option Value} {l2 : Int32} {o3 : Option Value} {s0 : Int32}   (kt : l2 = 0 → E x F d 150 115 [o0, o1, some (.int l2), some (.int s0)] [] (V, T) Q) (kf : ¬ (l2 = 0) → E x F d 150 107 [o0, o1, some (.int l2), some (.int s0)] [] (V, T) Q) : E x F d 150 102 [o0, o1, some (.int l2), o3] [.int s0] (V, T) Q := by
  refine e_istore_n zd150_102 (by decide +kernel) (Nat.le_of_ble_eq_true rfl) ?_
  refine e_iload_n zd150_103 rfl ?_
  exact e_if_eq zd150_104 (tg := 115) rfl kt kf
theorem b150_107 {x : zXs} {F : zF} (hF : zSh F) {d : Nat} {V : Nat → Nat → Int32} {T : Nat → Nat → Int64} {Q : Option Value → zG → Prop} {o0 : Option Value} {l1 : Int32} {o2 : Option Value} {l3 : Int32}   (kt : l3 ≤ l1 → E x F d 150 124 [o0, some (.int l1), o2, some (.int l3)] [] (V, T) Q) (kf : ¬ (l3 ≤ l1) → E x F d 150 112 [o0, some (.int l1), o2, some (.int l3)] [] (V, T) Q) : E x F d 150 107 [o0, some (.int l1), o2, some (.int l3)] [] (V, T) Q := by
  refine e_iload_n zd150_107 rfl ?_
  refine e_iload_n zd150_108 rfl ?_
  exact e_icmp_ge zd150_109 (tg := 124) rfl kt kf
theorem b150_112 {x : zXs} {F : zF} (hF : zSh F) {d : Nat} {V : Nat → Nat → Int32} {T : Nat → Nat → Int64} {Q : Option Value → zG → Prop} {o0 : Option Value} {o1 : Option Value} {o2 : Option Value} {o3 : Option Value}   (k : E x F d 150 120 [o0, o1, o2, o3] [] (V, T) Q) : E x F d 150 112 [o0, o1, o2, o3] [] (V, T) Q := by
  exact e_goto zd150_112 (tg := 120) rfl k
theorem b150_115 {x : zXs} {F : zF} (hF : zSh F) {d : Nat} {V : Nat → Nat → Int32} {T : Nat → Nat → Int64} {Q : Option Value → zG → Prop} {o0 : Option Value} {l1 : Int32} {o2 : Option Value} {l3 : Int32}   (kt : ¬ l1 = l3 → E x F d 150 124 [o0, some (.int l1), o2, some (.int l3)] [] (V, T) Q) (kf : ¬ (¬ l1 = l3) → E x F d 150 120 [o0, some (.int l1), o2, some (.int l3)] [] (V, T) Q) : E x F d 150 115 [o0, some (.int l1), o2, some (.int l3)] [] (V, T) Q := by
  refine e_iload_n zd150_115 rfl ?_
  refine e_iload_n zd150_116 rfl ?_
  exact e_icmp_ne zd150_117 (tg := 124) rfl kt kf
theorem b150_120 {x : zXs} {F : zF} (hF : zSh F) {d : Nat} {V : Nat → Nat → Int32} {T : Nat → Nat → Int64} {Q : Option Value → zG → Prop} {o0 : Option Value} {o1 : Option Value} {o2 : Option Value} {o3 : Option Value}   (k : E x F d 150 125 [o0, o1, o2, o3] [.int (Int32.ofInt 1)] (V, T) Q) : E x F d 150 120 [o0, o1, o2, o3] [] (V, T) Q := by
  refine e_iconst zd150_120 ?_
  exact e_goto zd150_121 (tg := 125) rfl k
theorem b150_124 {x : zXs} {F : zF} (hF : zSh F) {d : Nat} {V : Nat → Nat → Int32} {T : Nat → Nat → Int64} {Q : Option Value → zG → Prop} {o0 : Option Value} {o1 : Option Value} {o2 : Option Value} {o3 : Option Value}   (k : E x F d 150 125 [o0, o1, o2, o3] [.int (Int32.ofInt 0)] (V, T) Q) : E x F d 150 124 [o0, o1, o2, o3] [] (V, T) Q := by
  refine e_iconst zd150_124 ?_
  exact k
theorem b150_125 {x : zXs} {F : zF} (hF : zSh F) {d : Nat} {V : Nat → Nat → Int32} {T : Nat → Nat → Int64} {Q : Option Value → zG → Prop} {o0 : Option Value} {o1 : Option Value} {o2 : Option Value} {o3 : Option Value} {s0 : Int32}   (k : Q (some (.int s0)) (V, T)) : E x F d 150 125 [o0, o1, o2, o3] [.int s0] (V, T) Q := by
  exact e_ireti zd150_125 zs150 k
theorem zd151_0 : zop 151 0 = some (.aload_n 0, 1) := by decide +kernel
theorem zd151_1 : zop 151 1 = some (.getfield 196, 3) := by decide +kernel
theorem zd151_4 : zop 151 4 = some (.iconst 5, 1) := by decide +kernel
theorem zd151_5 : zop 151 5 = some (.if_icmp .ne 9, 3) := by decide +kernel
theorem zd151_8 : zop 151 8 = some (.aload_n 0, 1) := by decide +kernel
theorem zd151_9 : zop 151 9 = some (.invokevirtual 199, 3) := by decide +kernel
theorem zd151_12 : zop 151 12 = some (.iconst 0, 1) := by decide +kernel
theorem zd151_13 : zop 151 13 = some (.ireturn, 1) := by decide +kernel
theorem zd151_14 : zop 151 14 = some (.aload_n 0, 1) := by decide +kernel
theorem zd151_15 : zop 151 15 = some (.dup, 1) := by decide +kernel
theorem zd151_16 : zop 151 16 = some (.getfield 196, 3) := by decide +kernel
theorem zd151_19 : zop 151 19 = some (.iconst 1, 1) := by decide +kernel
theorem zd151_20 : zop 151 20 = some (.iadd, 1) := by decide +kernel
theorem zd151_21 : zop 151 21 = some (.putfield 196, 3) := by decide +kernel
theorem zd151_24 : zop 151 24 = some (.aload_n 0, 1) := by decide +kernel
theorem zd151_25 : zop 151 25 = some (.invokevirtual 202, 3) := by decide +kernel
theorem zd151_28 : zop 151 28 = some (.iconst 1, 1) := by decide +kernel
theorem zd151_29 : zop 151 29 = some (.ireturn, 1) := by decide +kernel
theorem b151_0 {x : zXs} {F : zF} (hF : zSh F) {d : Nat} {V : Nat → Nat → Int32} {T : Nat → Nat → Int64} {Q : Option Value → zG → Prop}    (kt : ¬ (V 59 25) = (Int32.ofInt 5) → E x F d 151 14 [some (.ref 59)] [] (V, T) Q) (kf : ¬ (¬ (V 59 25) = (Int32.ofInt 5)) → E x F d 151 8 [some (.ref 59)] [] (V, T) Q) : E x F d 151 0 [some (.ref 59)] [] (V, T) Q := by
  refine e_aload_n zd151_0 rfl rfl ?_
  refine e_getI zd151_1 (own := 8) (ci := 8) (kf := 25) (w := 883) (by decide +kernel) (by decide +kernel) (zsh_at hF rfl).1 (by decide +kernel) rfl ?_
  refine e_iconst zd151_4 ?_
  exact e_icmp_ne zd151_5 (tg := 14) rfl kt kf
theorem b151_8 {x : zXs} {F : zF} (hF : zSh F) {d : Nat} {V : Nat → Nat → Int32} {T : Nat → Nat → Int64} {Q : Option Value → zG → Prop}    (k : E x F d 147 0 [some (.ref 59)] [] (V, T) (fun r G' => E x F (d + 1) 151 12 [some (.ref 59)] (r.toList ++ []) G' Q)) : E x F (d + 1) 151 8 [some (.ref 59)] [] (V, T) Q := by
  refine e_aload_n zd151_8 rfl rfl ?_
  exact e_callV zd151_9 (own := 8) (nest := false) (w := 1073) (by decide +kernel) (by decide +kernel) zs147 (as := []) (rest := []) rfl rfl (zsh_at hF rfl).1 (by omega) (Nat.le_of_ble_eq_true rfl) rfl rfl rfl (by omega) k
theorem b151_12 {x : zXs} {F : zF} (hF : zSh F) {d : Nat} {V : Nat → Nat → Int32} {T : Nat → Nat → Int64} {Q : Option Value → zG → Prop} {o0 : Option Value}   (k : Q (some (.int (Int32.ofInt 0))) (V, T)) : E x F d 151 12 [o0] [] (V, T) Q := by
  refine e_iconst zd151_12 ?_
  exact e_iretz zd151_13 zs151 (by decide +kernel) k
theorem b151_14 {x : zXs} {F : zF} (hF : zSh F) {d : Nat} {V : Nat → Nat → Int32} {T : Nat → Nat → Int64} {Q : Option Value → zG → Prop}    (k : E x F d 142 0 [some (.ref 59), none, none] [] (zu V 59 25 ((V 59 25) + (Int32.ofInt 1)), T) (fun r G' => E x F (d + 1) 151 28 [some (.ref 59)] (r.toList ++ []) G' Q)) : E x F (d + 1) 151 14 [some (.ref 59)] [] (V, T) Q := by
  refine e_aload_n zd151_14 rfl rfl ?_
  refine e_dup zd151_15 rfl ?_
  refine e_getI zd151_16 (own := 8) (ci := 8) (kf := 25) (w := 883) (by decide +kernel) (by decide +kernel) (zsh_at hF rfl).1 (by decide +kernel) rfl ?_
  refine e_iconst zd151_19 ?_
  refine e_iadd zd151_20 ?_
  refine e_putI zd151_21 (own := 8) (ci := 8) (kf := 25) (w := 883) (by decide +kernel) (by decide +kernel) (zsh_at hF rfl).1 (by decide +kernel) rfl ?_
  refine e_aload_n zd151_24 rfl rfl ?_
  exact e_callV zd151_25 (own := 8) (nest := false) (w := 1049) (by decide +kernel) (by decide +kernel) zs142 (as := []) (rest := []) rfl rfl (zsh_at hF rfl).1 (by omega) (Nat.le_of_ble_eq_true rfl) rfl rfl rfl (by omega) k
theorem b151_28 {x : zXs} {F : zF} (hF : zSh F) {d : Nat} {V : Nat → Nat → Int32} {T : Nat → Nat → Int64} {Q : Option Value → zG → Prop} {o0 : Option Value}   (k : Q (some (.int (Int32.ofInt 1))) (V, T)) : E x F d 151 28 [o0] [] (V, T) Q := by
  refine e_iconst zd151_28 ?_
  exact e_iretz zd151_29 zs151 (by decide +kernel) k
theorem zd152_0 : zop 152 0 = some (.aload_n 0, 1) := by decide +kernel
theorem zd152_1 : zop 152 1 = some (.invokevirtual 244, 3) := by decide +kernel
theorem zd152_4 : zop 152 4 = some (.istore_n 1, 1) := by decide +kernel
theorem zd152_5 : zop 152 5 = some (.aload_n 0, 1) := by decide +kernel
theorem zd152_6 : zop 152 6 = some (.bipush 43, 2) := by decide +kernel
theorem zd152_8 : zop 152 8 = some (.invokevirtual 227, 3) := by decide +kernel
theorem zd152_11 : zop 152 11 = some (.ifCond .ne 12, 3) := by decide +kernel
theorem zd152_14 : zop 152 14 = some (.aload_n 0, 1) := by decide +kernel
theorem zd152_15 : zop 152 15 = some (.bipush 45, 2) := by decide +kernel
theorem zd152_17 : zop 152 17 = some (.invokevirtual 227, 3) := by decide +kernel
theorem zd152_20 : zop 152 20 = some (.ifCond .eq 46, 3) := by decide +kernel
theorem zd152_23 : zop 152 23 = some (.aload_n 0, 1) := by decide +kernel
theorem zd152_24 : zop 152 24 = some (.getfield 181, 3) := by decide +kernel
theorem zd152_27 : zop 152 27 = some (.ldc2_w 247, 3) := by decide +kernel
theorem zd152_30 : zop 152 30 = some (.lcmp, 1) := by decide +kernel
theorem zd152_31 : zop 152 31 = some (.ifCond .ne 7, 3) := by decide +kernel
theorem zd152_34 : zop 152 34 = some (.iconst 1, 1) := by decide +kernel
theorem zd152_35 : zop 152 35 = some (.goto 4, 3) := by decide +kernel
theorem zd152_38 : zop 152 38 = some (.iconst 0, 1) := by decide +kernel
theorem zd152_39 : zop 152 39 = some (.istore_n 2, 1) := by decide +kernel
theorem zd152_40 : zop 152 40 = some (.aload_n 0, 1) := by decide +kernel
theorem zd152_41 : zop 152 41 = some (.invokevirtual 202, 3) := by decide +kernel
theorem zd152_44 : zop 152 44 = some (.aload_n 0, 1) := by decide +kernel
theorem zd152_45 : zop 152 45 = some (.invokevirtual 244, 3) := by decide +kernel
theorem zd152_48 : zop 152 48 = some (.istore_n 3, 1) := by decide +kernel
theorem zd152_49 : zop 152 49 = some (.iload_n 2, 1) := by decide +kernel
theorem zd152_50 : zop 152 50 = some (.ifCond .eq 9, 3) := by decide +kernel
theorem zd152_53 : zop 152 53 = some (.iload_n 1, 1) := by decide +kernel
theorem zd152_54 : zop 152 54 = some (.iload_n 3, 1) := by decide +kernel
theorem zd152_55 : zop 152 55 = some (.iadd, 1) := by decide +kernel
theorem zd152_56 : zop 152 56 = some (.goto 6, 3) := by decide +kernel
theorem zd152_59 : zop 152 59 = some (.iload_n 1, 1) := by decide +kernel
theorem zd152_60 : zop 152 60 = some (.iload_n 3, 1) := by decide +kernel
theorem zd152_61 : zop 152 61 = some (.isub, 1) := by decide +kernel
theorem zd152_62 : zop 152 62 = some (.istore_n 1, 1) := by decide +kernel
theorem zd152_63 : zop 152 63 = some (.goto (-58), 3) := by decide +kernel
theorem zd152_66 : zop 152 66 = some (.iload_n 1, 1) := by decide +kernel
theorem zd152_67 : zop 152 67 = some (.ireturn, 1) := by decide +kernel
theorem b152_0 {x : zXs} {F : zF} (hF : zSh F) {d : Nat} {V : Nat → Nat → Int32} {T : Nat → Nat → Int64} {Q : Option Value → zG → Prop} {o1 : Option Value} {o2 : Option Value} {o3 : Option Value}   (k : E x F d 153 0 [some (.ref 59), none] [] (V, T) (fun r G' => E x F (d + 1) 152 4 [some (.ref 59), o1, o2, o3] (r.toList ++ []) G' Q)) : E x F (d + 1) 152 0 [some (.ref 59), o1, o2, o3] [] (V, T) Q := by
  refine e_aload_n zd152_0 rfl rfl ?_
  exact e_callV zd152_1 (own := 8) (nest := false) (w := 1097) (by decide +kernel) (by decide +kernel) zs153 (as := []) (rest := []) rfl rfl (zsh_at hF rfl).1 (by omega) (Nat.le_of_ble_eq_true rfl) rfl rfl rfl (by omega) k
theorem b152_4 {x : zXs} {F : zF} (hF : zSh F) {d : Nat} {V : Nat → Nat → Int32} {T : Nat → Nat → Int64} {Q : Option Value → zG → Prop} {o0 : Option Value} {o1 : Option Value} {o2 : Option Value} {o3 : Option Value} {s0 : Int32}   (k : E x F d 152 5 [o0, some (.int s0), o2, o3] [] (V, T) Q) : E x F d 152 4 [o0, o1, o2, o3] [.int s0] (V, T) Q := by
  refine e_istore_n zd152_4 (by decide +kernel) (Nat.le_of_ble_eq_true rfl) ?_
  exact k
theorem b152_5 {x : zXs} {F : zF} (hF : zSh F) {d : Nat} {V : Nat → Nat → Int32} {T : Nat → Nat → Int64} {Q : Option Value → zG → Prop} {o1 : Option Value} {o2 : Option Value} {o3 : Option Value}   (k : E x F d 155 0 [some (.ref 59), some (.int (Int32.ofInt 43))] [] (V, T) (fun r G' => E x F (d + 1) 152 11 [some (.ref 59), o1, o2, o3] (r.toList ++ []) G' Q)) : E x F (d + 1) 152 5 [some (.ref 59), o1, o2, o3] [] (V, T) Q := by
  refine e_aload_n zd152_5 rfl rfl ?_
  refine e_bipush zd152_6 (v := Int32.ofInt 43) (by decide +kernel) ?_
  exact e_callV zd152_8 (own := 8) (nest := false) (w := 1105) (by decide +kernel) (by decide +kernel) zs155 (as := [.int (Int32.ofInt 43)]) (rest := []) rfl rfl (zsh_at hF rfl).1 (by omega) (Nat.le_of_ble_eq_true rfl) rfl rfl rfl (by omega) k
theorem b152_11 {x : zXs} {F : zF} (hF : zSh F) {d : Nat} {V : Nat → Nat → Int32} {T : Nat → Nat → Int64} {Q : Option Value → zG → Prop} {o0 : Option Value} {o1 : Option Value} {o2 : Option Value} {o3 : Option Value} {s0 : Int32}   (kt : ¬ s0 = 0 → E x F d 152 23 [o0, o1, o2, o3] [] (V, T) Q) (kf : ¬ (¬ s0 = 0) → E x F d 152 14 [o0, o1, o2, o3] [] (V, T) Q) : E x F d 152 11 [o0, o1, o2, o3] [.int s0] (V, T) Q := by
  exact e_if_ne zd152_11 (tg := 23) rfl kt kf
theorem b152_14 {x : zXs} {F : zF} (hF : zSh F) {d : Nat} {V : Nat → Nat → Int32} {T : Nat → Nat → Int64} {Q : Option Value → zG → Prop} {o1 : Option Value} {o2 : Option Value} {o3 : Option Value}   (k : E x F d 155 0 [some (.ref 59), some (.int (Int32.ofInt 45))] [] (V, T) (fun r G' => E x F (d + 1) 152 20 [some (.ref 59), o1, o2, o3] (r.toList ++ []) G' Q)) : E x F (d + 1) 152 14 [some (.ref 59), o1, o2, o3] [] (V, T) Q := by
  refine e_aload_n zd152_14 rfl rfl ?_
  refine e_bipush zd152_15 (v := Int32.ofInt 45) (by decide +kernel) ?_
  exact e_callV zd152_17 (own := 8) (nest := false) (w := 1105) (by decide +kernel) (by decide +kernel) zs155 (as := [.int (Int32.ofInt 45)]) (rest := []) rfl rfl (zsh_at hF rfl).1 (by omega) (Nat.le_of_ble_eq_true rfl) rfl rfl rfl (by omega) k
theorem b152_20 {x : zXs} {F : zF} (hF : zSh F) {d : Nat} {V : Nat → Nat → Int32} {T : Nat → Nat → Int64} {Q : Option Value → zG → Prop} {o0 : Option Value} {o1 : Option Value} {o2 : Option Value} {o3 : Option Value} {s0 : Int32}   (kt : s0 = 0 → E x F d 152 66 [o0, o1, o2, o3] [] (V, T) Q) (kf : ¬ (s0 = 0) → E x F d 152 23 [o0, o1, o2, o3] [] (V, T) Q) : E x F d 152 20 [o0, o1, o2, o3] [.int s0] (V, T) Q := by
  exact e_if_eq zd152_20 (tg := 66) rfl kt kf
theorem b152_23 {x : zXs} {F : zF} (hF : zSh F) {d : Nat} {V : Nat → Nat → Int32} {T : Nat → Nat → Int64} {Q : Option Value → zG → Prop} {o1 : Option Value} {o2 : Option Value} {o3 : Option Value}   (kt : ¬ (lg_cmp (T 59 24) (43 : Int64)) = 0 → E x F d 152 38 [some (.ref 59), o1, o2, o3] [] (V, T) Q) (kf : ¬ (¬ (lg_cmp (T 59 24) (43 : Int64)) = 0) → E x F d 152 34 [some (.ref 59), o1, o2, o3] [] (V, T) Q) : E x F d 152 23 [some (.ref 59), o1, o2, o3] [] (V, T) Q := by
  refine e_aload_n zd152_23 rfl rfl ?_
  refine e_getJ zd152_24 (own := 8) (ci := 8) (kf := 24) (w := 882) (by decide +kernel) (by decide +kernel) (zsh_at hF rfl).1 (by decide +kernel) rfl ?_
  refine e_ldc2 zd152_27 (own := 8) (w := 1113) (v := 43) (by decide +kernel) (by decide +kernel) ?_
  refine e_lcmp zd152_30 ?_
  exact e_if_ne zd152_31 (tg := 38) rfl kt kf
theorem b152_34 {x : zXs} {F : zF} (hF : zSh F) {d : Nat} {V : Nat → Nat → Int32} {T : Nat → Nat → Int64} {Q : Option Value → zG → Prop} {o0 : Option Value} {o1 : Option Value} {o2 : Option Value} {o3 : Option Value}   (k : E x F d 152 39 [o0, o1, o2, o3] [.int (Int32.ofInt 1)] (V, T) Q) : E x F d 152 34 [o0, o1, o2, o3] [] (V, T) Q := by
  refine e_iconst zd152_34 ?_
  exact e_goto zd152_35 (tg := 39) rfl k
theorem b152_38 {x : zXs} {F : zF} (hF : zSh F) {d : Nat} {V : Nat → Nat → Int32} {T : Nat → Nat → Int64} {Q : Option Value → zG → Prop} {o0 : Option Value} {o1 : Option Value} {o2 : Option Value} {o3 : Option Value}   (k : E x F d 152 39 [o0, o1, o2, o3] [.int (Int32.ofInt 0)] (V, T) Q) : E x F d 152 38 [o0, o1, o2, o3] [] (V, T) Q := by
  refine e_iconst zd152_38 ?_
  exact k
theorem b152_39 {x : zXs} {F : zF} (hF : zSh F) {d : Nat} {V : Nat → Nat → Int32} {T : Nat → Nat → Int64} {Q : Option Value → zG → Prop} {o1 : Option Value} {o2 : Option Value} {o3 : Option Value} {s0 : Int32}   (k : E x F d 142 0 [some (.ref 59), none, none] [] (V, T) (fun r G' => E x F (d + 1) 152 44 [some (.ref 59), o1, some (.int s0), o3] (r.toList ++ []) G' Q)) : E x F (d + 1) 152 39 [some (.ref 59), o1, o2, o3] [.int s0] (V, T) Q := by
  refine e_istore_n zd152_39 (by decide +kernel) (Nat.le_of_ble_eq_true rfl) ?_
  refine e_aload_n zd152_40 rfl rfl ?_
  exact e_callV zd152_41 (own := 8) (nest := false) (w := 1049) (by decide +kernel) (by decide +kernel) zs142 (as := []) (rest := []) rfl rfl (zsh_at hF rfl).1 (by omega) (Nat.le_of_ble_eq_true rfl) rfl rfl rfl (by omega) k
theorem b152_44 {x : zXs} {F : zF} (hF : zSh F) {d : Nat} {V : Nat → Nat → Int32} {T : Nat → Nat → Int64} {Q : Option Value → zG → Prop} {o1 : Option Value} {o2 : Option Value} {o3 : Option Value}   (k : E x F d 153 0 [some (.ref 59), none] [] (V, T) (fun r G' => E x F (d + 1) 152 48 [some (.ref 59), o1, o2, o3] (r.toList ++ []) G' Q)) : E x F (d + 1) 152 44 [some (.ref 59), o1, o2, o3] [] (V, T) Q := by
  refine e_aload_n zd152_44 rfl rfl ?_
  exact e_callV zd152_45 (own := 8) (nest := false) (w := 1097) (by decide +kernel) (by decide +kernel) zs153 (as := []) (rest := []) rfl rfl (zsh_at hF rfl).1 (by omega) (Nat.le_of_ble_eq_true rfl) rfl rfl rfl (by omega) k
theorem b152_48 {x : zXs} {F : zF} (hF : zSh F) {d : Nat} {V : Nat → Nat → Int32} {T : Nat → Nat → Int64} {Q : Option Value → zG → Prop} {o0 : Option Value} {o1 : Option Value} {l2 : Int32} {o3 : Option Value} {s0 : Int32}   (kt : l2 = 0 → E x F d 152 59 [o0, o1, some (.int l2), some (.int s0)] [] (V, T) Q) (kf : ¬ (l2 = 0) → E x F d 152 53 [o0, o1, some (.int l2), some (.int s0)] [] (V, T) Q) : E x F d 152 48 [o0, o1, some (.int l2), o3] [.int s0] (V, T) Q := by
  refine e_istore_n zd152_48 (by decide +kernel) (Nat.le_of_ble_eq_true rfl) ?_
  refine e_iload_n zd152_49 rfl ?_
  exact e_if_eq zd152_50 (tg := 59) rfl kt kf
theorem b152_53 {x : zXs} {F : zF} (hF : zSh F) {d : Nat} {V : Nat → Nat → Int32} {T : Nat → Nat → Int64} {Q : Option Value → zG → Prop} {o0 : Option Value} {l1 : Int32} {o2 : Option Value} {l3 : Int32}   (k : E x F d 152 62 [o0, some (.int l1), o2, some (.int l3)] [.int (l1 + l3)] (V, T) Q) : E x F d 152 53 [o0, some (.int l1), o2, some (.int l3)] [] (V, T) Q := by
  refine e_iload_n zd152_53 rfl ?_
  refine e_iload_n zd152_54 rfl ?_
  refine e_iadd zd152_55 ?_
  exact e_goto zd152_56 (tg := 62) rfl k
theorem b152_59 {x : zXs} {F : zF} (hF : zSh F) {d : Nat} {V : Nat → Nat → Int32} {T : Nat → Nat → Int64} {Q : Option Value → zG → Prop} {o0 : Option Value} {l1 : Int32} {o2 : Option Value} {l3 : Int32}   (k : E x F d 152 62 [o0, some (.int l1), o2, some (.int l3)] [.int (l1 - l3)] (V, T) Q) : E x F d 152 59 [o0, some (.int l1), o2, some (.int l3)] [] (V, T) Q := by
  refine e_iload_n zd152_59 rfl ?_
  refine e_iload_n zd152_60 rfl ?_
  refine e_isub zd152_61 ?_
  exact k
theorem b152_62 {x : zXs} {F : zF} (hF : zSh F) {d : Nat} {V : Nat → Nat → Int32} {T : Nat → Nat → Int64} {Q : Option Value → zG → Prop} {o0 : Option Value} {o1 : Option Value} {o2 : Option Value} {o3 : Option Value} {s0 : Int32}   (k : E x F d 152 5 [o0, some (.int s0), o2, o3] [] (V, T) Q) : E x F d 152 62 [o0, o1, o2, o3] [.int s0] (V, T) Q := by
  refine e_istore_n zd152_62 (by decide +kernel) (Nat.le_of_ble_eq_true rfl) ?_
  exact e_goto zd152_63 (tg := 5) rfl k
theorem b152_66 {x : zXs} {F : zF} (hF : zSh F) {d : Nat} {V : Nat → Nat → Int32} {T : Nat → Nat → Int64} {Q : Option Value → zG → Prop} {o0 : Option Value} {l1 : Int32} {o2 : Option Value} {o3 : Option Value}   (k : Q (some (.int l1)) (V, T)) : E x F d 152 66 [o0, some (.int l1), o2, o3] [] (V, T) Q := by
  refine e_iload_n zd152_66 rfl ?_
  exact e_ireti zd152_67 zs152 k
theorem zd153_0 : zop 153 0 = some (.aload_n 0, 1) := by decide +kernel
theorem zd153_1 : zop 153 1 = some (.invokevirtual 234, 3) := by decide +kernel
theorem zd153_4 : zop 153 4 = some (.istore_n 1, 1) := by decide +kernel
theorem zd153_5 : zop 153 5 = some (.aload_n 0, 1) := by decide +kernel
theorem zd153_6 : zop 153 6 = some (.bipush 42, 2) := by decide +kernel
theorem zd153_8 : zop 153 8 = some (.invokevirtual 227, 3) := by decide +kernel
theorem zd153_11 : zop 153 11 = some (.ifCond .eq 17, 3) := by decide +kernel
theorem zd153_14 : zop 153 14 = some (.aload_n 0, 1) := by decide +kernel
theorem zd153_15 : zop 153 15 = some (.invokevirtual 202, 3) := by decide +kernel
theorem zd153_18 : zop 153 18 = some (.iload_n 1, 1) := by decide +kernel
theorem zd153_19 : zop 153 19 = some (.aload_n 0, 1) := by decide +kernel
theorem zd153_20 : zop 153 20 = some (.invokevirtual 234, 3) := by decide +kernel
theorem zd153_23 : zop 153 23 = some (.imul, 1) := by decide +kernel
theorem zd153_24 : zop 153 24 = some (.istore_n 1, 1) := by decide +kernel
theorem zd153_25 : zop 153 25 = some (.goto (-20), 3) := by decide +kernel
theorem zd153_28 : zop 153 28 = some (.iload_n 1, 1) := by decide +kernel
theorem zd153_29 : zop 153 29 = some (.ireturn, 1) := by decide +kernel
theorem b153_0 {x : zXs} {F : zF} (hF : zSh F) {d : Nat} {V : Nat → Nat → Int32} {T : Nat → Nat → Int64} {Q : Option Value → zG → Prop} {o1 : Option Value}   (k : E x F d 154 0 [some (.ref 59), none] [] (V, T) (fun r G' => E x F (d + 1) 153 4 [some (.ref 59), o1] (r.toList ++ []) G' Q)) : E x F (d + 1) 153 0 [some (.ref 59), o1] [] (V, T) Q := by
  refine e_aload_n zd153_0 rfl rfl ?_
  exact e_callV zd153_1 (own := 8) (nest := false) (w := 1101) (by decide +kernel) (by decide +kernel) zs154 (as := []) (rest := []) rfl rfl (zsh_at hF rfl).1 (by omega) (Nat.le_of_ble_eq_true rfl) rfl rfl rfl (by omega) k
theorem b153_4 {x : zXs} {F : zF} (hF : zSh F) {d : Nat} {V : Nat → Nat → Int32} {T : Nat → Nat → Int64} {Q : Option Value → zG → Prop} {o0 : Option Value} {o1 : Option Value} {s0 : Int32}   (k : E x F d 153 5 [o0, some (.int s0)] [] (V, T) Q) : E x F d 153 4 [o0, o1] [.int s0] (V, T) Q := by
  refine e_istore_n zd153_4 (by decide +kernel) (Nat.le_of_ble_eq_true rfl) ?_
  exact k
theorem b153_5 {x : zXs} {F : zF} (hF : zSh F) {d : Nat} {V : Nat → Nat → Int32} {T : Nat → Nat → Int64} {Q : Option Value → zG → Prop} {o1 : Option Value}   (k : E x F d 155 0 [some (.ref 59), some (.int (Int32.ofInt 42))] [] (V, T) (fun r G' => E x F (d + 1) 153 11 [some (.ref 59), o1] (r.toList ++ []) G' Q)) : E x F (d + 1) 153 5 [some (.ref 59), o1] [] (V, T) Q := by
  refine e_aload_n zd153_5 rfl rfl ?_
  refine e_bipush zd153_6 (v := Int32.ofInt 42) (by decide +kernel) ?_
  exact e_callV zd153_8 (own := 8) (nest := false) (w := 1105) (by decide +kernel) (by decide +kernel) zs155 (as := [.int (Int32.ofInt 42)]) (rest := []) rfl rfl (zsh_at hF rfl).1 (by omega) (Nat.le_of_ble_eq_true rfl) rfl rfl rfl (by omega) k
theorem b153_11 {x : zXs} {F : zF} (hF : zSh F) {d : Nat} {V : Nat → Nat → Int32} {T : Nat → Nat → Int64} {Q : Option Value → zG → Prop} {o0 : Option Value} {o1 : Option Value} {s0 : Int32}   (kt : s0 = 0 → E x F d 153 28 [o0, o1] [] (V, T) Q) (kf : ¬ (s0 = 0) → E x F d 153 14 [o0, o1] [] (V, T) Q) : E x F d 153 11 [o0, o1] [.int s0] (V, T) Q := by
  exact e_if_eq zd153_11 (tg := 28) rfl kt kf
theorem b153_14 {x : zXs} {F : zF} (hF : zSh F) {d : Nat} {V : Nat → Nat → Int32} {T : Nat → Nat → Int64} {Q : Option Value → zG → Prop} {o1 : Option Value}   (k : E x F d 142 0 [some (.ref 59), none, none] [] (V, T) (fun r G' => E x F (d + 1) 153 18 [some (.ref 59), o1] (r.toList ++ []) G' Q)) : E x F (d + 1) 153 14 [some (.ref 59), o1] [] (V, T) Q := by
  refine e_aload_n zd153_14 rfl rfl ?_
  exact e_callV zd153_15 (own := 8) (nest := false) (w := 1049) (by decide +kernel) (by decide +kernel) zs142 (as := []) (rest := []) rfl rfl (zsh_at hF rfl).1 (by omega) (Nat.le_of_ble_eq_true rfl) rfl rfl rfl (by omega) k
theorem b153_18 {x : zXs} {F : zF} (hF : zSh F) {d : Nat} {V : Nat → Nat → Int32} {T : Nat → Nat → Int64} {Q : Option Value → zG → Prop} {l1 : Int32}   (k : E x F d 154 0 [some (.ref 59), none] [] (V, T) (fun r G' => E x F (d + 1) 153 23 [some (.ref 59), some (.int l1)] (r.toList ++ [.int l1]) G' Q)) : E x F (d + 1) 153 18 [some (.ref 59), some (.int l1)] [] (V, T) Q := by
  refine e_iload_n zd153_18 rfl ?_
  refine e_aload_n zd153_19 rfl rfl ?_
  exact e_callV zd153_20 (own := 8) (nest := false) (w := 1101) (by decide +kernel) (by decide +kernel) zs154 (as := []) (rest := [.int l1]) rfl rfl (zsh_at hF rfl).1 (by omega) (Nat.le_of_ble_eq_true rfl) rfl rfl rfl (by omega) k
theorem b153_23 {x : zXs} {F : zF} (hF : zSh F) {d : Nat} {V : Nat → Nat → Int32} {T : Nat → Nat → Int64} {Q : Option Value → zG → Prop} {o0 : Option Value} {o1 : Option Value} {s0 : Int32} {s1 : Int32}   (k : E x F d 153 5 [o0, some (.int (s0 * s1))] [] (V, T) Q) : E x F d 153 23 [o0, o1] [.int s1, .int s0] (V, T) Q := by
  refine e_imul zd153_23 ?_
  refine e_istore_n zd153_24 (by decide +kernel) (Nat.le_of_ble_eq_true rfl) ?_
  exact e_goto zd153_25 (tg := 5) rfl k
theorem b153_28 {x : zXs} {F : zF} (hF : zSh F) {d : Nat} {V : Nat → Nat → Int32} {T : Nat → Nat → Int64} {Q : Option Value → zG → Prop} {o0 : Option Value} {l1 : Int32}   (k : Q (some (.int l1)) (V, T)) : E x F d 153 28 [o0, some (.int l1)] [] (V, T) Q := by
  refine e_iload_n zd153_28 rfl ?_
  exact e_ireti zd153_29 zs153 k
theorem zd154_0 : zop 154 0 = some (.iconst 0, 1) := by decide +kernel
theorem zd154_1 : zop 154 1 = some (.istore_n 1, 1) := by decide +kernel
theorem zd154_2 : zop 154 2 = some (.aload_n 0, 1) := by decide +kernel
theorem zd154_3 : zop 154 3 = some (.bipush 45, 2) := by decide +kernel
theorem zd154_5 : zop 154 5 = some (.invokevirtual 227, 3) := by decide +kernel
theorem zd154_8 : zop 154 8 = some (.ifCond .eq 29, 3) := by decide +kernel
theorem zd154_11 : zop 154 11 = some (.aload_n 0, 1) := by decide +kernel
theorem zd154_12 : zop 154 12 = some (.invokevirtual 230, 3) := by decide +kernel
theorem zd154_15 : zop 154 15 = some (.ifCond .eq 146, 3) := by decide +kernel
theorem zd154_18 : zop 154 18 = some (.aload_n 0, 1) := by decide +kernel
theorem zd154_19 : zop 154 19 = some (.invokevirtual 234, 3) := by decide +kernel
theorem zd154_22 : zop 154 22 = some (.ineg, 1) := by decide +kernel
theorem zd154_23 : zop 154 23 = some (.istore_n 1, 1) := by decide +kernel
theorem zd154_24 : zop 154 24 = some (.aload_n 0, 1) := by decide +kernel
theorem zd154_25 : zop 154 25 = some (.dup, 1) := by decide +kernel
theorem zd154_26 : zop 154 26 = some (.getfield 196, 3) := by decide +kernel
theorem zd154_29 : zop 154 29 = some (.iconst 1, 1) := by decide +kernel
theorem zd154_30 : zop 154 30 = some (.isub, 1) := by decide +kernel
theorem zd154_31 : zop 154 31 = some (.putfield 196, 3) := by decide +kernel
theorem zd154_34 : zop 154 34 = some (.goto 127, 3) := by decide +kernel
theorem zd154_37 : zop 154 37 = some (.aload_n 0, 1) := by decide +kernel
theorem zd154_38 : zop 154 38 = some (.bipush 40, 2) := by decide +kernel
theorem zd154_40 : zop 154 40 = some (.invokevirtual 227, 3) := by decide +kernel
theorem zd154_43 : zop 154 43 = some (.ifCond .eq 52, 3) := by decide +kernel
theorem zd154_46 : zop 154 46 = some (.aload_n 0, 1) := by decide +kernel
theorem zd154_47 : zop 154 47 = some (.invokevirtual 230, 3) := by decide +kernel
theorem zd154_50 : zop 154 50 = some (.ifCond .eq 111, 3) := by decide +kernel
theorem zd154_53 : zop 154 53 = some (.aload_n 0, 1) := by decide +kernel
theorem zd154_54 : zop 154 54 = some (.invokevirtual 238, 3) := by decide +kernel
theorem zd154_57 : zop 154 57 = some (.istore_n 1, 1) := by decide +kernel
theorem zd154_58 : zop 154 58 = some (.aload_n 0, 1) := by decide +kernel
theorem zd154_59 : zop 154 59 = some (.bipush 41, 2) := by decide +kernel
theorem zd154_61 : zop 154 61 = some (.invokevirtual 227, 3) := by decide +kernel
theorem zd154_64 : zop 154 64 = some (.ifCond .ne 7, 3) := by decide +kernel
theorem zd154_67 : zop 154 67 = some (.aload_n 0, 1) := by decide +kernel
theorem zd154_68 : zop 154 68 = some (.invokevirtual 199, 3) := by decide +kernel
theorem zd154_71 : zop 154 71 = some (.aload_n 0, 1) := by decide +kernel
theorem zd154_72 : zop 154 72 = some (.dup, 1) := by decide +kernel
theorem zd154_73 : zop 154 73 = some (.getfield 196, 3) := by decide +kernel
theorem zd154_76 : zop 154 76 = some (.iconst 1, 1) := by decide +kernel
theorem zd154_77 : zop 154 77 = some (.isub, 1) := by decide +kernel
theorem zd154_78 : zop 154 78 = some (.putfield 196, 3) := by decide +kernel
theorem zd154_81 : zop 154 81 = some (.aload_n 0, 1) := by decide +kernel
theorem zd154_82 : zop 154 82 = some (.getfield 185, 3) := by decide +kernel
theorem zd154_85 : zop 154 85 = some (.ifCond .ne 76, 3) := by decide +kernel
theorem zd154_88 : zop 154 88 = some (.aload_n 0, 1) := by decide +kernel
theorem zd154_89 : zop 154 89 = some (.invokevirtual 202, 3) := by decide +kernel
theorem zd154_92 : zop 154 92 = some (.goto 69, 3) := by decide +kernel
theorem zd154_95 : zop 154 95 = some (.aload_n 0, 1) := by decide +kernel
theorem zd154_96 : zop 154 96 = some (.getfield 185, 3) := by decide +kernel
theorem zd154_99 : zop 154 99 = some (.ifCond .ne 24, 3) := by decide +kernel
theorem zd154_102 : zop 154 102 = some (.aload_n 0, 1) := by decide +kernel
theorem zd154_103 : zop 154 103 = some (.getfield 170, 3) := by decide +kernel
theorem zd154_106 : zop 154 106 = some (.iconst 2, 1) := by decide +kernel
theorem zd154_107 : zop 154 107 = some (.if_icmp .ne 16, 3) := by decide +kernel
theorem zd154_110 : zop 154 110 = some (.aload_n 0, 1) := by decide +kernel
theorem zd154_111 : zop 154 111 = some (.getfield 181, 3) := by decide +kernel
theorem zd154_114 : zop 154 114 = some (.l2i, 1) := by decide +kernel
theorem zd154_115 : zop 154 115 = some (.istore_n 1, 1) := by decide +kernel
theorem zd154_116 : zop 154 116 = some (.aload_n 0, 1) := by decide +kernel
theorem zd154_117 : zop 154 117 = some (.invokevirtual 202, 3) := by decide +kernel
theorem zd154_120 : zop 154 120 = some (.goto 41, 3) := by decide +kernel
theorem zd154_123 : zop 154 123 = some (.aload_n 0, 1) := by decide +kernel
theorem zd154_124 : zop 154 124 = some (.getfield 185, 3) := by decide +kernel
theorem zd154_127 : zop 154 127 = some (.ifCond .ne 30, 3) := by decide +kernel
theorem zd154_130 : zop 154 130 = some (.aload_n 0, 1) := by decide +kernel
theorem zd154_131 : zop 154 131 = some (.getfield 170, 3) := by decide +kernel
theorem zd154_134 : zop 154 134 = some (.iconst 1, 1) := by decide +kernel
theorem zd154_135 : zop 154 135 = some (.if_icmp .ne 22, 3) := by decide +kernel
theorem zd154_138 : zop 154 138 = some (.aload_n 0, 1) := by decide +kernel
theorem zd154_139 : zop 154 139 = some (.invokevirtual 241, 3) := by decide +kernel
theorem zd154_142 : zop 154 142 = some (.istore_n 1, 1) := by decide +kernel
theorem zd154_143 : zop 154 143 = some (.aload_n 0, 1) := by decide +kernel
theorem zd154_144 : zop 154 144 = some (.getfield 185, 3) := by decide +kernel
theorem zd154_147 : zop 154 147 = some (.ifCond .ne 14, 3) := by decide +kernel
theorem zd154_150 : zop 154 150 = some (.aload_n 0, 1) := by decide +kernel
theorem zd154_151 : zop 154 151 = some (.invokevirtual 202, 3) := by decide +kernel
theorem zd154_154 : zop 154 154 = some (.goto 7, 3) := by decide +kernel
theorem zd154_157 : zop 154 157 = some (.aload_n 0, 1) := by decide +kernel
theorem zd154_158 : zop 154 158 = some (.invokevirtual 199, 3) := by decide +kernel
theorem zd154_161 : zop 154 161 = some (.iload_n 1, 1) := by decide +kernel
theorem zd154_162 : zop 154 162 = some (.ireturn, 1) := by decide +kernel
theorem b154_0 {x : zXs} {F : zF} (hF : zSh F) {d : Nat} {V : Nat → Nat → Int32} {T : Nat → Nat → Int64} {Q : Option Value → zG → Prop} {o1 : Option Value}   (k : E x F d 155 0 [some (.ref 59), some (.int (Int32.ofInt 45))] [] (V, T) (fun r G' => E x F (d + 1) 154 8 [some (.ref 59), some (.int (Int32.ofInt 0))] (r.toList ++ []) G' Q)) : E x F (d + 1) 154 0 [some (.ref 59), o1] [] (V, T) Q := by
  refine e_iconst zd154_0 ?_
  refine e_istore_n zd154_1 (by decide +kernel) (Nat.le_of_ble_eq_true rfl) ?_
  refine e_aload_n zd154_2 rfl rfl ?_
  refine e_bipush zd154_3 (v := Int32.ofInt 45) (by decide +kernel) ?_
  exact e_callV zd154_5 (own := 8) (nest := false) (w := 1105) (by decide +kernel) (by decide +kernel) zs155 (as := [.int (Int32.ofInt 45)]) (rest := []) rfl rfl (zsh_at hF rfl).1 (by omega) (Nat.le_of_ble_eq_true rfl) rfl rfl rfl (by omega) k
theorem b154_8 {x : zXs} {F : zF} (hF : zSh F) {d : Nat} {V : Nat → Nat → Int32} {T : Nat → Nat → Int64} {Q : Option Value → zG → Prop} {o0 : Option Value} {o1 : Option Value} {s0 : Int32}   (kt : s0 = 0 → E x F d 154 37 [o0, o1] [] (V, T) Q) (kf : ¬ (s0 = 0) → E x F d 154 11 [o0, o1] [] (V, T) Q) : E x F d 154 8 [o0, o1] [.int s0] (V, T) Q := by
  exact e_if_eq zd154_8 (tg := 37) rfl kt kf
theorem b154_11 {x : zXs} {F : zF} (hF : zSh F) {d : Nat} {V : Nat → Nat → Int32} {T : Nat → Nat → Int64} {Q : Option Value → zG → Prop} {o1 : Option Value}   (k : E x F d 151 0 [some (.ref 59)] [] (V, T) (fun r G' => E x F (d + 1) 154 15 [some (.ref 59), o1] (r.toList ++ []) G' Q)) : E x F (d + 1) 154 11 [some (.ref 59), o1] [] (V, T) Q := by
  refine e_aload_n zd154_11 rfl rfl ?_
  exact e_callV zd154_12 (own := 8) (nest := false) (w := 1089) (by decide +kernel) (by decide +kernel) zs151 (as := []) (rest := []) rfl rfl (zsh_at hF rfl).1 (by omega) (Nat.le_of_ble_eq_true rfl) rfl rfl rfl (by omega) k
theorem b154_15 {x : zXs} {F : zF} (hF : zSh F) {d : Nat} {V : Nat → Nat → Int32} {T : Nat → Nat → Int64} {Q : Option Value → zG → Prop} {o0 : Option Value} {o1 : Option Value} {s0 : Int32}   (kt : s0 = 0 → E x F d 154 161 [o0, o1] [] (V, T) Q) (kf : ¬ (s0 = 0) → E x F d 154 18 [o0, o1] [] (V, T) Q) : E x F d 154 15 [o0, o1] [.int s0] (V, T) Q := by
  exact e_if_eq zd154_15 (tg := 161) rfl kt kf
theorem b154_18 {x : zXs} {F : zF} (hF : zSh F) {d : Nat} {V : Nat → Nat → Int32} {T : Nat → Nat → Int64} {Q : Option Value → zG → Prop} {o1 : Option Value}   (k : E x F d 154 0 [some (.ref 59), none] [] (V, T) (fun r G' => E x F (d + 1) 154 22 [some (.ref 59), o1] (r.toList ++ []) G' Q)) : E x F (d + 1) 154 18 [some (.ref 59), o1] [] (V, T) Q := by
  refine e_aload_n zd154_18 rfl rfl ?_
  exact e_callV zd154_19 (own := 8) (nest := false) (w := 1101) (by decide +kernel) (by decide +kernel) zs154 (as := []) (rest := []) rfl rfl (zsh_at hF rfl).1 (by omega) (Nat.le_of_ble_eq_true rfl) rfl rfl rfl (by omega) k
theorem b154_22 {x : zXs} {F : zF} (hF : zSh F) {d : Nat} {V : Nat → Nat → Int32} {T : Nat → Nat → Int64} {Q : Option Value → zG → Prop} {o1 : Option Value} {s0 : Int32}   (k : E x F d 154 161 [some (.ref 59), some (.int (-s0))] [] (zu V 59 25 ((V 59 25) - (Int32.ofInt 1)), T) Q) : E x F d 154 22 [some (.ref 59), o1] [.int s0] (V, T) Q := by
  refine e_ineg zd154_22 ?_
  refine e_istore_n zd154_23 (by decide +kernel) (Nat.le_of_ble_eq_true rfl) ?_
  refine e_aload_n zd154_24 rfl rfl ?_
  refine e_dup zd154_25 rfl ?_
  refine e_getI zd154_26 (own := 8) (ci := 8) (kf := 25) (w := 883) (by decide +kernel) (by decide +kernel) (zsh_at hF rfl).1 (by decide +kernel) rfl ?_
  refine e_iconst zd154_29 ?_
  refine e_isub zd154_30 ?_
  refine e_putI zd154_31 (own := 8) (ci := 8) (kf := 25) (w := 883) (by decide +kernel) (by decide +kernel) (zsh_at hF rfl).1 (by decide +kernel) rfl ?_
  exact e_goto zd154_34 (tg := 161) rfl k
theorem b154_37 {x : zXs} {F : zF} (hF : zSh F) {d : Nat} {V : Nat → Nat → Int32} {T : Nat → Nat → Int64} {Q : Option Value → zG → Prop} {o1 : Option Value}   (k : E x F d 155 0 [some (.ref 59), some (.int (Int32.ofInt 40))] [] (V, T) (fun r G' => E x F (d + 1) 154 43 [some (.ref 59), o1] (r.toList ++ []) G' Q)) : E x F (d + 1) 154 37 [some (.ref 59), o1] [] (V, T) Q := by
  refine e_aload_n zd154_37 rfl rfl ?_
  refine e_bipush zd154_38 (v := Int32.ofInt 40) (by decide +kernel) ?_
  exact e_callV zd154_40 (own := 8) (nest := false) (w := 1105) (by decide +kernel) (by decide +kernel) zs155 (as := [.int (Int32.ofInt 40)]) (rest := []) rfl rfl (zsh_at hF rfl).1 (by omega) (Nat.le_of_ble_eq_true rfl) rfl rfl rfl (by omega) k
theorem b154_43 {x : zXs} {F : zF} (hF : zSh F) {d : Nat} {V : Nat → Nat → Int32} {T : Nat → Nat → Int64} {Q : Option Value → zG → Prop} {o0 : Option Value} {o1 : Option Value} {s0 : Int32}   (kt : s0 = 0 → E x F d 154 95 [o0, o1] [] (V, T) Q) (kf : ¬ (s0 = 0) → E x F d 154 46 [o0, o1] [] (V, T) Q) : E x F d 154 43 [o0, o1] [.int s0] (V, T) Q := by
  exact e_if_eq zd154_43 (tg := 95) rfl kt kf
theorem b154_46 {x : zXs} {F : zF} (hF : zSh F) {d : Nat} {V : Nat → Nat → Int32} {T : Nat → Nat → Int64} {Q : Option Value → zG → Prop} {o1 : Option Value}   (k : E x F d 151 0 [some (.ref 59)] [] (V, T) (fun r G' => E x F (d + 1) 154 50 [some (.ref 59), o1] (r.toList ++ []) G' Q)) : E x F (d + 1) 154 46 [some (.ref 59), o1] [] (V, T) Q := by
  refine e_aload_n zd154_46 rfl rfl ?_
  exact e_callV zd154_47 (own := 8) (nest := false) (w := 1089) (by decide +kernel) (by decide +kernel) zs151 (as := []) (rest := []) rfl rfl (zsh_at hF rfl).1 (by omega) (Nat.le_of_ble_eq_true rfl) rfl rfl rfl (by omega) k
theorem b154_50 {x : zXs} {F : zF} (hF : zSh F) {d : Nat} {V : Nat → Nat → Int32} {T : Nat → Nat → Int64} {Q : Option Value → zG → Prop} {o0 : Option Value} {o1 : Option Value} {s0 : Int32}   (kt : s0 = 0 → E x F d 154 161 [o0, o1] [] (V, T) Q) (kf : ¬ (s0 = 0) → E x F d 154 53 [o0, o1] [] (V, T) Q) : E x F d 154 50 [o0, o1] [.int s0] (V, T) Q := by
  exact e_if_eq zd154_50 (tg := 161) rfl kt kf
theorem b154_53 {x : zXs} {F : zF} (hF : zSh F) {d : Nat} {V : Nat → Nat → Int32} {T : Nat → Nat → Int64} {Q : Option Value → zG → Prop} {o1 : Option Value}   (k : E x F d 148 0 [some (.ref 59), none, none] [] (V, T) (fun r G' => E x F (d + 1) 154 57 [some (.ref 59), o1] (r.toList ++ []) G' Q)) : E x F (d + 1) 154 53 [some (.ref 59), o1] [] (V, T) Q := by
  refine e_aload_n zd154_53 rfl rfl ?_
  exact e_callV zd154_54 (own := 8) (nest := false) (w := 1077) (by decide +kernel) (by decide +kernel) zs148 (as := []) (rest := []) rfl rfl (zsh_at hF rfl).1 (by omega) (Nat.le_of_ble_eq_true rfl) rfl rfl rfl (by omega) k
theorem b154_57 {x : zXs} {F : zF} (hF : zSh F) {d : Nat} {V : Nat → Nat → Int32} {T : Nat → Nat → Int64} {Q : Option Value → zG → Prop} {o1 : Option Value} {s0 : Int32}   (k : E x F d 155 0 [some (.ref 59), some (.int (Int32.ofInt 41))] [] (V, T) (fun r G' => E x F (d + 1) 154 64 [some (.ref 59), some (.int s0)] (r.toList ++ []) G' Q)) : E x F (d + 1) 154 57 [some (.ref 59), o1] [.int s0] (V, T) Q := by
  refine e_istore_n zd154_57 (by decide +kernel) (Nat.le_of_ble_eq_true rfl) ?_
  refine e_aload_n zd154_58 rfl rfl ?_
  refine e_bipush zd154_59 (v := Int32.ofInt 41) (by decide +kernel) ?_
  exact e_callV zd154_61 (own := 8) (nest := false) (w := 1105) (by decide +kernel) (by decide +kernel) zs155 (as := [.int (Int32.ofInt 41)]) (rest := []) rfl rfl (zsh_at hF rfl).1 (by omega) (Nat.le_of_ble_eq_true rfl) rfl rfl rfl (by omega) k
theorem b154_64 {x : zXs} {F : zF} (hF : zSh F) {d : Nat} {V : Nat → Nat → Int32} {T : Nat → Nat → Int64} {Q : Option Value → zG → Prop} {o0 : Option Value} {o1 : Option Value} {s0 : Int32}   (kt : ¬ s0 = 0 → E x F d 154 71 [o0, o1] [] (V, T) Q) (kf : ¬ (¬ s0 = 0) → E x F d 154 67 [o0, o1] [] (V, T) Q) : E x F d 154 64 [o0, o1] [.int s0] (V, T) Q := by
  exact e_if_ne zd154_64 (tg := 71) rfl kt kf
theorem b154_67 {x : zXs} {F : zF} (hF : zSh F) {d : Nat} {V : Nat → Nat → Int32} {T : Nat → Nat → Int64} {Q : Option Value → zG → Prop} {o1 : Option Value}   (k : E x F d 147 0 [some (.ref 59)] [] (V, T) (fun r G' => E x F (d + 1) 154 71 [some (.ref 59), o1] (r.toList ++ []) G' Q)) : E x F (d + 1) 154 67 [some (.ref 59), o1] [] (V, T) Q := by
  refine e_aload_n zd154_67 rfl rfl ?_
  exact e_callV zd154_68 (own := 8) (nest := false) (w := 1073) (by decide +kernel) (by decide +kernel) zs147 (as := []) (rest := []) rfl rfl (zsh_at hF rfl).1 (by omega) (Nat.le_of_ble_eq_true rfl) rfl rfl rfl (by omega) k
theorem b154_71 {x : zXs} {F : zF} (hF : zSh F) {d : Nat} {V : Nat → Nat → Int32} {T : Nat → Nat → Int64} {Q : Option Value → zG → Prop} {o1 : Option Value}   (kt : ¬ ((zu V 59 25 ((V 59 25) - (Int32.ofInt 1))) 59 26) = 0 → E x F d 154 161 [some (.ref 59), o1] [] (zu V 59 25 ((V 59 25) - (Int32.ofInt 1)), T) Q) (kf : ¬ (¬ ((zu V 59 25 ((V 59 25) - (Int32.ofInt 1))) 59 26) = 0) → E x F d 154 88 [some (.ref 59), o1] [] (zu V 59 25 ((V 59 25) - (Int32.ofInt 1)), T) Q) : E x F d 154 71 [some (.ref 59), o1] [] (V, T) Q := by
  refine e_aload_n zd154_71 rfl rfl ?_
  refine e_dup zd154_72 rfl ?_
  refine e_getI zd154_73 (own := 8) (ci := 8) (kf := 25) (w := 883) (by decide +kernel) (by decide +kernel) (zsh_at hF rfl).1 (by decide +kernel) rfl ?_
  refine e_iconst zd154_76 ?_
  refine e_isub zd154_77 ?_
  refine e_putI zd154_78 (own := 8) (ci := 8) (kf := 25) (w := 883) (by decide +kernel) (by decide +kernel) (zsh_at hF rfl).1 (by decide +kernel) rfl ?_
  refine e_aload_n zd154_81 rfl rfl ?_
  refine e_getZ zd154_82 (own := 8) (ci := 8) (kf := 26) (w := 884) (by decide +kernel) (by decide +kernel) (zsh_at hF rfl).1 (by decide +kernel) rfl ?_
  exact e_if_ne zd154_85 (tg := 161) rfl kt kf
theorem b154_88 {x : zXs} {F : zF} (hF : zSh F) {d : Nat} {V : Nat → Nat → Int32} {T : Nat → Nat → Int64} {Q : Option Value → zG → Prop} {o1 : Option Value}   (k : E x F d 142 0 [some (.ref 59), none, none] [] (V, T) (fun r G' => E x F (d + 1) 154 92 [some (.ref 59), o1] (r.toList ++ []) G' Q)) : E x F (d + 1) 154 88 [some (.ref 59), o1] [] (V, T) Q := by
  refine e_aload_n zd154_88 rfl rfl ?_
  exact e_callV zd154_89 (own := 8) (nest := false) (w := 1049) (by decide +kernel) (by decide +kernel) zs142 (as := []) (rest := []) rfl rfl (zsh_at hF rfl).1 (by omega) (Nat.le_of_ble_eq_true rfl) rfl rfl rfl (by omega) k
theorem b154_92 {x : zXs} {F : zF} (hF : zSh F) {d : Nat} {V : Nat → Nat → Int32} {T : Nat → Nat → Int64} {Q : Option Value → zG → Prop} {o0 : Option Value} {o1 : Option Value}   (k : E x F d 154 161 [o0, o1] [] (V, T) Q) : E x F d 154 92 [o0, o1] [] (V, T) Q := by
  exact e_goto zd154_92 (tg := 161) rfl k
theorem b154_95 {x : zXs} {F : zF} (hF : zSh F) {d : Nat} {V : Nat → Nat → Int32} {T : Nat → Nat → Int64} {Q : Option Value → zG → Prop} {o1 : Option Value}   (kt : ¬ (V 59 26) = 0 → E x F d 154 123 [some (.ref 59), o1] [] (V, T) Q) (kf : ¬ (¬ (V 59 26) = 0) → E x F d 154 102 [some (.ref 59), o1] [] (V, T) Q) : E x F d 154 95 [some (.ref 59), o1] [] (V, T) Q := by
  refine e_aload_n zd154_95 rfl rfl ?_
  refine e_getZ zd154_96 (own := 8) (ci := 8) (kf := 26) (w := 884) (by decide +kernel) (by decide +kernel) (zsh_at hF rfl).1 (by decide +kernel) rfl ?_
  exact e_if_ne zd154_99 (tg := 123) rfl kt kf
theorem b154_102 {x : zXs} {F : zF} (hF : zSh F) {d : Nat} {V : Nat → Nat → Int32} {T : Nat → Nat → Int64} {Q : Option Value → zG → Prop} {o1 : Option Value}   (kt : ¬ (V 59 22) = (Int32.ofInt 2) → E x F d 154 123 [some (.ref 59), o1] [] (V, T) Q) (kf : ¬ (¬ (V 59 22) = (Int32.ofInt 2)) → E x F d 154 110 [some (.ref 59), o1] [] (V, T) Q) : E x F d 154 102 [some (.ref 59), o1] [] (V, T) Q := by
  refine e_aload_n zd154_102 rfl rfl ?_
  refine e_getI zd154_103 (own := 8) (ci := 8) (kf := 22) (w := 880) (by decide +kernel) (by decide +kernel) (zsh_at hF rfl).1 (by decide +kernel) rfl ?_
  refine e_iconst zd154_106 ?_
  exact e_icmp_ne zd154_107 (tg := 123) rfl kt kf
theorem b154_110 {x : zXs} {F : zF} (hF : zSh F) {d : Nat} {V : Nat → Nat → Int32} {T : Nat → Nat → Int64} {Q : Option Value → zG → Prop} {o1 : Option Value}   (k : E x F d 142 0 [some (.ref 59), none, none] [] (V, T) (fun r G' => E x F (d + 1) 154 120 [some (.ref 59), some (.int ((T 59 24).toInt32))] (r.toList ++ []) G' Q)) : E x F (d + 1) 154 110 [some (.ref 59), o1] [] (V, T) Q := by
  refine e_aload_n zd154_110 rfl rfl ?_
  refine e_getJ zd154_111 (own := 8) (ci := 8) (kf := 24) (w := 882) (by decide +kernel) (by decide +kernel) (zsh_at hF rfl).1 (by decide +kernel) rfl ?_
  refine e_l2i zd154_114 ?_
  refine e_istore_n zd154_115 (by decide +kernel) (Nat.le_of_ble_eq_true rfl) ?_
  refine e_aload_n zd154_116 rfl rfl ?_
  exact e_callV zd154_117 (own := 8) (nest := false) (w := 1049) (by decide +kernel) (by decide +kernel) zs142 (as := []) (rest := []) rfl rfl (zsh_at hF rfl).1 (by omega) (Nat.le_of_ble_eq_true rfl) rfl rfl rfl (by omega) k
theorem b154_120 {x : zXs} {F : zF} (hF : zSh F) {d : Nat} {V : Nat → Nat → Int32} {T : Nat → Nat → Int64} {Q : Option Value → zG → Prop} {o0 : Option Value} {o1 : Option Value}   (k : E x F d 154 161 [o0, o1] [] (V, T) Q) : E x F d 154 120 [o0, o1] [] (V, T) Q := by
  exact e_goto zd154_120 (tg := 161) rfl k
theorem b154_123 {x : zXs} {F : zF} (hF : zSh F) {d : Nat} {V : Nat → Nat → Int32} {T : Nat → Nat → Int64} {Q : Option Value → zG → Prop} {o1 : Option Value}   (kt : ¬ (V 59 26) = 0 → E x F d 154 157 [some (.ref 59), o1] [] (V, T) Q) (kf : ¬ (¬ (V 59 26) = 0) → E x F d 154 130 [some (.ref 59), o1] [] (V, T) Q) : E x F d 154 123 [some (.ref 59), o1] [] (V, T) Q := by
  refine e_aload_n zd154_123 rfl rfl ?_
  refine e_getZ zd154_124 (own := 8) (ci := 8) (kf := 26) (w := 884) (by decide +kernel) (by decide +kernel) (zsh_at hF rfl).1 (by decide +kernel) rfl ?_
  exact e_if_ne zd154_127 (tg := 157) rfl kt kf
theorem b154_130 {x : zXs} {F : zF} (hF : zSh F) {d : Nat} {V : Nat → Nat → Int32} {T : Nat → Nat → Int64} {Q : Option Value → zG → Prop} {o1 : Option Value}   (kt : ¬ (V 59 22) = (Int32.ofInt 1) → E x F d 154 157 [some (.ref 59), o1] [] (V, T) Q) (kf : ¬ (¬ (V 59 22) = (Int32.ofInt 1)) → E x F d 154 138 [some (.ref 59), o1] [] (V, T) Q) : E x F d 154 130 [some (.ref 59), o1] [] (V, T) Q := by
  refine e_aload_n zd154_130 rfl rfl ?_
  refine e_getI zd154_131 (own := 8) (ci := 8) (kf := 22) (w := 880) (by decide +kernel) (by decide +kernel) (zsh_at hF rfl).1 (by decide +kernel) rfl ?_
  refine e_iconst zd154_134 ?_
  exact e_icmp_ne zd154_135 (tg := 157) rfl kt kf
theorem b154_138 {x : zXs} {F : zF} (hF : zSh F) {d : Nat} {V : Nat → Nat → Int32} {T : Nat → Nat → Int64} {Q : Option Value → zG → Prop} {o1 : Option Value}   (k : E x F d 156 0 [some (.ref 59)] [] (V, T) (fun r G' => E x F (d + 1) 154 142 [some (.ref 59), o1] (r.toList ++ []) G' Q)) : E x F (d + 1) 154 138 [some (.ref 59), o1] [] (V, T) Q := by
  refine e_aload_n zd154_138 rfl rfl ?_
  exact e_callV zd154_139 (own := 8) (nest := false) (w := 1109) (by decide +kernel) (by decide +kernel) zs156 (as := []) (rest := []) rfl rfl (zsh_at hF rfl).1 (by omega) (Nat.le_of_ble_eq_true rfl) rfl rfl rfl (by omega) k
theorem b154_142 {x : zXs} {F : zF} (hF : zSh F) {d : Nat} {V : Nat → Nat → Int32} {T : Nat → Nat → Int64} {Q : Option Value → zG → Prop} {o1 : Option Value} {s0 : Int32}   (kt : ¬ (V 59 26) = 0 → E x F d 154 161 [some (.ref 59), some (.int s0)] [] (V, T) Q) (kf : ¬ (¬ (V 59 26) = 0) → E x F d 154 150 [some (.ref 59), some (.int s0)] [] (V, T) Q) : E x F d 154 142 [some (.ref 59), o1] [.int s0] (V, T) Q := by
  refine e_istore_n zd154_142 (by decide +kernel) (Nat.le_of_ble_eq_true rfl) ?_
  refine e_aload_n zd154_143 rfl rfl ?_
  refine e_getZ zd154_144 (own := 8) (ci := 8) (kf := 26) (w := 884) (by decide +kernel) (by decide +kernel) (zsh_at hF rfl).1 (by decide +kernel) rfl ?_
  exact e_if_ne zd154_147 (tg := 161) rfl kt kf
theorem b154_150 {x : zXs} {F : zF} (hF : zSh F) {d : Nat} {V : Nat → Nat → Int32} {T : Nat → Nat → Int64} {Q : Option Value → zG → Prop} {o1 : Option Value}   (k : E x F d 142 0 [some (.ref 59), none, none] [] (V, T) (fun r G' => E x F (d + 1) 154 154 [some (.ref 59), o1] (r.toList ++ []) G' Q)) : E x F (d + 1) 154 150 [some (.ref 59), o1] [] (V, T) Q := by
  refine e_aload_n zd154_150 rfl rfl ?_
  exact e_callV zd154_151 (own := 8) (nest := false) (w := 1049) (by decide +kernel) (by decide +kernel) zs142 (as := []) (rest := []) rfl rfl (zsh_at hF rfl).1 (by omega) (Nat.le_of_ble_eq_true rfl) rfl rfl rfl (by omega) k
theorem b154_154 {x : zXs} {F : zF} (hF : zSh F) {d : Nat} {V : Nat → Nat → Int32} {T : Nat → Nat → Int64} {Q : Option Value → zG → Prop} {o0 : Option Value} {o1 : Option Value}   (k : E x F d 154 161 [o0, o1] [] (V, T) Q) : E x F d 154 154 [o0, o1] [] (V, T) Q := by
  exact e_goto zd154_154 (tg := 161) rfl k
theorem b154_157 {x : zXs} {F : zF} (hF : zSh F) {d : Nat} {V : Nat → Nat → Int32} {T : Nat → Nat → Int64} {Q : Option Value → zG → Prop} {o1 : Option Value}   (k : E x F d 147 0 [some (.ref 59)] [] (V, T) (fun r G' => E x F (d + 1) 154 161 [some (.ref 59), o1] (r.toList ++ []) G' Q)) : E x F (d + 1) 154 157 [some (.ref 59), o1] [] (V, T) Q := by
  refine e_aload_n zd154_157 rfl rfl ?_
  exact e_callV zd154_158 (own := 8) (nest := false) (w := 1073) (by decide +kernel) (by decide +kernel) zs147 (as := []) (rest := []) rfl rfl (zsh_at hF rfl).1 (by omega) (Nat.le_of_ble_eq_true rfl) rfl rfl rfl (by omega) k
theorem b154_161 {x : zXs} {F : zF} (hF : zSh F) {d : Nat} {V : Nat → Nat → Int32} {T : Nat → Nat → Int64} {Q : Option Value → zG → Prop} {o0 : Option Value} {l1 : Int32}   (k : Q (some (.int l1)) (V, T)) : E x F d 154 161 [o0, some (.int l1)] [] (V, T) Q := by
  refine e_iload_n zd154_161 rfl ?_
  exact e_ireti zd154_162 zs154 k
theorem zd155_0 : zop 155 0 = some (.aload_n 0, 1) := by decide +kernel
theorem zd155_1 : zop 155 1 = some (.getfield 185, 3) := by decide +kernel
theorem zd155_4 : zop 155 4 = some (.ifCond .ne 25, 3) := by decide +kernel
theorem zd155_7 : zop 155 7 = some (.aload_n 0, 1) := by decide +kernel
theorem zd155_8 : zop 155 8 = some (.getfield 170, 3) := by decide +kernel
theorem zd155_11 : zop 155 11 = some (.iconst 3, 1) := by decide +kernel
theorem zd155_12 : zop 155 12 = some (.if_icmp .ne 17, 3) := by decide +kernel
theorem zd155_15 : zop 155 15 = some (.aload_n 0, 1) := by decide +kernel
theorem zd155_16 : zop 155 16 = some (.getfield 181, 3) := by decide +kernel
theorem zd155_19 : zop 155 19 = some (.iload_n 1, 1) := by decide +kernel
theorem zd155_20 : zop 155 20 = some (.i2l, 1) := by decide +kernel
theorem zd155_21 : zop 155 21 = some (.lcmp, 1) := by decide +kernel
theorem zd155_22 : zop 155 22 = some (.ifCond .ne 7, 3) := by decide +kernel
theorem zd155_25 : zop 155 25 = some (.iconst 1, 1) := by decide +kernel
theorem zd155_26 : zop 155 26 = some (.goto 4, 3) := by decide +kernel
theorem zd155_29 : zop 155 29 = some (.iconst 0, 1) := by decide +kernel
theorem zd155_30 : zop 155 30 = some (.ireturn, 1) := by decide +kernel
theorem b155_0 {x : zXs} {F : zF} (hF : zSh F) {d : Nat} {V : Nat → Nat → Int32} {T : Nat → Nat → Int64} {Q : Option Value → zG → Prop} {o1 : Option Value}   (kt : ¬ (V 59 26) = 0 → E x F d 155 29 [some (.ref 59), o1] [] (V, T) Q) (kf : ¬ (¬ (V 59 26) = 0) → E x F d 155 7 [some (.ref 59), o1] [] (V, T) Q) : E x F d 155 0 [some (.ref 59), o1] [] (V, T) Q := by
  refine e_aload_n zd155_0 rfl rfl ?_
  refine e_getZ zd155_1 (own := 8) (ci := 8) (kf := 26) (w := 884) (by decide +kernel) (by decide +kernel) (zsh_at hF rfl).1 (by decide +kernel) rfl ?_
  exact e_if_ne zd155_4 (tg := 29) rfl kt kf
theorem b155_7 {x : zXs} {F : zF} (hF : zSh F) {d : Nat} {V : Nat → Nat → Int32} {T : Nat → Nat → Int64} {Q : Option Value → zG → Prop} {o1 : Option Value}   (kt : ¬ (V 59 22) = (Int32.ofInt 3) → E x F d 155 29 [some (.ref 59), o1] [] (V, T) Q) (kf : ¬ (¬ (V 59 22) = (Int32.ofInt 3)) → E x F d 155 15 [some (.ref 59), o1] [] (V, T) Q) : E x F d 155 7 [some (.ref 59), o1] [] (V, T) Q := by
  refine e_aload_n zd155_7 rfl rfl ?_
  refine e_getI zd155_8 (own := 8) (ci := 8) (kf := 22) (w := 880) (by decide +kernel) (by decide +kernel) (zsh_at hF rfl).1 (by decide +kernel) rfl ?_
  refine e_iconst zd155_11 ?_
  exact e_icmp_ne zd155_12 (tg := 29) rfl kt kf
theorem b155_15 {x : zXs} {F : zF} (hF : zSh F) {d : Nat} {V : Nat → Nat → Int32} {T : Nat → Nat → Int64} {Q : Option Value → zG → Prop} {l1 : Int32}   (kt : ¬ (lg_cmp (T 59 24) l1.toInt64) = 0 → E x F d 155 29 [some (.ref 59), some (.int l1)] [] (V, T) Q) (kf : ¬ (¬ (lg_cmp (T 59 24) l1.toInt64) = 0) → E x F d 155 25 [some (.ref 59), some (.int l1)] [] (V, T) Q) : E x F d 155 15 [some (.ref 59), some (.int l1)] [] (V, T) Q := by
  refine e_aload_n zd155_15 rfl rfl ?_
  refine e_getJ zd155_16 (own := 8) (ci := 8) (kf := 24) (w := 882) (by decide +kernel) (by decide +kernel) (zsh_at hF rfl).1 (by decide +kernel) rfl ?_
  refine e_iload_n zd155_19 rfl ?_
  refine e_i2l zd155_20 ?_
  refine e_lcmp zd155_21 ?_
  exact e_if_ne zd155_22 (tg := 29) rfl kt kf
theorem b155_25 {x : zXs} {F : zF} (hF : zSh F) {d : Nat} {V : Nat → Nat → Int32} {T : Nat → Nat → Int64} {Q : Option Value → zG → Prop} {o0 : Option Value} {o1 : Option Value}   (k : E x F d 155 30 [o0, o1] [.int (Int32.ofInt 1)] (V, T) Q) : E x F d 155 25 [o0, o1] [] (V, T) Q := by
  refine e_iconst zd155_25 ?_
  exact e_goto zd155_26 (tg := 30) rfl k
theorem b155_29 {x : zXs} {F : zF} (hF : zSh F) {d : Nat} {V : Nat → Nat → Int32} {T : Nat → Nat → Int64} {Q : Option Value → zG → Prop} {o0 : Option Value} {o1 : Option Value}   (k : E x F d 155 30 [o0, o1] [.int (Int32.ofInt 0)] (V, T) Q) : E x F d 155 29 [o0, o1] [] (V, T) Q := by
  refine e_iconst zd155_29 ?_
  exact k
theorem b155_30 {x : zXs} {F : zF} (hF : zSh F) {d : Nat} {V : Nat → Nat → Int32} {T : Nat → Nat → Int64} {Q : Option Value → zG → Prop} {o0 : Option Value} {o1 : Option Value} {s0 : Int32}  (b1 : narrow .boolean (.int s0) = .int s0) (k : Q (some (.int s0)) (V, T)) : E x F d 155 30 [o0, o1] [.int s0] (V, T) Q := by
  exact e_iretz zd155_30 zs155 b1 k
theorem zd156_0 : zop 156 0 = some (.aload_n 0, 1) := by decide +kernel
theorem zd156_1 : zop 156 1 = some (.bipush 103, 2) := by decide +kernel
theorem zd156_3 : zop 156 3 = some (.bipush 97, 2) := by decide +kernel
theorem zd156_5 : zop 156 5 = some (.bipush 112, 2) := by decide +kernel
theorem zd156_7 : zop 156 7 = some (.iconst 0, 1) := by decide +kernel
theorem zd156_8 : zop 156 8 = some (.iconst 0, 1) := by decide +kernel
theorem zd156_9 : zop 156 9 = some (.iconst 0, 1) := by decide +kernel
theorem zd156_10 : zop 156 10 = some (.iconst 0, 1) := by decide +kernel
theorem zd156_11 : zop 156 11 = some (.iconst 0, 1) := by decide +kernel
theorem zd156_12 : zop 156 12 = some (.invokevirtual 205, 3) := by decide +kernel
theorem zd156_15 : zop 156 15 = some (.ifCond .eq 8, 3) := by decide +kernel
theorem zd156_18 : zop 156 18 = some (.aload_n 0, 1) := by decide +kernel
theorem zd156_19 : zop 156 19 = some (.getfield 209, 3) := by decide +kernel
theorem zd156_22 : zop 156 22 = some (.ireturn, 1) := by decide +kernel
theorem zd156_23 : zop 156 23 = some (.aload_n 0, 1) := by decide +kernel
theorem zd156_24 : zop 156 24 = some (.bipush 110, 2) := by decide +kernel
theorem zd156_26 : zop 156 26 = some (.bipush 116, 2) := by decide +kernel
theorem zd156_28 : zop 156 28 = some (.bipush 104, 2) := by decide +kernel
theorem zd156_30 : zop 156 30 = some (.iconst 0, 1) := by decide +kernel
theorem zd156_31 : zop 156 31 = some (.iconst 0, 1) := by decide +kernel
theorem zd156_32 : zop 156 32 = some (.iconst 0, 1) := by decide +kernel
theorem zd156_33 : zop 156 33 = some (.iconst 0, 1) := by decide +kernel
theorem zd156_34 : zop 156 34 = some (.iconst 0, 1) := by decide +kernel
theorem zd156_35 : zop 156 35 = some (.invokevirtual 205, 3) := by decide +kernel
theorem zd156_38 : zop 156 38 = some (.ifCond .eq 8, 3) := by decide +kernel
theorem zd156_41 : zop 156 41 = some (.aload_n 0, 1) := by decide +kernel
theorem zd156_42 : zop 156 42 = some (.getfield 212, 3) := by decide +kernel
theorem zd156_45 : zop 156 45 = some (.ireturn, 1) := by decide +kernel
theorem zd156_46 : zop 156 46 = some (.aload_n 0, 1) := by decide +kernel
theorem zd156_47 : zop 156 47 = some (.bipush 110, 2) := by decide +kernel
theorem zd156_49 : zop 156 49 = some (.bipush 117, 2) := by decide +kernel
theorem zd156_51 : zop 156 51 = some (.bipush 109, 2) := by decide +kernel
theorem zd156_53 : zop 156 53 = some (.bipush 98, 2) := by decide +kernel
theorem zd156_55 : zop 156 55 = some (.bipush 101, 2) := by decide +kernel
theorem zd156_57 : zop 156 57 = some (.bipush 114, 2) := by decide +kernel
theorem zd156_59 : zop 156 59 = some (.iconst 0, 1) := by decide +kernel
theorem zd156_60 : zop 156 60 = some (.iconst 0, 1) := by decide +kernel
theorem zd156_61 : zop 156 61 = some (.invokevirtual 205, 3) := by decide +kernel
theorem zd156_64 : zop 156 64 = some (.ifCond .eq 8, 3) := by decide +kernel
theorem zd156_67 : zop 156 67 = some (.aload_n 0, 1) := by decide +kernel
theorem zd156_68 : zop 156 68 = some (.getfield 215, 3) := by decide +kernel
theorem zd156_71 : zop 156 71 = some (.ireturn, 1) := by decide +kernel
theorem zd156_72 : zop 156 72 = some (.aload_n 0, 1) := by decide +kernel
theorem zd156_73 : zop 156 73 = some (.bipush 110, 2) := by decide +kernel
theorem zd156_75 : zop 156 75 = some (.bipush 105, 2) := by decide +kernel
theorem zd156_77 : zop 156 77 = some (.bipush 103, 2) := by decide +kernel
theorem zd156_79 : zop 156 79 = some (.bipush 104, 2) := by decide +kernel
theorem zd156_81 : zop 156 81 = some (.bipush 116, 2) := by decide +kernel
theorem zd156_83 : zop 156 83 = some (.iconst 0, 1) := by decide +kernel
theorem zd156_84 : zop 156 84 = some (.iconst 0, 1) := by decide +kernel
theorem zd156_85 : zop 156 85 = some (.iconst 0, 1) := by decide +kernel
theorem zd156_86 : zop 156 86 = some (.invokevirtual 205, 3) := by decide +kernel
theorem zd156_89 : zop 156 89 = some (.ifCond .eq 8, 3) := by decide +kernel
theorem zd156_92 : zop 156 92 = some (.aload_n 0, 1) := by decide +kernel
theorem zd156_93 : zop 156 93 = some (.getfield 218, 3) := by decide +kernel
theorem zd156_96 : zop 156 96 = some (.ireturn, 1) := by decide +kernel
theorem zd156_97 : zop 156 97 = some (.aload_n 0, 1) := by decide +kernel
theorem zd156_98 : zop 156 98 = some (.bipush 97, 2) := by decide +kernel
theorem zd156_100 : zop 156 100 = some (.bipush 112, 2) := by decide +kernel
theorem zd156_102 : zop 156 102 = some (.bipush 114, 2) := by decide +kernel
theorem zd156_104 : zop 156 104 = some (.bipush 111, 2) := by decide +kernel
theorem zd156_106 : zop 156 106 = some (.bipush 110, 2) := by decide +kernel
theorem zd156_108 : zop 156 108 = some (.iconst 0, 1) := by decide +kernel
theorem zd156_109 : zop 156 109 = some (.iconst 0, 1) := by decide +kernel
theorem zd156_110 : zop 156 110 = some (.iconst 0, 1) := by decide +kernel
theorem zd156_111 : zop 156 111 = some (.invokevirtual 205, 3) := by decide +kernel
theorem zd156_114 : zop 156 114 = some (.ifCond .eq 8, 3) := by decide +kernel
theorem zd156_117 : zop 156 117 = some (.aload_n 0, 1) := by decide +kernel
theorem zd156_118 : zop 156 118 = some (.getfield 221, 3) := by decide +kernel
theorem zd156_121 : zop 156 121 = some (.ireturn, 1) := by decide +kernel
theorem zd156_122 : zop 156 122 = some (.aload_n 0, 1) := by decide +kernel
theorem zd156_123 : zop 156 123 = some (.bipush 114, 2) := by decide +kernel
theorem zd156_125 : zop 156 125 = some (.bipush 111, 2) := by decide +kernel
theorem zd156_127 : zop 156 127 = some (.bipush 119, 2) := by decide +kernel
theorem zd156_129 : zop 156 129 = some (.iconst 0, 1) := by decide +kernel
theorem zd156_130 : zop 156 130 = some (.iconst 0, 1) := by decide +kernel
theorem zd156_131 : zop 156 131 = some (.iconst 0, 1) := by decide +kernel
theorem zd156_132 : zop 156 132 = some (.iconst 0, 1) := by decide +kernel
theorem zd156_133 : zop 156 133 = some (.iconst 0, 1) := by decide +kernel
theorem zd156_134 : zop 156 134 = some (.invokevirtual 205, 3) := by decide +kernel
theorem zd156_137 : zop 156 137 = some (.ifCond .eq 8, 3) := by decide +kernel
theorem zd156_140 : zop 156 140 = some (.aload_n 0, 1) := by decide +kernel
theorem zd156_141 : zop 156 141 = some (.getfield 224, 3) := by decide +kernel
theorem zd156_144 : zop 156 144 = some (.ireturn, 1) := by decide +kernel
theorem zd156_145 : zop 156 145 = some (.aload_n 0, 1) := by decide +kernel
theorem zd156_146 : zop 156 146 = some (.invokevirtual 199, 3) := by decide +kernel
theorem zd156_149 : zop 156 149 = some (.iconst 0, 1) := by decide +kernel
theorem zd156_150 : zop 156 150 = some (.ireturn, 1) := by decide +kernel
theorem b156_0 {x : zXs} {F : zF} (hF : zSh F) {d : Nat} {V : Nat → Nat → Int32} {T : Nat → Nat → Int64} {Q : Option Value → zG → Prop}    (k : E x F d 144 0 [some (.ref 59), some (.int (Int32.ofInt 103)), some (.int (Int32.ofInt 97)), some (.int (Int32.ofInt 112)), some (.int (Int32.ofInt 0)), some (.int (Int32.ofInt 0)), some (.int (Int32.ofInt 0)), some (.int (Int32.ofInt 0)), some (.int (Int32.ofInt 0))] [] (V, T) (fun r G' => E x F (d + 1) 156 15 [some (.ref 59)] (r.toList ++ []) G' Q)) : E x F (d + 1) 156 0 [some (.ref 59)] [] (V, T) Q := by
  refine e_aload_n zd156_0 rfl rfl ?_
  refine e_bipush zd156_1 (v := Int32.ofInt 103) (by decide +kernel) ?_
  refine e_bipush zd156_3 (v := Int32.ofInt 97) (by decide +kernel) ?_
  refine e_bipush zd156_5 (v := Int32.ofInt 112) (by decide +kernel) ?_
  refine e_iconst zd156_7 ?_
  refine e_iconst zd156_8 ?_
  refine e_iconst zd156_9 ?_
  refine e_iconst zd156_10 ?_
  refine e_iconst zd156_11 ?_
  exact e_callV zd156_12 (own := 8) (nest := false) (w := 1061) (by decide +kernel) (by decide +kernel) zs144 (as := [.int (Int32.ofInt 103), .int (Int32.ofInt 97), .int (Int32.ofInt 112), .int (Int32.ofInt 0), .int (Int32.ofInt 0), .int (Int32.ofInt 0), .int (Int32.ofInt 0), .int (Int32.ofInt 0)]) (rest := []) rfl rfl (zsh_at hF rfl).1 (by omega) (Nat.le_of_ble_eq_true rfl) rfl rfl rfl (by omega) k
theorem b156_15 {x : zXs} {F : zF} (hF : zSh F) {d : Nat} {V : Nat → Nat → Int32} {T : Nat → Nat → Int64} {Q : Option Value → zG → Prop} {o0 : Option Value} {s0 : Int32}   (kt : s0 = 0 → E x F d 156 23 [o0] [] (V, T) Q) (kf : ¬ (s0 = 0) → E x F d 156 18 [o0] [] (V, T) Q) : E x F d 156 15 [o0] [.int s0] (V, T) Q := by
  exact e_if_eq zd156_15 (tg := 23) rfl kt kf
theorem b156_18 {x : zXs} {F : zF} (hF : zSh F) {d : Nat} {V : Nat → Nat → Int32} {T : Nat → Nat → Int64} {Q : Option Value → zG → Prop}    (k : Q (some (.int (V 59 13))) (V, T)) : E x F d 156 18 [some (.ref 59)] [] (V, T) Q := by
  refine e_aload_n zd156_18 rfl rfl ?_
  refine e_getI zd156_19 (own := 8) (ci := 8) (kf := 13) (w := 871) (by decide +kernel) (by decide +kernel) (zsh_at hF rfl).1 (by decide +kernel) rfl ?_
  exact e_ireti zd156_22 zs156 k
theorem b156_23 {x : zXs} {F : zF} (hF : zSh F) {d : Nat} {V : Nat → Nat → Int32} {T : Nat → Nat → Int64} {Q : Option Value → zG → Prop}    (k : E x F d 144 0 [some (.ref 59), some (.int (Int32.ofInt 110)), some (.int (Int32.ofInt 116)), some (.int (Int32.ofInt 104)), some (.int (Int32.ofInt 0)), some (.int (Int32.ofInt 0)), some (.int (Int32.ofInt 0)), some (.int (Int32.ofInt 0)), some (.int (Int32.ofInt 0))] [] (V, T) (fun r G' => E x F (d + 1) 156 38 [some (.ref 59)] (r.toList ++ []) G' Q)) : E x F (d + 1) 156 23 [some (.ref 59)] [] (V, T) Q := by
  refine e_aload_n zd156_23 rfl rfl ?_
  refine e_bipush zd156_24 (v := Int32.ofInt 110) (by decide +kernel) ?_
  refine e_bipush zd156_26 (v := Int32.ofInt 116) (by decide +kernel) ?_
  refine e_bipush zd156_28 (v := Int32.ofInt 104) (by decide +kernel) ?_
  refine e_iconst zd156_30 ?_
  refine e_iconst zd156_31 ?_
  refine e_iconst zd156_32 ?_
  refine e_iconst zd156_33 ?_
  refine e_iconst zd156_34 ?_
  exact e_callV zd156_35 (own := 8) (nest := false) (w := 1061) (by decide +kernel) (by decide +kernel) zs144 (as := [.int (Int32.ofInt 110), .int (Int32.ofInt 116), .int (Int32.ofInt 104), .int (Int32.ofInt 0), .int (Int32.ofInt 0), .int (Int32.ofInt 0), .int (Int32.ofInt 0), .int (Int32.ofInt 0)]) (rest := []) rfl rfl (zsh_at hF rfl).1 (by omega) (Nat.le_of_ble_eq_true rfl) rfl rfl rfl (by omega) k
theorem b156_38 {x : zXs} {F : zF} (hF : zSh F) {d : Nat} {V : Nat → Nat → Int32} {T : Nat → Nat → Int64} {Q : Option Value → zG → Prop} {o0 : Option Value} {s0 : Int32}   (kt : s0 = 0 → E x F d 156 46 [o0] [] (V, T) Q) (kf : ¬ (s0 = 0) → E x F d 156 41 [o0] [] (V, T) Q) : E x F d 156 38 [o0] [.int s0] (V, T) Q := by
  exact e_if_eq zd156_38 (tg := 46) rfl kt kf
theorem b156_41 {x : zXs} {F : zF} (hF : zSh F) {d : Nat} {V : Nat → Nat → Int32} {T : Nat → Nat → Int64} {Q : Option Value → zG → Prop}    (k : Q (some (.int (V 59 14))) (V, T)) : E x F d 156 41 [some (.ref 59)] [] (V, T) Q := by
  refine e_aload_n zd156_41 rfl rfl ?_
  refine e_getI zd156_42 (own := 8) (ci := 8) (kf := 14) (w := 872) (by decide +kernel) (by decide +kernel) (zsh_at hF rfl).1 (by decide +kernel) rfl ?_
  exact e_ireti zd156_45 zs156 k
theorem b156_46 {x : zXs} {F : zF} (hF : zSh F) {d : Nat} {V : Nat → Nat → Int32} {T : Nat → Nat → Int64} {Q : Option Value → zG → Prop}    (k : E x F d 144 0 [some (.ref 59), some (.int (Int32.ofInt 110)), some (.int (Int32.ofInt 117)), some (.int (Int32.ofInt 109)), some (.int (Int32.ofInt 98)), some (.int (Int32.ofInt 101)), some (.int (Int32.ofInt 114)), some (.int (Int32.ofInt 0)), some (.int (Int32.ofInt 0))] [] (V, T) (fun r G' => E x F (d + 1) 156 64 [some (.ref 59)] (r.toList ++ []) G' Q)) : E x F (d + 1) 156 46 [some (.ref 59)] [] (V, T) Q := by
  refine e_aload_n zd156_46 rfl rfl ?_
  refine e_bipush zd156_47 (v := Int32.ofInt 110) (by decide +kernel) ?_
  refine e_bipush zd156_49 (v := Int32.ofInt 117) (by decide +kernel) ?_
  refine e_bipush zd156_51 (v := Int32.ofInt 109) (by decide +kernel) ?_
  refine e_bipush zd156_53 (v := Int32.ofInt 98) (by decide +kernel) ?_
  refine e_bipush zd156_55 (v := Int32.ofInt 101) (by decide +kernel) ?_
  refine e_bipush zd156_57 (v := Int32.ofInt 114) (by decide +kernel) ?_
  refine e_iconst zd156_59 ?_
  refine e_iconst zd156_60 ?_
  exact e_callV zd156_61 (own := 8) (nest := false) (w := 1061) (by decide +kernel) (by decide +kernel) zs144 (as := [.int (Int32.ofInt 110), .int (Int32.ofInt 117), .int (Int32.ofInt 109), .int (Int32.ofInt 98), .int (Int32.ofInt 101), .int (Int32.ofInt 114), .int (Int32.ofInt 0), .int (Int32.ofInt 0)]) (rest := []) rfl rfl (zsh_at hF rfl).1 (by omega) (Nat.le_of_ble_eq_true rfl) rfl rfl rfl (by omega) k
theorem b156_64 {x : zXs} {F : zF} (hF : zSh F) {d : Nat} {V : Nat → Nat → Int32} {T : Nat → Nat → Int64} {Q : Option Value → zG → Prop} {o0 : Option Value} {s0 : Int32}   (kt : s0 = 0 → E x F d 156 72 [o0] [] (V, T) Q) (kf : ¬ (s0 = 0) → E x F d 156 67 [o0] [] (V, T) Q) : E x F d 156 64 [o0] [.int s0] (V, T) Q := by
  exact e_if_eq zd156_64 (tg := 72) rfl kt kf
theorem b156_67 {x : zXs} {F : zF} (hF : zSh F) {d : Nat} {V : Nat → Nat → Int32} {T : Nat → Nat → Int64} {Q : Option Value → zG → Prop}    (k : Q (some (.int (V 59 15))) (V, T)) : E x F d 156 67 [some (.ref 59)] [] (V, T) Q := by
  refine e_aload_n zd156_67 rfl rfl ?_
  refine e_getI zd156_68 (own := 8) (ci := 8) (kf := 15) (w := 873) (by decide +kernel) (by decide +kernel) (zsh_at hF rfl).1 (by decide +kernel) rfl ?_
  exact e_ireti zd156_71 zs156 k
theorem b156_72 {x : zXs} {F : zF} (hF : zSh F) {d : Nat} {V : Nat → Nat → Int32} {T : Nat → Nat → Int64} {Q : Option Value → zG → Prop}    (k : E x F d 144 0 [some (.ref 59), some (.int (Int32.ofInt 110)), some (.int (Int32.ofInt 105)), some (.int (Int32.ofInt 103)), some (.int (Int32.ofInt 104)), some (.int (Int32.ofInt 116)), some (.int (Int32.ofInt 0)), some (.int (Int32.ofInt 0)), some (.int (Int32.ofInt 0))] [] (V, T) (fun r G' => E x F (d + 1) 156 89 [some (.ref 59)] (r.toList ++ []) G' Q)) : E x F (d + 1) 156 72 [some (.ref 59)] [] (V, T) Q := by
  refine e_aload_n zd156_72 rfl rfl ?_
  refine e_bipush zd156_73 (v := Int32.ofInt 110) (by decide +kernel) ?_
  refine e_bipush zd156_75 (v := Int32.ofInt 105) (by decide +kernel) ?_
  refine e_bipush zd156_77 (v := Int32.ofInt 103) (by decide +kernel) ?_
  refine e_bipush zd156_79 (v := Int32.ofInt 104) (by decide +kernel) ?_
  refine e_bipush zd156_81 (v := Int32.ofInt 116) (by decide +kernel) ?_
  refine e_iconst zd156_83 ?_
  refine e_iconst zd156_84 ?_
  refine e_iconst zd156_85 ?_
  exact e_callV zd156_86 (own := 8) (nest := false) (w := 1061) (by decide +kernel) (by decide +kernel) zs144 (as := [.int (Int32.ofInt 110), .int (Int32.ofInt 105), .int (Int32.ofInt 103), .int (Int32.ofInt 104), .int (Int32.ofInt 116), .int (Int32.ofInt 0), .int (Int32.ofInt 0), .int (Int32.ofInt 0)]) (rest := []) rfl rfl (zsh_at hF rfl).1 (by omega) (Nat.le_of_ble_eq_true rfl) rfl rfl rfl (by omega) k
theorem b156_89 {x : zXs} {F : zF} (hF : zSh F) {d : Nat} {V : Nat → Nat → Int32} {T : Nat → Nat → Int64} {Q : Option Value → zG → Prop} {o0 : Option Value} {s0 : Int32}   (kt : s0 = 0 → E x F d 156 97 [o0] [] (V, T) Q) (kf : ¬ (s0 = 0) → E x F d 156 92 [o0] [] (V, T) Q) : E x F d 156 89 [o0] [.int s0] (V, T) Q := by
  exact e_if_eq zd156_89 (tg := 97) rfl kt kf
theorem b156_92 {x : zXs} {F : zF} (hF : zSh F) {d : Nat} {V : Nat → Nat → Int32} {T : Nat → Nat → Int64} {Q : Option Value → zG → Prop}    (k : Q (some (.int (V 59 16))) (V, T)) : E x F d 156 92 [some (.ref 59)] [] (V, T) Q := by
  refine e_aload_n zd156_92 rfl rfl ?_
  refine e_getI zd156_93 (own := 8) (ci := 8) (kf := 16) (w := 874) (by decide +kernel) (by decide +kernel) (zsh_at hF rfl).1 (by decide +kernel) rfl ?_
  exact e_ireti zd156_96 zs156 k
theorem b156_97 {x : zXs} {F : zF} (hF : zSh F) {d : Nat} {V : Nat → Nat → Int32} {T : Nat → Nat → Int64} {Q : Option Value → zG → Prop}    (k : E x F d 144 0 [some (.ref 59), some (.int (Int32.ofInt 97)), some (.int (Int32.ofInt 112)), some (.int (Int32.ofInt 114)), some (.int (Int32.ofInt 111)), some (.int (Int32.ofInt 110)), some (.int (Int32.ofInt 0)), some (.int (Int32.ofInt 0)), some (.int (Int32.ofInt 0))] [] (V, T) (fun r G' => E x F (d + 1) 156 114 [some (.ref 59)] (r.toList ++ []) G' Q)) : E x F (d + 1) 156 97 [some (.ref 59)] [] (V, T) Q := by
  refine e_aload_n zd156_97 rfl rfl ?_
  refine e_bipush zd156_98 (v := Int32.ofInt 97) (by decide +kernel) ?_
  refine e_bipush zd156_100 (v := Int32.ofInt 112) (by decide +kernel) ?_
  refine e_bipush zd156_102 (v := Int32.ofInt 114) (by decide +kernel) ?_
  refine e_bipush zd156_104 (v := Int32.ofInt 111) (by decide +kernel) ?_
  refine e_bipush zd156_106 (v := Int32.ofInt 110) (by decide +kernel) ?_
  refine e_iconst zd156_108 ?_
  refine e_iconst zd156_109 ?_
  refine e_iconst zd156_110 ?_
  exact e_callV zd156_111 (own := 8) (nest := false) (w := 1061) (by decide +kernel) (by decide +kernel) zs144 (as := [.int (Int32.ofInt 97), .int (Int32.ofInt 112), .int (Int32.ofInt 114), .int (Int32.ofInt 111), .int (Int32.ofInt 110), .int (Int32.ofInt 0), .int (Int32.ofInt 0), .int (Int32.ofInt 0)]) (rest := []) rfl rfl (zsh_at hF rfl).1 (by omega) (Nat.le_of_ble_eq_true rfl) rfl rfl rfl (by omega) k
theorem b156_114 {x : zXs} {F : zF} (hF : zSh F) {d : Nat} {V : Nat → Nat → Int32} {T : Nat → Nat → Int64} {Q : Option Value → zG → Prop} {o0 : Option Value} {s0 : Int32}   (kt : s0 = 0 → E x F d 156 122 [o0] [] (V, T) Q) (kf : ¬ (s0 = 0) → E x F d 156 117 [o0] [] (V, T) Q) : E x F d 156 114 [o0] [.int s0] (V, T) Q := by
  exact e_if_eq zd156_114 (tg := 122) rfl kt kf
theorem b156_117 {x : zXs} {F : zF} (hF : zSh F) {d : Nat} {V : Nat → Nat → Int32} {T : Nat → Nat → Int64} {Q : Option Value → zG → Prop}    (k : Q (some (.int (V 59 17))) (V, T)) : E x F d 156 117 [some (.ref 59)] [] (V, T) Q := by
  refine e_aload_n zd156_117 rfl rfl ?_
  refine e_getI zd156_118 (own := 8) (ci := 8) (kf := 17) (w := 875) (by decide +kernel) (by decide +kernel) (zsh_at hF rfl).1 (by decide +kernel) rfl ?_
  exact e_ireti zd156_121 zs156 k
theorem b156_122 {x : zXs} {F : zF} (hF : zSh F) {d : Nat} {V : Nat → Nat → Int32} {T : Nat → Nat → Int64} {Q : Option Value → zG → Prop}    (k : E x F d 144 0 [some (.ref 59), some (.int (Int32.ofInt 114)), some (.int (Int32.ofInt 111)), some (.int (Int32.ofInt 119)), some (.int (Int32.ofInt 0)), some (.int (Int32.ofInt 0)), some (.int (Int32.ofInt 0)), some (.int (Int32.ofInt 0)), some (.int (Int32.ofInt 0))] [] (V, T) (fun r G' => E x F (d + 1) 156 137 [some (.ref 59)] (r.toList ++ []) G' Q)) : E x F (d + 1) 156 122 [some (.ref 59)] [] (V, T) Q := by
  refine e_aload_n zd156_122 rfl rfl ?_
  refine e_bipush zd156_123 (v := Int32.ofInt 114) (by decide +kernel) ?_
  refine e_bipush zd156_125 (v := Int32.ofInt 111) (by decide +kernel) ?_
  refine e_bipush zd156_127 (v := Int32.ofInt 119) (by decide +kernel) ?_
  refine e_iconst zd156_129 ?_
  refine e_iconst zd156_130 ?_
  refine e_iconst zd156_131 ?_
  refine e_iconst zd156_132 ?_
  refine e_iconst zd156_133 ?_
  exact e_callV zd156_134 (own := 8) (nest := false) (w := 1061) (by decide +kernel) (by decide +kernel) zs144 (as := [.int (Int32.ofInt 114), .int (Int32.ofInt 111), .int (Int32.ofInt 119), .int (Int32.ofInt 0), .int (Int32.ofInt 0), .int (Int32.ofInt 0), .int (Int32.ofInt 0), .int (Int32.ofInt 0)]) (rest := []) rfl rfl (zsh_at hF rfl).1 (by omega) (Nat.le_of_ble_eq_true rfl) rfl rfl rfl (by omega) k
theorem b156_137 {x : zXs} {F : zF} (hF : zSh F) {d : Nat} {V : Nat → Nat → Int32} {T : Nat → Nat → Int64} {Q : Option Value → zG → Prop} {o0 : Option Value} {s0 : Int32}   (kt : s0 = 0 → E x F d 156 145 [o0] [] (V, T) Q) (kf : ¬ (s0 = 0) → E x F d 156 140 [o0] [] (V, T) Q) : E x F d 156 137 [o0] [.int s0] (V, T) Q := by
  exact e_if_eq zd156_137 (tg := 145) rfl kt kf
theorem b156_140 {x : zXs} {F : zF} (hF : zSh F) {d : Nat} {V : Nat → Nat → Int32} {T : Nat → Nat → Int64} {Q : Option Value → zG → Prop}    (k : Q (some (.int (V 59 18))) (V, T)) : E x F d 156 140 [some (.ref 59)] [] (V, T) Q := by
  refine e_aload_n zd156_140 rfl rfl ?_
  refine e_getI zd156_141 (own := 8) (ci := 8) (kf := 18) (w := 876) (by decide +kernel) (by decide +kernel) (zsh_at hF rfl).1 (by decide +kernel) rfl ?_
  exact e_ireti zd156_144 zs156 k
theorem b156_145 {x : zXs} {F : zF} (hF : zSh F) {d : Nat} {V : Nat → Nat → Int32} {T : Nat → Nat → Int64} {Q : Option Value → zG → Prop}    (k : E x F d 147 0 [some (.ref 59)] [] (V, T) (fun r G' => E x F (d + 1) 156 149 [some (.ref 59)] (r.toList ++ []) G' Q)) : E x F (d + 1) 156 145 [some (.ref 59)] [] (V, T) Q := by
  refine e_aload_n zd156_145 rfl rfl ?_
  exact e_callV zd156_146 (own := 8) (nest := false) (w := 1073) (by decide +kernel) (by decide +kernel) zs147 (as := []) (rest := []) rfl rfl (zsh_at hF rfl).1 (by omega) (Nat.le_of_ble_eq_true rfl) rfl rfl rfl (by omega) k
theorem b156_149 {x : zXs} {F : zF} (hF : zSh F) {d : Nat} {V : Nat → Nat → Int32} {T : Nat → Nat → Int64} {Q : Option Value → zG → Prop} {o0 : Option Value}   (k : Q (some (.int (Int32.ofInt 0))) (V, T)) : E x F d 156 149 [o0] [] (V, T) Q := by
  refine e_iconst zd156_149 ?_
  exact e_ireti zd156_150 zs156 k
theorem zd157_0 : zop 157 0 = some (.iload_n 0, 1) := by decide +kernel
theorem zd157_1 : zop 157 1 = some (.iload_n 1, 1) := by decide +kernel
theorem zd157_2 : zop 157 2 = some (.if_icmp .ge 7, 3) := by decide +kernel
theorem zd157_5 : zop 157 5 = some (.iload_n 1, 1) := by decide +kernel
theorem zd157_6 : zop 157 6 = some (.goto 13, 3) := by decide +kernel
theorem zd157_9 : zop 157 9 = some (.iload_n 0, 1) := by decide +kernel
theorem zd157_10 : zop 157 10 = some (.iload_n 2, 1) := by decide +kernel
theorem zd157_11 : zop 157 11 = some (.if_icmp .le 7, 3) := by decide +kernel
theorem zd157_14 : zop 157 14 = some (.iload_n 2, 1) := by decide +kernel
theorem zd157_15 : zop 157 15 = some (.goto 4, 3) := by decide +kernel
theorem zd157_18 : zop 157 18 = some (.iload_n 0, 1) := by decide +kernel
theorem zd157_19 : zop 157 19 = some (.ireturn, 1) := by decide +kernel
theorem b157_0 {x : zXs} {F : zF} (hF : zSh F) {d : Nat} {V : Nat → Nat → Int32} {T : Nat → Nat → Int64} {Q : Option Value → zG → Prop} {l0 : Int32} {l1 : Int32} {o2 : Option Value}   (kt : l1 ≤ l0 → E x F d 157 9 [some (.int l0), some (.int l1), o2] [] (V, T) Q) (kf : ¬ (l1 ≤ l0) → E x F d 157 5 [some (.int l0), some (.int l1), o2] [] (V, T) Q) : E x F d 157 0 [some (.int l0), some (.int l1), o2] [] (V, T) Q := by
  refine e_iload_n zd157_0 rfl ?_
  refine e_iload_n zd157_1 rfl ?_
  exact e_icmp_ge zd157_2 (tg := 9) rfl kt kf
theorem b157_5 {x : zXs} {F : zF} (hF : zSh F) {d : Nat} {V : Nat → Nat → Int32} {T : Nat → Nat → Int64} {Q : Option Value → zG → Prop} {o0 : Option Value} {l1 : Int32} {o2 : Option Value}   (k : E x F d 157 19 [o0, some (.int l1), o2] [.int l1] (V, T) Q) : E x F d 157 5 [o0, some (.int l1), o2] [] (V, T) Q := by
  refine e_iload_n zd157_5 rfl ?_
  exact e_goto zd157_6 (tg := 19) rfl k
theorem b157_9 {x : zXs} {F : zF} (hF : zSh F) {d : Nat} {V : Nat → Nat → Int32} {T : Nat → Nat → Int64} {Q : Option Value → zG → Prop} {l0 : Int32} {o1 : Option Value} {l2 : Int32}   (kt : l0 ≤ l2 → E x F d 157 18 [some (.int l0), o1, some (.int l2)] [] (V, T) Q) (kf : ¬ (l0 ≤ l2) → E x F d 157 14 [some (.int l0), o1, some (.int l2)] [] (V, T) Q) : E x F d 157 9 [some (.int l0), o1, some (.int l2)] [] (V, T) Q := by
  refine e_iload_n zd157_9 rfl ?_
  refine e_iload_n zd157_10 rfl ?_
  exact e_icmp_le zd157_11 (tg := 18) rfl kt kf
theorem b157_14 {x : zXs} {F : zF} (hF : zSh F) {d : Nat} {V : Nat → Nat → Int32} {T : Nat → Nat → Int64} {Q : Option Value → zG → Prop} {o0 : Option Value} {o1 : Option Value} {l2 : Int32}   (k : E x F d 157 19 [o0, o1, some (.int l2)] [.int l2] (V, T) Q) : E x F d 157 14 [o0, o1, some (.int l2)] [] (V, T) Q := by
  refine e_iload_n zd157_14 rfl ?_
  exact e_goto zd157_15 (tg := 19) rfl k
theorem b157_18 {x : zXs} {F : zF} (hF : zSh F) {d : Nat} {V : Nat → Nat → Int32} {T : Nat → Nat → Int64} {Q : Option Value → zG → Prop} {l0 : Int32} {o1 : Option Value} {o2 : Option Value}   (k : E x F d 157 19 [some (.int l0), o1, o2] [.int l0] (V, T) Q) : E x F d 157 18 [some (.int l0), o1, o2] [] (V, T) Q := by
  refine e_iload_n zd157_18 rfl ?_
  exact k
theorem b157_19 {x : zXs} {F : zF} (hF : zSh F) {d : Nat} {V : Nat → Nat → Int32} {T : Nat → Nat → Int64} {Q : Option Value → zG → Prop} {o0 : Option Value} {o1 : Option Value} {o2 : Option Value} {s0 : Int32}   (k : Q (some (.int s0)) (V, T)) : E x F d 157 19 [o0, o1, o2] [.int s0] (V, T) Q := by
  exact e_ireti zd157_19 zs157 k
theorem zd158_0 : zop 158 0 = some (.iconst 0, 1) := by decide +kernel
theorem zd158_1 : zop 158 1 = some (.istore_n 2, 1) := by decide +kernel
theorem zd158_2 : zop 158 2 = some (.iconst 0, 1) := by decide +kernel
theorem zd158_3 : zop 158 3 = some (.istore_n 3, 1) := by decide +kernel
theorem zd158_4 : zop 158 4 = some (.iload_n 3, 1) := by decide +kernel
theorem zd158_5 : zop 158 5 = some (.aload_n 0, 1) := by decide +kernel
theorem zd158_6 : zop 158 6 = some (.getfield 26, 3) := by decide +kernel
theorem zd158_9 : zop 158 9 = some (.iload_n 1, 1) := by decide +kernel
theorem zd158_10 : zop 158 10 = some (.iaload, 1) := by decide +kernel
theorem zd158_11 : zop 158 11 = some (.if_icmp .ge 71, 3) := by decide +kernel
theorem zd158_14 : zop 158 14 = some (.aload_n 0, 1) := by decide +kernel
theorem zd158_15 : zop 158 15 = some (.iload_n 1, 1) := by decide +kernel
theorem zd158_16 : zop 158 16 = some (.iload_n 3, 1) := by decide +kernel
theorem zd158_17 : zop 158 17 = some (.invokevirtual 275, 3) := by decide +kernel
theorem zd158_20 : zop 158 20 = some (.ifCond .eq 35, 3) := by decide +kernel
theorem zd158_23 : zop 158 23 = some (.iload_n 3, 1) := by decide +kernel
theorem zd158_24 : zop 158 24 = some (.ifCond .eq 14, 3) := by decide +kernel
theorem zd158_27 : zop 158 27 = some (.aload_n 0, 1) := by decide +kernel
theorem zd158_28 : zop 158 28 = some (.iload_n 1, 1) := by decide +kernel
theorem zd158_29 : zop 158 29 = some (.iload_n 3, 1) := by decide +kernel
theorem zd158_30 : zop 158 30 = some (.iconst 1, 1) := by decide +kernel
theorem zd158_31 : zop 158 31 = some (.isub, 1) := by decide +kernel
theorem zd158_32 : zop 158 32 = some (.invokevirtual 275, 3) := by decide +kernel
theorem zd158_35 : zop 158 35 = some (.ifCond .ne 20, 3) := by decide +kernel
theorem zd158_38 : zop 158 38 = some (.aload_n 0, 1) := by decide +kernel
theorem zd158_39 : zop 158 39 = some (.getfield 35, 3) := by decide +kernel
theorem zd158_42 : zop 158 42 = some (.iload_n 2, 1) := by decide +kernel
theorem zd158_43 : zop 158 43 = some (.iload_n 3, 1) := by decide +kernel
theorem zd158_44 : zop 158 44 = some (.iastore, 1) := by decide +kernel
theorem zd158_45 : zop 158 45 = some (.aload_n 0, 1) := by decide +kernel
theorem zd158_46 : zop 158 46 = some (.getfield 38, 3) := by decide +kernel
theorem zd158_49 : zop 158 49 = some (.iload_n 2, 1) := by decide +kernel
theorem zd158_50 : zop 158 50 = some (.iconst 0, 1) := by decide +kernel
theorem zd158_51 : zop 158 51 = some (.iastore, 1) := by decide +kernel
theorem zd158_52 : zop 158 52 = some (.iinc 2 1, 3) := by decide +kernel
theorem zd158_55 : zop 158 55 = some (.aload_n 0, 1) := by decide +kernel
theorem zd158_56 : zop 158 56 = some (.iload_n 1, 1) := by decide +kernel
theorem zd158_57 : zop 158 57 = some (.iload_n 3, 1) := by decide +kernel
theorem zd158_58 : zop 158 58 = some (.invokevirtual 275, 3) := by decide +kernel
theorem zd158_61 : zop 158 61 = some (.ifCond .eq 15, 3) := by decide +kernel
theorem zd158_64 : zop 158 64 = some (.aload_n 0, 1) := by decide +kernel
theorem zd158_65 : zop 158 65 = some (.getfield 38, 3) := by decide +kernel
theorem zd158_68 : zop 158 68 = some (.iload_n 2, 1) := by decide +kernel
theorem zd158_69 : zop 158 69 = some (.iconst 1, 1) := by decide +kernel
theorem zd158_70 : zop 158 70 = some (.isub, 1) := by decide +kernel
theorem zd158_71 : zop 158 71 = some (.dup2, 1) := by decide +kernel
theorem zd158_72 : zop 158 72 = some (.iaload, 1) := by decide +kernel
theorem zd158_73 : zop 158 73 = some (.iconst 1, 1) := by decide +kernel
theorem zd158_74 : zop 158 74 = some (.iadd, 1) := by decide +kernel
theorem zd158_75 : zop 158 75 = some (.iastore, 1) := by decide +kernel
theorem zd158_76 : zop 158 76 = some (.iinc 3 1, 3) := by decide +kernel
theorem zd158_79 : zop 158 79 = some (.goto (-75), 3) := by decide +kernel
theorem zd158_82 : zop 158 82 = some (.iload_n 2, 1) := by decide +kernel
theorem zd158_83 : zop 158 83 = some (.ireturn, 1) := by decide +kernel
theorem b158_0 {x : zXs} {F : zF} (hF : zSh F) {d : Nat} {V : Nat → Nat → Int32} {T : Nat → Nat → Int64} {Q : Option Value → zG → Prop} {o0 : Option Value} {o1 : Option Value} {o2 : Option Value} {o3 : Option Value}   (k : E x F d 158 4 [o0, o1, some (.int (Int32.ofInt 0)), some (.int (Int32.ofInt 0))] [] (V, T) Q) : E x F d 158 0 [o0, o1, o2, o3] [] (V, T) Q := by
  refine e_iconst zd158_0 ?_
  refine e_istore_n zd158_1 (by decide +kernel) (Nat.le_of_ble_eq_true rfl) ?_
  refine e_iconst zd158_2 ?_
  refine e_istore_n zd158_3 (by decide +kernel) (Nat.le_of_ble_eq_true rfl) ?_
  exact k
theorem b158_4 {x : zXs} {F : zF} (hF : zSh F) {d : Nat} {V : Nat → Nat → Int32} {T : Nat → Nat → Int64} {Q : Option Value → zG → Prop} {l1 : Int32} {o2 : Option Value} {l3 : Int32}  {i1 : Nat} (e1 : l1 = nI i1) (h1 : i1 < 5) (kt : (V 64 i1) ≤ l3 → E x F d 158 82 [some (.ref 59), some (.int l1), o2, some (.int l3)] [] (V, T) Q) (kf : ¬ ((V 64 i1) ≤ l3) → E x F d 158 14 [some (.ref 59), some (.int l1), o2, some (.int l3)] [] (V, T) Q) : E x F d 158 4 [some (.ref 59), some (.int l1), o2, some (.int l3)] [] (V, T) Q := by
  refine e_iload_n zd158_4 rfl ?_
  refine e_aload_n zd158_5 rfl rfl ?_
  refine e_getA zd158_6 (own := 8) (ci := 8) (kf := 9) (w := 867) (by decide +kernel) (by decide +kernel) (zsh_at hF rfl).1 (by decide +kernel) rfl (zrf_at hF (i := 63) rfl) ?_
  refine e_iload_n zd158_9 rfl ?_
  refine e_iald zd158_10 (i := i1) (zsh_at hF rfl) e1 h1 (by omega) ?_
  exact e_icmp_ge zd158_11 (tg := 82) rfl kt kf
theorem b158_14 {x : zXs} {F : zF} (hF : zSh F) {d : Nat} {V : Nat → Nat → Int32} {T : Nat → Nat → Int64} {Q : Option Value → zG → Prop} {l1 : Int32} {o2 : Option Value} {l3 : Int32}   (k : E x F d 159 0 [some (.ref 59), some (.int l1), some (.int l3)] [] (V, T) (fun r G' => E x F (d + 1) 158 20 [some (.ref 59), some (.int l1), o2, some (.int l3)] (r.toList ++ []) G' Q)) : E x F (d + 1) 158 14 [some (.ref 59), some (.int l1), o2, some (.int l3)] [] (V, T) Q := by
  refine e_aload_n zd158_14 rfl rfl ?_
  refine e_iload_n zd158_15 rfl ?_
  refine e_iload_n zd158_16 rfl ?_
  exact e_callV zd158_17 (own := 8) (nest := false) (w := 1122) (by decide +kernel) (by decide +kernel) zs159 (as := [.int l1, .int l3]) (rest := []) rfl rfl (zsh_at hF rfl).1 (by omega) (Nat.le_of_ble_eq_true rfl) rfl rfl rfl (by omega) k
theorem b158_20 {x : zXs} {F : zF} (hF : zSh F) {d : Nat} {V : Nat → Nat → Int32} {T : Nat → Nat → Int64} {Q : Option Value → zG → Prop} {o0 : Option Value} {o1 : Option Value} {o2 : Option Value} {o3 : Option Value} {s0 : Int32}   (kt : s0 = 0 → E x F d 158 55 [o0, o1, o2, o3] [] (V, T) Q) (kf : ¬ (s0 = 0) → E x F d 158 23 [o0, o1, o2, o3] [] (V, T) Q) : E x F d 158 20 [o0, o1, o2, o3] [.int s0] (V, T) Q := by
  exact e_if_eq zd158_20 (tg := 55) rfl kt kf
theorem b158_23 {x : zXs} {F : zF} (hF : zSh F) {d : Nat} {V : Nat → Nat → Int32} {T : Nat → Nat → Int64} {Q : Option Value → zG → Prop} {o0 : Option Value} {o1 : Option Value} {o2 : Option Value} {l3 : Int32}   (kt : l3 = 0 → E x F d 158 38 [o0, o1, o2, some (.int l3)] [] (V, T) Q) (kf : ¬ (l3 = 0) → E x F d 158 27 [o0, o1, o2, some (.int l3)] [] (V, T) Q) : E x F d 158 23 [o0, o1, o2, some (.int l3)] [] (V, T) Q := by
  refine e_iload_n zd158_23 rfl ?_
  exact e_if_eq zd158_24 (tg := 38) rfl kt kf
theorem b158_27 {x : zXs} {F : zF} (hF : zSh F) {d : Nat} {V : Nat → Nat → Int32} {T : Nat → Nat → Int64} {Q : Option Value → zG → Prop} {l1 : Int32} {o2 : Option Value} {l3 : Int32}   (k : E x F d 159 0 [some (.ref 59), some (.int l1), some (.int (l3 - (Int32.ofInt 1)))] [] (V, T) (fun r G' => E x F (d + 1) 158 35 [some (.ref 59), some (.int l1), o2, some (.int l3)] (r.toList ++ []) G' Q)) : E x F (d + 1) 158 27 [some (.ref 59), some (.int l1), o2, some (.int l3)] [] (V, T) Q := by
  refine e_aload_n zd158_27 rfl rfl ?_
  refine e_iload_n zd158_28 rfl ?_
  refine e_iload_n zd158_29 rfl ?_
  refine e_iconst zd158_30 ?_
  refine e_isub zd158_31 ?_
  exact e_callV zd158_32 (own := 8) (nest := false) (w := 1122) (by decide +kernel) (by decide +kernel) zs159 (as := [.int l1, .int (l3 - (Int32.ofInt 1))]) (rest := []) rfl rfl (zsh_at hF rfl).1 (by omega) (Nat.le_of_ble_eq_true rfl) rfl rfl rfl (by omega) k
theorem b158_35 {x : zXs} {F : zF} (hF : zSh F) {d : Nat} {V : Nat → Nat → Int32} {T : Nat → Nat → Int64} {Q : Option Value → zG → Prop} {o0 : Option Value} {o1 : Option Value} {o2 : Option Value} {o3 : Option Value} {s0 : Int32}   (kt : ¬ s0 = 0 → E x F d 158 55 [o0, o1, o2, o3] [] (V, T) Q) (kf : ¬ (¬ s0 = 0) → E x F d 158 38 [o0, o1, o2, o3] [] (V, T) Q) : E x F d 158 35 [o0, o1, o2, o3] [.int s0] (V, T) Q := by
  exact e_if_ne zd158_35 (tg := 55) rfl kt kf
theorem b158_38 {x : zXs} {F : zF} (hF : zSh F) {d : Nat} {V : Nat → Nat → Int32} {T : Nat → Nat → Int64} {Q : Option Value → zG → Prop} {o1 : Option Value} {l2 : Int32} {l3 : Int32}  {i1 : Nat} (e1 : l2 = nI i1) (h1 : i1 < 24) {i2 : Nat} (e2 : l2 = nI i2) (h2 : i2 < 24) (k : E x F d 158 55 [some (.ref 59), o1, some (.int (l2 + Int32.ofInt 1)), some (.int l3)] [] (zu (zu V 67 i1 l3) 68 i2 (Int32.ofInt 0), T) Q) : E x F d 158 38 [some (.ref 59), o1, some (.int l2), some (.int l3)] [] (V, T) Q := by
  refine e_aload_n zd158_38 rfl rfl ?_
  refine e_getA zd158_39 (own := 8) (ci := 8) (kf := 28) (w := 886) (by decide +kernel) (by decide +kernel) (zsh_at hF rfl).1 (by decide +kernel) rfl (zrf_at hF (i := 66) rfl) ?_
  refine e_iload_n zd158_42 rfl ?_
  refine e_iload_n zd158_43 rfl ?_
  refine e_iast zd158_44 (i := i1) (zsh_at hF rfl) e1 h1 (by omega) ?_
  refine e_aload_n zd158_45 rfl rfl ?_
  refine e_getA zd158_46 (own := 8) (ci := 8) (kf := 29) (w := 887) (by decide +kernel) (by decide +kernel) (zsh_at hF rfl).1 (by decide +kernel) rfl (zrf_at hF (i := 67) rfl) ?_
  refine e_iload_n zd158_49 rfl ?_
  refine e_iconst zd158_50 ?_
  refine e_iast zd158_51 (i := i2) (zsh_at hF rfl) e2 h2 (by omega) ?_
  refine e_iinc zd158_52 rfl (by decide +kernel) ?_
  exact k
theorem b158_55 {x : zXs} {F : zF} (hF : zSh F) {d : Nat} {V : Nat → Nat → Int32} {T : Nat → Nat → Int64} {Q : Option Value → zG → Prop} {l1 : Int32} {o2 : Option Value} {l3 : Int32}   (k : E x F d 159 0 [some (.ref 59), some (.int l1), some (.int l3)] [] (V, T) (fun r G' => E x F (d + 1) 158 61 [some (.ref 59), some (.int l1), o2, some (.int l3)] (r.toList ++ []) G' Q)) : E x F (d + 1) 158 55 [some (.ref 59), some (.int l1), o2, some (.int l3)] [] (V, T) Q := by
  refine e_aload_n zd158_55 rfl rfl ?_
  refine e_iload_n zd158_56 rfl ?_
  refine e_iload_n zd158_57 rfl ?_
  exact e_callV zd158_58 (own := 8) (nest := false) (w := 1122) (by decide +kernel) (by decide +kernel) zs159 (as := [.int l1, .int l3]) (rest := []) rfl rfl (zsh_at hF rfl).1 (by omega) (Nat.le_of_ble_eq_true rfl) rfl rfl rfl (by omega) k
theorem b158_61 {x : zXs} {F : zF} (hF : zSh F) {d : Nat} {V : Nat → Nat → Int32} {T : Nat → Nat → Int64} {Q : Option Value → zG → Prop} {o0 : Option Value} {o1 : Option Value} {o2 : Option Value} {o3 : Option Value} {s0 : Int32}   (kt : s0 = 0 → E x F d 158 76 [o0, o1, o2, o3] [] (V, T) Q) (kf : ¬ (s0 = 0) → E x F d 158 64 [o0, o1, o2, o3] [] (V, T) Q) : E x F d 158 61 [o0, o1, o2, o3] [.int s0] (V, T) Q := by
  exact e_if_eq zd158_61 (tg := 76) rfl kt kf
theorem b158_64 {x : zXs} {F : zF} (hF : zSh F) {d : Nat} {V : Nat → Nat → Int32} {T : Nat → Nat → Int64} {Q : Option Value → zG → Prop} {o1 : Option Value} {l2 : Int32} {o3 : Option Value}  {i1 : Nat} (e1 : l2 - (Int32.ofInt 1) = nI i1) (h1 : i1 < 24) {i2 : Nat} (e2 : l2 - (Int32.ofInt 1) = nI i2) (h2 : i2 < 24) (k : E x F d 158 76 [some (.ref 59), o1, some (.int l2), o3] [] (zu V 68 i2 ((V 68 i1) + (Int32.ofInt 1)), T) Q) : E x F d 158 64 [some (.ref 59), o1, some (.int l2), o3] [] (V, T) Q := by
  refine e_aload_n zd158_64 rfl rfl ?_
  refine e_getA zd158_65 (own := 8) (ci := 8) (kf := 29) (w := 887) (by decide +kernel) (by decide +kernel) (zsh_at hF rfl).1 (by decide +kernel) rfl (zrf_at hF (i := 67) rfl) ?_
  refine e_iload_n zd158_68 rfl ?_
  refine e_iconst zd158_69 ?_
  refine e_isub zd158_70 ?_
  refine e_dup2 zd158_71 ⟨rfl, rfl⟩ ?_
  refine e_iald zd158_72 (i := i1) (zsh_at hF rfl) e1 h1 (by omega) ?_
  refine e_iconst zd158_73 ?_
  refine e_iadd zd158_74 ?_
  refine e_iast zd158_75 (i := i2) (zsh_at hF rfl) e2 h2 (by omega) ?_
  exact k
theorem b158_76 {x : zXs} {F : zF} (hF : zSh F) {d : Nat} {V : Nat → Nat → Int32} {T : Nat → Nat → Int64} {Q : Option Value → zG → Prop} {o0 : Option Value} {o1 : Option Value} {o2 : Option Value} {l3 : Int32}   (k : E x F d 158 4 [o0, o1, o2, some (.int (l3 + Int32.ofInt 1))] [] (V, T) Q) : E x F d 158 76 [o0, o1, o2, some (.int l3)] [] (V, T) Q := by
  refine e_iinc zd158_76 rfl (by decide +kernel) ?_
  exact e_goto zd158_79 (tg := 4) rfl k
theorem b158_82 {x : zXs} {F : zF} (hF : zSh F) {d : Nat} {V : Nat → Nat → Int32} {T : Nat → Nat → Int64} {Q : Option Value → zG → Prop} {o0 : Option Value} {o1 : Option Value} {l2 : Int32} {o3 : Option Value}   (k : Q (some (.int l2)) (V, T)) : E x F d 158 82 [o0, o1, some (.int l2), o3] [] (V, T) Q := by
  refine e_iload_n zd158_82 rfl ?_
  exact e_ireti zd158_83 zs158 k
theorem zd159_0 : zop 159 0 = some (.iload_n 2, 1) := by decide +kernel
theorem zd159_1 : zop 159 1 = some (.aload_n 0, 1) := by decide +kernel
theorem zd159_2 : zop 159 2 = some (.getfield 26, 3) := by decide +kernel
theorem zd159_5 : zop 159 5 = some (.iload_n 1, 1) := by decide +kernel
theorem zd159_6 : zop 159 6 = some (.iaload, 1) := by decide +kernel
theorem zd159_7 : zop 159 7 = some (.if_icmp .ge 20, 3) := by decide +kernel
theorem zd159_10 : zop 159 10 = some (.aload_n 0, 1) := by decide +kernel
theorem zd159_11 : zop 159 11 = some (.getfield 23, 3) := by decide +kernel
theorem zd159_14 : zop 159 14 = some (.iload_n 1, 1) := by decide +kernel
theorem zd159_15 : zop 159 15 = some (.iaload, 1) := by decide +kernel
theorem zd159_16 : zop 159 16 = some (.iload_n 2, 1) := by decide +kernel
theorem zd159_17 : zop 159 17 = some (.ishr, 1) := by decide +kernel
theorem zd159_18 : zop 159 18 = some (.iconst 1, 1) := by decide +kernel
theorem zd159_19 : zop 159 19 = some (.iand, 1) := by decide +kernel
theorem zd159_20 : zop 159 20 = some (.ifCond .ne 7, 3) := by decide +kernel
theorem zd159_23 : zop 159 23 = some (.iconst 1, 1) := by decide +kernel
theorem zd159_24 : zop 159 24 = some (.goto 4, 3) := by decide +kernel
theorem zd159_27 : zop 159 27 = some (.iconst 0, 1) := by decide +kernel
theorem zd159_28 : zop 159 28 = some (.ireturn, 1) := by decide +kernel
theorem b159_0 {x : zXs} {F : zF} (hF : zSh F) {d : Nat} {V : Nat → Nat → Int32} {T : Nat → Nat → Int64} {Q : Option Value → zG → Prop} {l1 : Int32} {l2 : Int32}  {i1 : Nat} (e1 : l1 = nI i1) (h1 : i1 < 5) (kt : (V 64 i1) ≤ l2 → E x F d 159 27 [some (.ref 59), some (.int l1), some (.int l2)] [] (V, T) Q) (kf : ¬ ((V 64 i1) ≤ l2) → E x F d 159 10 [some (.ref 59), some (.int l1), some (.int l2)] [] (V, T) Q) : E x F d 159 0 [some (.ref 59), some (.int l1), some (.int l2)] [] (V, T) Q := by
  refine e_iload_n zd159_0 rfl ?_
  refine e_aload_n zd159_1 rfl rfl ?_
  refine e_getA zd159_2 (own := 8) (ci := 8) (kf := 9) (w := 867) (by decide +kernel) (by decide +kernel) (zsh_at hF rfl).1 (by decide +kernel) rfl (zrf_at hF (i := 63) rfl) ?_
  refine e_iload_n zd159_5 rfl ?_
  refine e_iald zd159_6 (i := i1) (zsh_at hF rfl) e1 h1 (by omega) ?_
  exact e_icmp_ge zd159_7 (tg := 27) rfl kt kf
theorem b159_10 {x : zXs} {F : zF} (hF : zSh F) {d : Nat} {V : Nat → Nat → Int32} {T : Nat → Nat → Int64} {Q : Option Value → zG → Prop} {l1 : Int32} {l2 : Int32}  {i1 : Nat} (e1 : l1 = nI i1) (h1 : i1 < 5) (kt : ¬ (((V 63 i1) >>> (l2 &&& 31)) &&& (Int32.ofInt 1)) = 0 → E x F d 159 27 [some (.ref 59), some (.int l1), some (.int l2)] [] (V, T) Q) (kf : ¬ (¬ (((V 63 i1) >>> (l2 &&& 31)) &&& (Int32.ofInt 1)) = 0) → E x F d 159 23 [some (.ref 59), some (.int l1), some (.int l2)] [] (V, T) Q) : E x F d 159 10 [some (.ref 59), some (.int l1), some (.int l2)] [] (V, T) Q := by
  refine e_aload_n zd159_10 rfl rfl ?_
  refine e_getA zd159_11 (own := 8) (ci := 8) (kf := 8) (w := 866) (by decide +kernel) (by decide +kernel) (zsh_at hF rfl).1 (by decide +kernel) rfl (zrf_at hF (i := 62) rfl) ?_
  refine e_iload_n zd159_14 rfl ?_
  refine e_iald zd159_15 (i := i1) (zsh_at hF rfl) e1 h1 (by omega) ?_
  refine e_iload_n zd159_16 rfl ?_
  refine e_ishr zd159_17 ?_
  refine e_iconst zd159_18 ?_
  refine e_iand zd159_19 ?_
  exact e_if_ne zd159_20 (tg := 27) rfl kt kf
theorem b159_23 {x : zXs} {F : zF} (hF : zSh F) {d : Nat} {V : Nat → Nat → Int32} {T : Nat → Nat → Int64} {Q : Option Value → zG → Prop} {o0 : Option Value} {o1 : Option Value} {o2 : Option Value}   (k : E x F d 159 28 [o0, o1, o2] [.int (Int32.ofInt 1)] (V, T) Q) : E x F d 159 23 [o0, o1, o2] [] (V, T) Q := by
  refine e_iconst zd159_23 ?_
  exact e_goto zd159_24 (tg := 28) rfl k
theorem b159_27 {x : zXs} {F : zF} (hF : zSh F) {d : Nat} {V : Nat → Nat → Int32} {T : Nat → Nat → Int64} {Q : Option Value → zG → Prop} {o0 : Option Value} {o1 : Option Value} {o2 : Option Value}   (k : E x F d 159 28 [o0, o1, o2] [.int (Int32.ofInt 0)] (V, T) Q) : E x F d 159 27 [o0, o1, o2] [] (V, T) Q := by
  refine e_iconst zd159_27 ?_
  exact k
theorem b159_28 {x : zXs} {F : zF} (hF : zSh F) {d : Nat} {V : Nat → Nat → Int32} {T : Nat → Nat → Int64} {Q : Option Value → zG → Prop} {o0 : Option Value} {o1 : Option Value} {o2 : Option Value} {s0 : Int32}  (b1 : narrow .boolean (.int s0) = .int s0) (k : Q (some (.int s0)) (V, T)) : E x F d 159 28 [o0, o1, o2] [.int s0] (V, T) Q := by
  exact e_iretz zd159_28 zs159 b1 k
theorem zd160_0 : zop 160 0 = some (.aload_n 0, 1) := by decide +kernel
theorem zd160_1 : zop 160 1 = some (.iload_n 1, 1) := by decide +kernel
theorem zd160_2 : zop 160 2 = some (.invokevirtual 141, 3) := by decide +kernel
theorem zd160_5 : zop 160 5 = some (.istore_n 2, 1) := by decide +kernel
theorem zd160_6 : zop 160 6 = some (.iconst 0, 1) := by decide +kernel
theorem zd160_7 : zop 160 7 = some (.istore_n 3, 1) := by decide +kernel
theorem zd160_8 : zop 160 8 = some (.iconst 0, 1) := by decide +kernel
theorem zd160_9 : zop 160 9 = some (.istore 4, 2) := by decide +kernel
theorem zd160_11 : zop 160 11 = some (.iload 4, 2) := by decide +kernel
theorem zd160_13 : zop 160 13 = some (.iload_n 2, 1) := by decide +kernel
theorem zd160_14 : zop 160 14 = some (.if_icmp .ge 32, 3) := by decide +kernel
theorem zd160_17 : zop 160 17 = some (.aload_n 0, 1) := by decide +kernel
theorem zd160_18 : zop 160 18 = some (.getfield 38, 3) := by decide +kernel
theorem zd160_21 : zop 160 21 = some (.iload 4, 2) := by decide +kernel
theorem zd160_23 : zop 160 23 = some (.iaload, 1) := by decide +kernel
theorem zd160_24 : zop 160 24 = some (.iload_n 3, 1) := by decide +kernel
theorem zd160_25 : zop 160 25 = some (.if_icmp .le 13, 3) := by decide +kernel
theorem zd160_28 : zop 160 28 = some (.aload_n 0, 1) := by decide +kernel
theorem zd160_29 : zop 160 29 = some (.getfield 38, 3) := by decide +kernel
theorem zd160_32 : zop 160 32 = some (.iload 4, 2) := by decide +kernel
theorem zd160_34 : zop 160 34 = some (.iaload, 1) := by decide +kernel
theorem zd160_35 : zop 160 35 = some (.goto 4, 3) := by decide +kernel
theorem zd160_38 : zop 160 38 = some (.iload_n 3, 1) := by decide +kernel
theorem zd160_39 : zop 160 39 = some (.istore_n 3, 1) := by decide +kernel
theorem zd160_40 : zop 160 40 = some (.iinc 4 1, 3) := by decide +kernel
theorem zd160_43 : zop 160 43 = some (.goto (-32), 3) := by decide +kernel
theorem zd160_46 : zop 160 46 = some (.iload_n 3, 1) := by decide +kernel
theorem zd160_47 : zop 160 47 = some (.ireturn, 1) := by decide +kernel
theorem b160_0 {x : zXs} {F : zF} (hF : zSh F) {d : Nat} {V : Nat → Nat → Int32} {T : Nat → Nat → Int64} {Q : Option Value → zG → Prop} {l1 : Int32} {o2 : Option Value} {o3 : Option Value} {o4 : Option Value}   (k : E x F d 158 0 [some (.ref 59), some (.int l1), none, none] [] (V, T) (fun r G' => E x F (d + 1) 160 5 [some (.ref 59), some (.int l1), o2, o3, o4] (r.toList ++ []) G' Q)) : E x F (d + 1) 160 0 [some (.ref 59), some (.int l1), o2, o3, o4] [] (V, T) Q := by
  refine e_aload_n zd160_0 rfl rfl ?_
  refine e_iload_n zd160_1 rfl ?_
  exact e_callV zd160_2 (own := 8) (nest := false) (w := 1118) (by decide +kernel) (by decide +kernel) zs158 (as := [.int l1]) (rest := []) rfl rfl (zsh_at hF rfl).1 (by omega) (Nat.le_of_ble_eq_true rfl) rfl rfl rfl (by omega) k
theorem b160_5 {x : zXs} {F : zF} (hF : zSh F) {d : Nat} {V : Nat → Nat → Int32} {T : Nat → Nat → Int64} {Q : Option Value → zG → Prop} {o0 : Option Value} {o1 : Option Value} {o2 : Option Value} {o3 : Option Value} {o4 : Option Value} {s0 : Int32}   (k : E x F d 160 11 [o0, o1, some (.int s0), some (.int (Int32.ofInt 0)), some (.int (Int32.ofInt 0))] [] (V, T) Q) : E x F d 160 5 [o0, o1, o2, o3, o4] [.int s0] (V, T) Q := by
  refine e_istore_n zd160_5 (by decide +kernel) (Nat.le_of_ble_eq_true rfl) ?_
  refine e_iconst zd160_6 ?_
  refine e_istore_n zd160_7 (by decide +kernel) (Nat.le_of_ble_eq_true rfl) ?_
  refine e_iconst zd160_8 ?_
  refine e_istore zd160_9 (by decide +kernel) (Nat.le_of_ble_eq_true rfl) ?_
  exact k
theorem b160_11 {x : zXs} {F : zF} (hF : zSh F) {d : Nat} {V : Nat → Nat → Int32} {T : Nat → Nat → Int64} {Q : Option Value → zG → Prop} {o0 : Option Value} {o1 : Option Value} {l2 : Int32} {o3 : Option Value} {l4 : Int32}   (kt : l2 ≤ l4 → E x F d 160 46 [o0, o1, some (.int l2), o3, some (.int l4)] [] (V, T) Q) (kf : ¬ (l2 ≤ l4) → E x F d 160 17 [o0, o1, some (.int l2), o3, some (.int l4)] [] (V, T) Q) : E x F d 160 11 [o0, o1, some (.int l2), o3, some (.int l4)] [] (V, T) Q := by
  refine e_iload zd160_11 rfl ?_
  refine e_iload_n zd160_13 rfl ?_
  exact e_icmp_ge zd160_14 (tg := 46) rfl kt kf
theorem b160_17 {x : zXs} {F : zF} (hF : zSh F) {d : Nat} {V : Nat → Nat → Int32} {T : Nat → Nat → Int64} {Q : Option Value → zG → Prop} {o1 : Option Value} {o2 : Option Value} {l3 : Int32} {l4 : Int32}  {i1 : Nat} (e1 : l4 = nI i1) (h1 : i1 < 24) (kt : (V 68 i1) ≤ l3 → E x F d 160 38 [some (.ref 59), o1, o2, some (.int l3), some (.int l4)] [] (V, T) Q) (kf : ¬ ((V 68 i1) ≤ l3) → E x F d 160 28 [some (.ref 59), o1, o2, some (.int l3), some (.int l4)] [] (V, T) Q) : E x F d 160 17 [some (.ref 59), o1, o2, some (.int l3), some (.int l4)] [] (V, T) Q := by
  refine e_aload_n zd160_17 rfl rfl ?_
  refine e_getA zd160_18 (own := 8) (ci := 8) (kf := 29) (w := 887) (by decide +kernel) (by decide +kernel) (zsh_at hF rfl).1 (by decide +kernel) rfl (zrf_at hF (i := 67) rfl) ?_
  refine e_iload zd160_21 rfl ?_
  refine e_iald zd160_23 (i := i1) (zsh_at hF rfl) e1 h1 (by omega) ?_
  refine e_iload_n zd160_24 rfl ?_
  exact e_icmp_le zd160_25 (tg := 38) rfl kt kf
theorem b160_28 {x : zXs} {F : zF} (hF : zSh F) {d : Nat} {V : Nat → Nat → Int32} {T : Nat → Nat → Int64} {Q : Option Value → zG → Prop} {o1 : Option Value} {o2 : Option Value} {o3 : Option Value} {l4 : Int32}  {i1 : Nat} (e1 : l4 = nI i1) (h1 : i1 < 24) (k : E x F d 160 39 [some (.ref 59), o1, o2, o3, some (.int l4)] [.int (V 68 i1)] (V, T) Q) : E x F d 160 28 [some (.ref 59), o1, o2, o3, some (.int l4)] [] (V, T) Q := by
  refine e_aload_n zd160_28 rfl rfl ?_
  refine e_getA zd160_29 (own := 8) (ci := 8) (kf := 29) (w := 887) (by decide +kernel) (by decide +kernel) (zsh_at hF rfl).1 (by decide +kernel) rfl (zrf_at hF (i := 67) rfl) ?_
  refine e_iload zd160_32 rfl ?_
  refine e_iald zd160_34 (i := i1) (zsh_at hF rfl) e1 h1 (by omega) ?_
  exact e_goto zd160_35 (tg := 39) rfl k
theorem b160_38 {x : zXs} {F : zF} (hF : zSh F) {d : Nat} {V : Nat → Nat → Int32} {T : Nat → Nat → Int64} {Q : Option Value → zG → Prop} {o0 : Option Value} {o1 : Option Value} {o2 : Option Value} {l3 : Int32} {o4 : Option Value}   (k : E x F d 160 39 [o0, o1, o2, some (.int l3), o4] [.int l3] (V, T) Q) : E x F d 160 38 [o0, o1, o2, some (.int l3), o4] [] (V, T) Q := by
  refine e_iload_n zd160_38 rfl ?_
  exact k
theorem b160_39 {x : zXs} {F : zF} (hF : zSh F) {d : Nat} {V : Nat → Nat → Int32} {T : Nat → Nat → Int64} {Q : Option Value → zG → Prop} {o0 : Option Value} {o1 : Option Value} {o2 : Option Value} {o3 : Option Value} {l4 : Int32} {s0 : Int32}   (k : E x F d 160 11 [o0, o1, o2, some (.int s0), some (.int (l4 + Int32.ofInt 1))] [] (V, T) Q) : E x F d 160 39 [o0, o1, o2, o3, some (.int l4)] [.int s0] (V, T) Q := by
  refine e_istore_n zd160_39 (by decide +kernel) (Nat.le_of_ble_eq_true rfl) ?_
  refine e_iinc zd160_40 rfl (by decide +kernel) ?_
  exact e_goto zd160_43 (tg := 11) rfl k
theorem b160_46 {x : zXs} {F : zF} (hF : zSh F) {d : Nat} {V : Nat → Nat → Int32} {T : Nat → Nat → Int64} {Q : Option Value → zG → Prop} {o0 : Option Value} {o1 : Option Value} {o2 : Option Value} {l3 : Int32} {o4 : Option Value}   (k : Q (some (.int l3)) (V, T)) : E x F d 160 46 [o0, o1, o2, some (.int l3), o4] [] (V, T) Q := by
  refine e_iload_n zd160_46 rfl ?_
  exact e_ireti zd160_47 zs160 k
theorem zd161_0 : zop 161 0 = some (.aload_n 0, 1) := by decide +kernel
theorem zd161_1 : zop 161 1 = some (.iconst 2, 1) := by decide +kernel
theorem zd161_2 : zop 161 2 = some (.aload_n 0, 1) := by decide +kernel
theorem zd161_3 : zop 161 3 = some (.iload_n 1, 1) := by decide +kernel
theorem zd161_4 : zop 161 4 = some (.invokevirtual 103, 3) := by decide +kernel
theorem zd161_7 : zop 161 7 = some (.iconst 0, 1) := by decide +kernel
theorem zd161_8 : zop 161 8 = some (.iconst 0, 1) := by decide +kernel
theorem zd161_9 : zop 161 9 = some (.iconst 0, 1) := by decide +kernel
theorem zd161_10 : zop 161 10 = some (.iload_n 1, 1) := by decide +kernel
theorem zd161_11 : zop 161 11 = some (.invokevirtual 271, 3) := by decide +kernel
theorem zd161_14 : zop 161 14 = some (.ireturn, 1) := by decide +kernel
theorem b161_0 {x : zXs} {F : zF} (hF : zSh F) {d : Nat} {V : Nat → Nat → Int32} {T : Nat → Nat → Int64} {Q : Option Value → zG → Prop} {l1 : Int32}   (k : E x F d 133 0 [some (.ref 59), some (.int l1)] [] (V, T) (fun r G' => E x F (d + 1) 161 7 [some (.ref 59), some (.int l1)] (r.toList ++ [.int (Int32.ofInt 2), .ref 59]) G' Q)) : E x F (d + 1) 161 0 [some (.ref 59), some (.int l1)] [] (V, T) Q := by
  refine e_aload_n zd161_0 rfl rfl ?_
  refine e_iconst zd161_1 ?_
  refine e_aload_n zd161_2 rfl rfl ?_
  refine e_iload_n zd161_3 rfl ?_
  exact e_callV zd161_4 (own := 8) (nest := false) (w := 1013) (by decide +kernel) (by decide +kernel) zs133 (as := [.int l1]) (rest := [.int (Int32.ofInt 2), .ref 59]) rfl rfl (zsh_at hF rfl).1 (by omega) (Nat.le_of_ble_eq_true rfl) rfl rfl rfl (by omega) k
theorem b161_7 {x : zXs} {F : zF} (hF : zSh F) {d : Nat} {V : Nat → Nat → Int32} {T : Nat → Nat → Int64} {Q : Option Value → zG → Prop} {o0 : Option Value} {l1 : Int32} {s1 : Int32} {s2 : Int32}   (k : E x F d 140 0 [some (.ref 59), some (.int s1), some (.int s2), some (.int (Int32.ofInt 0)), some (.int (Int32.ofInt 0)), some (.int (Int32.ofInt 0)), some (.int l1)] [] (V, T) (fun r G' => E x F (d + 1) 161 14 [o0, some (.int l1)] (r.toList ++ []) G' Q)) : E x F (d + 1) 161 7 [o0, some (.int l1)] [.int s2, .int s1, .ref 59] (V, T) Q := by
  refine e_iconst zd161_7 ?_
  refine e_iconst zd161_8 ?_
  refine e_iconst zd161_9 ?_
  refine e_iload_n zd161_10 rfl ?_
  exact e_callV zd161_11 (own := 8) (nest := false) (w := 1041) (by decide +kernel) (by decide +kernel) zs140 (as := [.int s1, .int s2, .int (Int32.ofInt 0), .int (Int32.ofInt 0), .int (Int32.ofInt 0), .int l1]) (rest := []) rfl rfl (zsh_at hF rfl).1 (by omega) (Nat.le_of_ble_eq_true rfl) rfl rfl rfl (by omega) k
theorem b161_14 {x : zXs} {F : zF} (hF : zSh F) {d : Nat} {V : Nat → Nat → Int32} {T : Nat → Nat → Int64} {Q : Option Value → zG → Prop} {o0 : Option Value} {o1 : Option Value} {s0 : Int32}   (k : Q (some (.int s0)) (V, T)) : E x F d 161 14 [o0, o1] [.int s0] (V, T) Q := by
  exact e_ireti zd161_14 zs161 k
theorem zd162_0 : zop 162 0 = some (.iload_n 1, 1) := by decide +kernel
theorem zd162_1 : zop 162 1 = some (.ifCond .ne 11, 3) := by decide +kernel
theorem zd162_4 : zop 162 4 = some (.aload_n 0, 1) := by decide +kernel
theorem zd162_5 : zop 162 5 = some (.iload_n 3, 1) := by decide +kernel
theorem zd162_6 : zop 162 6 = some (.putfield 126, 3) := by decide +kernel
theorem zd162_9 : zop 162 9 = some (.goto 44, 3) := by decide +kernel
theorem zd162_12 : zop 162 12 = some (.iload_n 1, 1) := by decide +kernel
theorem zd162_13 : zop 162 13 = some (.iconst 3, 1) := by decide +kernel
theorem zd162_14 : zop 162 14 = some (.if_icmp .ge 19, 3) := by decide +kernel
theorem zd162_17 : zop 162 17 = some (.aload_n 0, 1) := by decide +kernel
theorem zd162_18 : zop 162 18 = some (.getfield 32, 3) := by decide +kernel
theorem zd162_21 : zop 162 21 = some (.iconst 2, 1) := by decide +kernel
theorem zd162_22 : zop 162 22 = some (.iload_n 2, 1) := by decide +kernel
theorem zd162_23 : zop 162 23 = some (.imul, 1) := by decide +kernel
theorem zd162_24 : zop 162 24 = some (.iload_n 1, 1) := by decide +kernel
theorem zd162_25 : zop 162 25 = some (.iadd, 1) := by decide +kernel
theorem zd162_26 : zop 162 26 = some (.iconst 1, 1) := by decide +kernel
theorem zd162_27 : zop 162 27 = some (.isub, 1) := by decide +kernel
theorem zd162_28 : zop 162 28 = some (.iload_n 3, 1) := by decide +kernel
theorem zd162_29 : zop 162 29 = some (.iastore, 1) := by decide +kernel
theorem zd162_30 : zop 162 30 = some (.goto 23, 3) := by decide +kernel
theorem zd162_33 : zop 162 33 = some (.iload_n 1, 1) := by decide +kernel
theorem zd162_34 : zop 162 34 = some (.iconst 3, 1) := by decide +kernel
theorem zd162_35 : zop 162 35 = some (.if_icmp .ne 13, 3) := by decide +kernel
theorem zd162_38 : zop 162 38 = some (.aload_n 0, 1) := by decide +kernel
theorem zd162_39 : zop 162 39 = some (.getfield 29, 3) := by decide +kernel
theorem zd162_42 : zop 162 42 = some (.iload_n 2, 1) := by decide +kernel
theorem zd162_43 : zop 162 43 = some (.iload_n 3, 1) := by decide +kernel
theorem zd162_44 : zop 162 44 = some (.iastore, 1) := by decide +kernel
theorem zd162_45 : zop 162 45 = some (.goto 8, 3) := by decide +kernel
theorem zd162_48 : zop 162 48 = some (.aload_n 0, 1) := by decide +kernel
theorem zd162_49 : zop 162 49 = some (.iload_n 3, 1) := by decide +kernel
theorem zd162_50 : zop 162 50 = some (.putfield 129, 3) := by decide +kernel
theorem zd162_53 : zop 162 53 = some (.return_, 1) := by decide +kernel
theorem b162_0 {x : zXs} {F : zF} (hF : zSh F) {d : Nat} {V : Nat → Nat → Int32} {T : Nat → Nat → Int64} {Q : Option Value → zG → Prop} {o0 : Option Value} {l1 : Int32} {o2 : Option Value} {o3 : Option Value}   (kt : ¬ l1 = 0 → E x F d 162 12 [o0, some (.int l1), o2, o3] [] (V, T) Q) (kf : ¬ (¬ l1 = 0) → E x F d 162 4 [o0, some (.int l1), o2, o3] [] (V, T) Q) : E x F d 162 0 [o0, some (.int l1), o2, o3] [] (V, T) Q := by
  refine e_iload_n zd162_0 rfl ?_
  exact e_if_ne zd162_1 (tg := 12) rfl kt kf
theorem b162_4 {x : zXs} {F : zF} (hF : zSh F) {d : Nat} {V : Nat → Nat → Int32} {T : Nat → Nat → Int64} {Q : Option Value → zG → Prop} {o1 : Option Value} {o2 : Option Value} {l3 : Int32}   (k : E x F d 162 53 [some (.ref 59), o1, o2, some (.int l3)] [] (zu V 59 7 l3, T) Q) : E x F d 162 4 [some (.ref 59), o1, o2, some (.int l3)] [] (V, T) Q := by
  refine e_aload_n zd162_4 rfl rfl ?_
  refine e_iload_n zd162_5 rfl ?_
  refine e_putI zd162_6 (own := 8) (ci := 8) (kf := 7) (w := 865) (by decide +kernel) (by decide +kernel) (zsh_at hF rfl).1 (by decide +kernel) rfl ?_
  exact e_goto zd162_9 (tg := 53) rfl k
theorem b162_12 {x : zXs} {F : zF} (hF : zSh F) {d : Nat} {V : Nat → Nat → Int32} {T : Nat → Nat → Int64} {Q : Option Value → zG → Prop} {o0 : Option Value} {l1 : Int32} {o2 : Option Value} {o3 : Option Value}   (kt : (Int32.ofInt 3) ≤ l1 → E x F d 162 33 [o0, some (.int l1), o2, o3] [] (V, T) Q) (kf : ¬ ((Int32.ofInt 3) ≤ l1) → E x F d 162 17 [o0, some (.int l1), o2, o3] [] (V, T) Q) : E x F d 162 12 [o0, some (.int l1), o2, o3] [] (V, T) Q := by
  refine e_iload_n zd162_12 rfl ?_
  refine e_iconst zd162_13 ?_
  exact e_icmp_ge zd162_14 (tg := 33) rfl kt kf
theorem b162_17 {x : zXs} {F : zF} (hF : zSh F) {d : Nat} {V : Nat → Nat → Int32} {T : Nat → Nat → Int64} {Q : Option Value → zG → Prop} {l1 : Int32} {l2 : Int32} {l3 : Int32}  {i1 : Nat} (e1 : (((Int32.ofInt 2) * l2) + l1) - (Int32.ofInt 1) = nI i1) (h1 : i1 < 10) (k : E x F d 162 53 [some (.ref 59), some (.int l1), some (.int l2), some (.int l3)] [] (zu V 66 i1 l3, T) Q) : E x F d 162 17 [some (.ref 59), some (.int l1), some (.int l2), some (.int l3)] [] (V, T) Q := by
  refine e_aload_n zd162_17 rfl rfl ?_
  refine e_getA zd162_18 (own := 8) (ci := 8) (kf := 11) (w := 869) (by decide +kernel) (by decide +kernel) (zsh_at hF rfl).1 (by decide +kernel) rfl (zrf_at hF (i := 65) rfl) ?_
  refine e_iconst zd162_21 ?_
  refine e_iload_n zd162_22 rfl ?_
  refine e_imul zd162_23 ?_
  refine e_iload_n zd162_24 rfl ?_
  refine e_iadd zd162_25 ?_
  refine e_iconst zd162_26 ?_
  refine e_isub zd162_27 ?_
  refine e_iload_n zd162_28 rfl ?_
  refine e_iast zd162_29 (i := i1) (zsh_at hF rfl) e1 h1 (by omega) ?_
  exact e_goto zd162_30 (tg := 53) rfl k
theorem b162_33 {x : zXs} {F : zF} (hF : zSh F) {d : Nat} {V : Nat → Nat → Int32} {T : Nat → Nat → Int64} {Q : Option Value → zG → Prop} {o0 : Option Value} {l1 : Int32} {o2 : Option Value} {o3 : Option Value}   (kt : ¬ l1 = (Int32.ofInt 3) → E x F d 162 48 [o0, some (.int l1), o2, o3] [] (V, T) Q) (kf : ¬ (¬ l1 = (Int32.ofInt 3)) → E x F d 162 38 [o0, some (.int l1), o2, o3] [] (V, T) Q) : E x F d 162 33 [o0, some (.int l1), o2, o3] [] (V, T) Q := by
  refine e_iload_n zd162_33 rfl ?_
  refine e_iconst zd162_34 ?_
  exact e_icmp_ne zd162_35 (tg := 48) rfl kt kf
theorem b162_38 {x : zXs} {F : zF} (hF : zSh F) {d : Nat} {V : Nat → Nat → Int32} {T : Nat → Nat → Int64} {Q : Option Value → zG → Prop} {o1 : Option Value} {l2 : Int32} {l3 : Int32}  {i1 : Nat} (e1 : l2 = nI i1) (h1 : i1 < 5) (k : E x F d 162 53 [some (.ref 59), o1, some (.int l2), some (.int l3)] [] (zu V 65 i1 l3, T) Q) : E x F d 162 38 [some (.ref 59), o1, some (.int l2), some (.int l3)] [] (V, T) Q := by
  refine e_aload_n zd162_38 rfl rfl ?_
  refine e_getA zd162_39 (own := 8) (ci := 8) (kf := 10) (w := 868) (by decide +kernel) (by decide +kernel) (zsh_at hF rfl).1 (by decide +kernel) rfl (zrf_at hF (i := 64) rfl) ?_
  refine e_iload_n zd162_42 rfl ?_
  refine e_iload_n zd162_43 rfl ?_
  refine e_iast zd162_44 (i := i1) (zsh_at hF rfl) e1 h1 (by omega) ?_
  exact e_goto zd162_45 (tg := 53) rfl k
theorem b162_48 {x : zXs} {F : zF} (hF : zSh F) {d : Nat} {V : Nat → Nat → Int32} {T : Nat → Nat → Int64} {Q : Option Value → zG → Prop} {o1 : Option Value} {o2 : Option Value} {l3 : Int32}   (k : E x F d 162 53 [some (.ref 59), o1, o2, some (.int l3)] [] (zu V 59 4 l3, T) Q) : E x F d 162 48 [some (.ref 59), o1, o2, some (.int l3)] [] (V, T) Q := by
  refine e_aload_n zd162_48 rfl rfl ?_
  refine e_iload_n zd162_49 rfl ?_
  refine e_putI zd162_50 (own := 8) (ci := 8) (kf := 4) (w := 862) (by decide +kernel) (by decide +kernel) (zsh_at hF rfl).1 (by decide +kernel) rfl ?_
  exact k
theorem b162_53 {x : zXs} {F : zF} (hF : zSh F) {d : Nat} {V : Nat → Nat → Int32} {T : Nat → Nat → Int64} {Q : Option Value → zG → Prop} {o0 : Option Value} {o1 : Option Value} {o2 : Option Value} {o3 : Option Value}   (k : Q none (V, T)) : E x F d 162 53 [o0, o1, o2, o3] [] (V, T) Q := by
  exact e_vret zd162_53 zs162 k
theorem zd163_0 : zop 163 0 = some (.iload_n 1, 1) := by decide +kernel
theorem zd163_1 : zop 163 1 = some (.i2l, 1) := by decide +kernel
theorem zd163_2 : zop 163 2 = some (.lconst 0, 1) := by decide +kernel
theorem zd163_3 : zop 163 3 = some (.ldc2_w 132, 3) := by decide +kernel
theorem zd163_6 : zop 163 6 = some (.invokestatic 91, 3) := by decide +kernel
theorem zd163_9 : zop 163 9 = some (.ifCond .eq 15, 3) := by decide +kernel
theorem zd163_12 : zop 163 12 = some (.iload_n 2, 1) := by decide +kernel
theorem zd163_13 : zop 163 13 = some (.i2l, 1) := by decide +kernel
theorem zd163_14 : zop 163 14 = some (.lconst 0, 1) := by decide +kernel
theorem zd163_15 : zop 163 15 = some (.ldc2_w 134, 3) := by decide +kernel
theorem zd163_18 : zop 163 18 = some (.invokestatic 91, 3) := by decide +kernel
theorem zd163_21 : zop 163 21 = some (.ifCond .ne 6, 3) := by decide +kernel
theorem zd163_24 : zop 163 24 = some (.bipush (-2), 2) := by decide +kernel
theorem zd163_26 : zop 163 26 = some (.ireturn, 1) := by decide +kernel
theorem zd163_27 : zop 163 27 = some (.aload_n 0, 1) := by decide +kernel
theorem zd163_28 : zop 163 28 = some (.getfield 88, 3) := by decide +kernel
theorem zd163_31 : zop 163 31 = some (.iconst 5, 1) := by decide +kernel
theorem zd163_32 : zop 163 32 = some (.if_icmp .ne 6, 3) := by decide +kernel
theorem zd163_35 : zop 163 35 = some (.bipush (-4), 2) := by decide +kernel
theorem zd163_37 : zop 163 37 = some (.ireturn, 1) := by decide +kernel
theorem zd163_38 : zop 163 38 = some (.aload_n 0, 1) := by decide +kernel
theorem zd163_39 : zop 163 39 = some (.getfield 29, 3) := by decide +kernel
theorem zd163_42 : zop 163 42 = some (.aload_n 0, 1) := by decide +kernel
theorem zd163_43 : zop 163 43 = some (.getfield 88, 3) := by decide +kernel
theorem zd163_46 : zop 163 46 = some (.iload_n 1, 1) := by decide +kernel
theorem zd163_47 : zop 163 47 = some (.iastore, 1) := by decide +kernel
theorem zd163_48 : zop 163 48 = some (.aload_n 0, 1) := by decide +kernel
theorem zd163_49 : zop 163 49 = some (.getfield 32, 3) := by decide +kernel
theorem zd163_52 : zop 163 52 = some (.iconst 2, 1) := by decide +kernel
theorem zd163_53 : zop 163 53 = some (.aload_n 0, 1) := by decide +kernel
theorem zd163_54 : zop 163 54 = some (.getfield 88, 3) := by decide +kernel
theorem zd163_57 : zop 163 57 = some (.imul, 1) := by decide +kernel
theorem zd163_58 : zop 163 58 = some (.iload_n 2, 1) := by decide +kernel
theorem zd163_59 : zop 163 59 = some (.iastore, 1) := by decide +kernel
theorem zd163_60 : zop 163 60 = some (.aload_n 0, 1) := by decide +kernel
theorem zd163_61 : zop 163 61 = some (.getfield 32, 3) := by decide +kernel
theorem zd163_64 : zop 163 64 = some (.iconst 2, 1) := by decide +kernel
theorem zd163_65 : zop 163 65 = some (.aload_n 0, 1) := by decide +kernel
theorem zd163_66 : zop 163 66 = some (.getfield 88, 3) := by decide +kernel
theorem zd163_69 : zop 163 69 = some (.imul, 1) := by decide +kernel
theorem zd163_70 : zop 163 70 = some (.iconst 1, 1) := by decide +kernel
theorem zd163_71 : zop 163 71 = some (.iadd, 1) := by decide +kernel
theorem zd163_72 : zop 163 72 = some (.iconst 0, 1) := by decide +kernel
theorem zd163_73 : zop 163 73 = some (.iastore, 1) := by decide +kernel
theorem zd163_74 : zop 163 74 = some (.aload_n 0, 1) := by decide +kernel
theorem zd163_75 : zop 163 75 = some (.dup, 1) := by decide +kernel
theorem zd163_76 : zop 163 76 = some (.getfield 88, 3) := by decide +kernel
theorem zd163_79 : zop 163 79 = some (.iconst 1, 1) := by decide +kernel
theorem zd163_80 : zop 163 80 = some (.iadd, 1) := by decide +kernel
theorem zd163_81 : zop 163 81 = some (.putfield 88, 3) := by decide +kernel
theorem zd163_84 : zop 163 84 = some (.aload_n 0, 1) := by decide +kernel
theorem zd163_85 : zop 163 85 = some (.getfield 88, 3) := by decide +kernel
theorem zd163_88 : zop 163 88 = some (.iconst 1, 1) := by decide +kernel
theorem zd163_89 : zop 163 89 = some (.isub, 1) := by decide +kernel
theorem zd163_90 : zop 163 90 = some (.ireturn, 1) := by decide +kernel
theorem b163_0 {x : zXs} {F : zF} (hF : zSh F) {d : Nat} {V : Nat → Nat → Int32} {T : Nat → Nat → Int64} {Q : Option Value → zG → Prop} {o0 : Option Value} {l1 : Int32} {o2 : Option Value}   (k : E x F d 132 0 [some (.long l1.toInt64), none, some (.long 0), none, some (.long (5 : Int64)), none] [] (V, T) (fun r G' => E x F (d + 1) 163 9 [o0, some (.int l1), o2] (r.toList ++ []) G' Q)) : E x F (d + 1) 163 0 [o0, some (.int l1), o2] [] (V, T) Q := by
  refine e_iload_n zd163_0 rfl ?_
  refine e_i2l zd163_1 ?_
  refine e_lconst zd163_2 (v := 0) rfl ?_
  refine e_ldc2 zd163_3 (own := 8) (w := 1142) (v := 5) (by decide +kernel) (by decide +kernel) ?_
  exact e_callS zd163_6 (own := 8) (nest := false) (w := 1009) (by decide +kernel) (by decide +kernel) zs132 (as := [.long l1.toInt64, .long 0, .long (5 : Int64)]) (rest := []) rfl rfl (Nat.le_of_ble_eq_true rfl) rfl rfl rfl (by omega) k
theorem b163_9 {x : zXs} {F : zF} (hF : zSh F) {d : Nat} {V : Nat → Nat → Int32} {T : Nat → Nat → Int64} {Q : Option Value → zG → Prop} {o0 : Option Value} {o1 : Option Value} {o2 : Option Value} {s0 : Int32}   (kt : s0 = 0 → E x F d 163 24 [o0, o1, o2] [] (V, T) Q) (kf : ¬ (s0 = 0) → E x F d 163 12 [o0, o1, o2] [] (V, T) Q) : E x F d 163 9 [o0, o1, o2] [.int s0] (V, T) Q := by
  exact e_if_eq zd163_9 (tg := 24) rfl kt kf
theorem b163_12 {x : zXs} {F : zF} (hF : zSh F) {d : Nat} {V : Nat → Nat → Int32} {T : Nat → Nat → Int64} {Q : Option Value → zG → Prop} {o0 : Option Value} {o1 : Option Value} {l2 : Int32}   (k : E x F d 132 0 [some (.long l2.toInt64), none, some (.long 0), none, some (.long (9 : Int64)), none] [] (V, T) (fun r G' => E x F (d + 1) 163 21 [o0, o1, some (.int l2)] (r.toList ++ []) G' Q)) : E x F (d + 1) 163 12 [o0, o1, some (.int l2)] [] (V, T) Q := by
  refine e_iload_n zd163_12 rfl ?_
  refine e_i2l zd163_13 ?_
  refine e_lconst zd163_14 (v := 0) rfl ?_
  refine e_ldc2 zd163_15 (own := 8) (w := 1143) (v := 9) (by decide +kernel) (by decide +kernel) ?_
  exact e_callS zd163_18 (own := 8) (nest := false) (w := 1009) (by decide +kernel) (by decide +kernel) zs132 (as := [.long l2.toInt64, .long 0, .long (9 : Int64)]) (rest := []) rfl rfl (Nat.le_of_ble_eq_true rfl) rfl rfl rfl (by omega) k
theorem b163_21 {x : zXs} {F : zF} (hF : zSh F) {d : Nat} {V : Nat → Nat → Int32} {T : Nat → Nat → Int64} {Q : Option Value → zG → Prop} {o0 : Option Value} {o1 : Option Value} {o2 : Option Value} {s0 : Int32}   (kt : ¬ s0 = 0 → E x F d 163 27 [o0, o1, o2] [] (V, T) Q) (kf : ¬ (¬ s0 = 0) → E x F d 163 24 [o0, o1, o2] [] (V, T) Q) : E x F d 163 21 [o0, o1, o2] [.int s0] (V, T) Q := by
  exact e_if_ne zd163_21 (tg := 27) rfl kt kf
theorem b163_24 {x : zXs} {F : zF} (hF : zSh F) {d : Nat} {V : Nat → Nat → Int32} {T : Nat → Nat → Int64} {Q : Option Value → zG → Prop} {o0 : Option Value} {o1 : Option Value} {o2 : Option Value}   (k : Q (some (.int (Int32.ofInt (-2)))) (V, T)) : E x F d 163 24 [o0, o1, o2] [] (V, T) Q := by
  refine e_bipush zd163_24 (v := Int32.ofInt (-2)) (by decide +kernel) ?_
  exact e_ireti zd163_26 zs163 k
theorem b163_27 {x : zXs} {F : zF} (hF : zSh F) {d : Nat} {V : Nat → Nat → Int32} {T : Nat → Nat → Int64} {Q : Option Value → zG → Prop} {o1 : Option Value} {o2 : Option Value}   (kt : ¬ (V 59 12) = (Int32.ofInt 5) → E x F d 163 38 [some (.ref 59), o1, o2] [] (V, T) Q) (kf : ¬ (¬ (V 59 12) = (Int32.ofInt 5)) → E x F d 163 35 [some (.ref 59), o1, o2] [] (V, T) Q) : E x F d 163 27 [some (.ref 59), o1, o2] [] (V, T) Q := by
  refine e_aload_n zd163_27 rfl rfl ?_
  refine e_getI zd163_28 (own := 8) (ci := 8) (kf := 12) (w := 870) (by decide +kernel) (by decide +kernel) (zsh_at hF rfl).1 (by decide +kernel) rfl ?_
  refine e_iconst zd163_31 ?_
  exact e_icmp_ne zd163_32 (tg := 38) rfl kt kf
theorem b163_35 {x : zXs} {F : zF} (hF : zSh F) {d : Nat} {V : Nat → Nat → Int32} {T : Nat → Nat → Int64} {Q : Option Value → zG → Prop} {o0 : Option Value} {o1 : Option Value} {o2 : Option Value}   (k : Q (some (.int (Int32.ofInt (-4)))) (V, T)) : E x F d 163 35 [o0, o1, o2] [] (V, T) Q := by
  refine e_bipush zd163_35 (v := Int32.ofInt (-4)) (by decide +kernel) ?_
  exact e_ireti zd163_37 zs163 k
theorem b163_38 {x : zXs} {F : zF} (hF : zSh F) {d : Nat} {V : Nat → Nat → Int32} {T : Nat → Nat → Int64} {Q : Option Value → zG → Prop} {l1 : Int32} {l2 : Int32}  {i1 : Nat} (e1 : V 59 12 = nI i1) (h1 : i1 < 5) {i2 : Nat} (e2 : (Int32.ofInt 2) * ((zu V 65 i1 l1) 59 12) = nI i2) (h2 : i2 < 10) {i3 : Nat} (e3 : ((Int32.ofInt 2) * ((zu (zu V 65 i1 l1) 66 i2 l2) 59 12)) + (Int32.ofInt 1) = nI i3) (h3 : i3 < 10) (k : Q (some (.int (((zu (zu (zu (zu V 65 i1 l1) 66 i2 l2) 66 i3 (Int32.ofInt 0)) 59 12 (((zu (zu (zu V 65 i1 l1) 66 i2 l2) 66 i3 (Int32.ofInt 0)) 59 12) + (Int32.ofInt 1))) 59 12) - (Int32.ofInt 1)))) (zu (zu (zu (zu V 65 i1 l1) 66 i2 l2) 66 i3 (Int32.ofInt 0)) 59 12 (((zu (zu (zu V 65 i1 l1) 66 i2 l2) 66 i3 (Int32.ofInt 0)) 59 12) + (Int32.ofInt 1)), T)) : E x F d 163 38 [some (.ref 59), some (.int l1), some (.int l2)] [] (V, T) Q := by
  refine e_aload_n zd163_38 rfl rfl ?_
  refine e_getA zd163_39 (own := 8) (ci := 8) (kf := 10) (w := 868) (by decide +kernel) (by decide +kernel) (zsh_at hF rfl).1 (by decide +kernel) rfl (zrf_at hF (i := 64) rfl) ?_
  refine e_aload_n zd163_42 rfl rfl ?_
  refine e_getI zd163_43 (own := 8) (ci := 8) (kf := 12) (w := 870) (by decide +kernel) (by decide +kernel) (zsh_at hF rfl).1 (by decide +kernel) rfl ?_
  refine e_iload_n zd163_46 rfl ?_
  refine e_iast zd163_47 (i := i1) (zsh_at hF rfl) e1 h1 (by omega) ?_
  refine e_aload_n zd163_48 rfl rfl ?_
  refine e_getA zd163_49 (own := 8) (ci := 8) (kf := 11) (w := 869) (by decide +kernel) (by decide +kernel) (zsh_at hF rfl).1 (by decide +kernel) rfl (zrf_at hF (i := 65) rfl) ?_
  refine e_iconst zd163_52 ?_
  refine e_aload_n zd163_53 rfl rfl ?_
  refine e_getI zd163_54 (own := 8) (ci := 8) (kf := 12) (w := 870) (by decide +kernel) (by decide +kernel) (zsh_at hF rfl).1 (by decide +kernel) rfl ?_
  refine e_imul zd163_57 ?_
  refine e_iload_n zd163_58 rfl ?_
  refine e_iast zd163_59 (i := i2) (zsh_at hF rfl) e2 h2 (by omega) ?_
  refine e_aload_n zd163_60 rfl rfl ?_
  refine e_getA zd163_61 (own := 8) (ci := 8) (kf := 11) (w := 869) (by decide +kernel) (by decide +kernel) (zsh_at hF rfl).1 (by decide +kernel) rfl (zrf_at hF (i := 65) rfl) ?_
  refine e_iconst zd163_64 ?_
  refine e_aload_n zd163_65 rfl rfl ?_
  refine e_getI zd163_66 (own := 8) (ci := 8) (kf := 12) (w := 870) (by decide +kernel) (by decide +kernel) (zsh_at hF rfl).1 (by decide +kernel) rfl ?_
  refine e_imul zd163_69 ?_
  refine e_iconst zd163_70 ?_
  refine e_iadd zd163_71 ?_
  refine e_iconst zd163_72 ?_
  refine e_iast zd163_73 (i := i3) (zsh_at hF rfl) e3 h3 (by omega) ?_
  refine e_aload_n zd163_74 rfl rfl ?_
  refine e_dup zd163_75 rfl ?_
  refine e_getI zd163_76 (own := 8) (ci := 8) (kf := 12) (w := 870) (by decide +kernel) (by decide +kernel) (zsh_at hF rfl).1 (by decide +kernel) rfl ?_
  refine e_iconst zd163_79 ?_
  refine e_iadd zd163_80 ?_
  refine e_putI zd163_81 (own := 8) (ci := 8) (kf := 12) (w := 870) (by decide +kernel) (by decide +kernel) (zsh_at hF rfl).1 (by decide +kernel) rfl ?_
  refine e_aload_n zd163_84 rfl rfl ?_
  refine e_getI zd163_85 (own := 8) (ci := 8) (kf := 12) (w := 870) (by decide +kernel) (by decide +kernel) (zsh_at hF rfl).1 (by decide +kernel) rfl ?_
  refine e_iconst zd163_88 ?_
  refine e_isub zd163_89 ?_
  exact e_ireti zd163_90 zs163 k
theorem zd164_0 : zop 164 0 = some (.iload_n 1, 1) := by decide +kernel
theorem zd164_1 : zop 164 1 = some (.i2l, 1) := by decide +kernel
theorem zd164_2 : zop 164 2 = some (.lconst 0, 1) := by decide +kernel
theorem zd164_3 : zop 164 3 = some (.ldc2_w 150, 3) := by decide +kernel
theorem zd164_6 : zop 164 6 = some (.invokestatic 91, 3) := by decide +kernel
theorem zd164_9 : zop 164 9 = some (.ifCond .ne 6, 3) := by decide +kernel
theorem zd164_12 : zop 164 12 = some (.bipush (-2), 2) := by decide +kernel
theorem zd164_14 : zop 164 14 = some (.ireturn, 1) := by decide +kernel
theorem zd164_15 : zop 164 15 = some (.aload_n 0, 1) := by decide +kernel
theorem zd164_16 : zop 164 16 = some (.getfield 152, 3) := by decide +kernel
theorem zd164_19 : zop 164 19 = some (.sipush 160, 3) := by decide +kernel
theorem zd164_22 : zop 164 22 = some (.if_icmp .ne 6, 3) := by decide +kernel
theorem zd164_25 : zop 164 25 = some (.bipush (-4), 2) := by decide +kernel
theorem zd164_27 : zop 164 27 = some (.ireturn, 1) := by decide +kernel
theorem zd164_28 : zop 164 28 = some (.aload_n 0, 1) := by decide +kernel
theorem zd164_29 : zop 164 29 = some (.getfield 20, 3) := by decide +kernel
theorem zd164_32 : zop 164 32 = some (.aload_n 0, 1) := by decide +kernel
theorem zd164_33 : zop 164 33 = some (.getfield 152, 3) := by decide +kernel
theorem zd164_36 : zop 164 36 = some (.iload_n 1, 1) := by decide +kernel
theorem zd164_37 : zop 164 37 = some (.iastore, 1) := by decide +kernel
theorem zd164_38 : zop 164 38 = some (.aload_n 0, 1) := by decide +kernel
theorem zd164_39 : zop 164 39 = some (.dup, 1) := by decide +kernel
theorem zd164_40 : zop 164 40 = some (.getfield 152, 3) := by decide +kernel
theorem zd164_43 : zop 164 43 = some (.iconst 1, 1) := by decide +kernel
theorem zd164_44 : zop 164 44 = some (.iadd, 1) := by decide +kernel
theorem zd164_45 : zop 164 45 = some (.putfield 152, 3) := by decide +kernel
theorem zd164_48 : zop 164 48 = some (.aload_n 0, 1) := by decide +kernel
theorem zd164_49 : zop 164 49 = some (.getfield 152, 3) := by decide +kernel
theorem zd164_52 : zop 164 52 = some (.ireturn, 1) := by decide +kernel
theorem b164_0 {x : zXs} {F : zF} (hF : zSh F) {d : Nat} {V : Nat → Nat → Int32} {T : Nat → Nat → Int64} {Q : Option Value → zG → Prop} {o0 : Option Value} {l1 : Int32}   (k : E x F d 132 0 [some (.long l1.toInt64), none, some (.long 0), none, some (.long (255 : Int64)), none] [] (V, T) (fun r G' => E x F (d + 1) 164 9 [o0, some (.int l1)] (r.toList ++ []) G' Q)) : E x F (d + 1) 164 0 [o0, some (.int l1)] [] (V, T) Q := by
  refine e_iload_n zd164_0 rfl ?_
  refine e_i2l zd164_1 ?_
  refine e_lconst zd164_2 (v := 0) rfl ?_
  refine e_ldc2 zd164_3 (own := 8) (w := 1149) (v := 255) (by decide +kernel) (by decide +kernel) ?_
  exact e_callS zd164_6 (own := 8) (nest := false) (w := 1009) (by decide +kernel) (by decide +kernel) zs132 (as := [.long l1.toInt64, .long 0, .long (255 : Int64)]) (rest := []) rfl rfl (Nat.le_of_ble_eq_true rfl) rfl rfl rfl (by omega) k
theorem b164_9 {x : zXs} {F : zF} (hF : zSh F) {d : Nat} {V : Nat → Nat → Int32} {T : Nat → Nat → Int64} {Q : Option Value → zG → Prop} {o0 : Option Value} {o1 : Option Value} {s0 : Int32}   (kt : ¬ s0 = 0 → E x F d 164 15 [o0, o1] [] (V, T) Q) (kf : ¬ (¬ s0 = 0) → E x F d 164 12 [o0, o1] [] (V, T) Q) : E x F d 164 9 [o0, o1] [.int s0] (V, T) Q := by
  exact e_if_ne zd164_9 (tg := 15) rfl kt kf
theorem b164_12 {x : zXs} {F : zF} (hF : zSh F) {d : Nat} {V : Nat → Nat → Int32} {T : Nat → Nat → Int64} {Q : Option Value → zG → Prop} {o0 : Option Value} {o1 : Option Value}   (k : Q (some (.int (Int32.ofInt (-2)))) (V, T)) : E x F d 164 12 [o0, o1] [] (V, T) Q := by
  refine e_bipush zd164_12 (v := Int32.ofInt (-2)) (by decide +kernel) ?_
  exact e_ireti zd164_14 zs164 k
theorem b164_15 {x : zXs} {F : zF} (hF : zSh F) {d : Nat} {V : Nat → Nat → Int32} {T : Nat → Nat → Int64} {Q : Option Value → zG → Prop} {o1 : Option Value}   (kt : ¬ (V 59 6) = (Int32.ofInt 160) → E x F d 164 28 [some (.ref 59), o1] [] (V, T) Q) (kf : ¬ (¬ (V 59 6) = (Int32.ofInt 160)) → E x F d 164 25 [some (.ref 59), o1] [] (V, T) Q) : E x F d 164 15 [some (.ref 59), o1] [] (V, T) Q := by
  refine e_aload_n zd164_15 rfl rfl ?_
  refine e_getI zd164_16 (own := 8) (ci := 8) (kf := 6) (w := 864) (by decide +kernel) (by decide +kernel) (zsh_at hF rfl).1 (by decide +kernel) rfl ?_
  refine e_sipush zd164_19 (v := Int32.ofInt 160) (by decide +kernel) ?_
  exact e_icmp_ne zd164_22 (tg := 28) rfl kt kf
theorem b164_25 {x : zXs} {F : zF} (hF : zSh F) {d : Nat} {V : Nat → Nat → Int32} {T : Nat → Nat → Int64} {Q : Option Value → zG → Prop} {o0 : Option Value} {o1 : Option Value}   (k : Q (some (.int (Int32.ofInt (-4)))) (V, T)) : E x F d 164 25 [o0, o1] [] (V, T) Q := by
  refine e_bipush zd164_25 (v := Int32.ofInt (-4)) (by decide +kernel) ?_
  exact e_ireti zd164_27 zs164 k
theorem b164_28 {x : zXs} {F : zF} (hF : zSh F) {d : Nat} {V : Nat → Nat → Int32} {T : Nat → Nat → Int64} {Q : Option Value → zG → Prop} {l1 : Int32}  {i1 : Nat} (e1 : V 59 6 = nI i1) (h1 : i1 < 160) (k : Q (some (.int ((zu (zu V 62 i1 l1) 59 6 (((zu V 62 i1 l1) 59 6) + (Int32.ofInt 1))) 59 6))) (zu (zu V 62 i1 l1) 59 6 (((zu V 62 i1 l1) 59 6) + (Int32.ofInt 1)), T)) : E x F d 164 28 [some (.ref 59), some (.int l1)] [] (V, T) Q := by
  refine e_aload_n zd164_28 rfl rfl ?_
  refine e_getA zd164_29 (own := 8) (ci := 8) (kf := 5) (w := 863) (by decide +kernel) (by decide +kernel) (zsh_at hF rfl).1 (by decide +kernel) rfl (zrf_at hF (i := 61) rfl) ?_
  refine e_aload_n zd164_32 rfl rfl ?_
  refine e_getI zd164_33 (own := 8) (ci := 8) (kf := 6) (w := 864) (by decide +kernel) (by decide +kernel) (zsh_at hF rfl).1 (by decide +kernel) rfl ?_
  refine e_iload_n zd164_36 rfl ?_
  refine e_iast zd164_37 (i := i1) (zsh_at hF rfl) e1 h1 (by omega) ?_
  refine e_aload_n zd164_38 rfl rfl ?_
  refine e_dup zd164_39 rfl ?_
  refine e_getI zd164_40 (own := 8) (ci := 8) (kf := 6) (w := 864) (by decide +kernel) (by decide +kernel) (zsh_at hF rfl).1 (by decide +kernel) rfl ?_
  refine e_iconst zd164_43 ?_
  refine e_iadd zd164_44 ?_
  refine e_putI zd164_45 (own := 8) (ci := 8) (kf := 6) (w := 864) (by decide +kernel) (by decide +kernel) (zsh_at hF rfl).1 (by decide +kernel) rfl ?_
  refine e_aload_n zd164_48 rfl rfl ?_
  refine e_getI zd164_49 (own := 8) (ci := 8) (kf := 6) (w := 864) (by decide +kernel) (by decide +kernel) (zsh_at hF rfl).1 (by decide +kernel) rfl ?_
  exact e_ireti zd164_52 zs164 k
theorem zd165_0 : zop 165 0 = some (.aload_n 0, 1) := by decide +kernel
theorem zd165_1 : zop 165 1 = some (.getfield 85, 3) := by decide +kernel
theorem zd165_4 : zop 165 4 = some (.bipush 6, 2) := by decide +kernel
theorem zd165_6 : zop 165 6 = some (.if_icmp .ne 6, 3) := by decide +kernel
theorem zd165_9 : zop 165 9 = some (.bipush (-4), 2) := by decide +kernel
theorem zd165_11 : zop 165 11 = some (.ireturn, 1) := by decide +kernel
theorem zd165_12 : zop 165 12 = some (.iconst 0, 1) := by decide +kernel
theorem zd165_13 : zop 165 13 = some (.istore_n 1, 1) := by decide +kernel
theorem zd165_14 : zop 165 14 = some (.iload_n 1, 1) := by decide +kernel
theorem zd165_15 : zop 165 15 = some (.aload_n 0, 1) := by decide +kernel
theorem zd165_16 : zop 165 16 = some (.getfield 152, 3) := by decide +kernel
theorem zd165_19 : zop 165 19 = some (.if_icmp .ge 30, 3) := by decide +kernel
theorem zd165_22 : zop 165 22 = some (.aload_n 0, 1) := by decide +kernel
theorem zd165_23 : zop 165 23 = some (.getfield 13, 3) := by decide +kernel
theorem zd165_26 : zop 165 26 = some (.sipush 160, 3) := by decide +kernel
theorem zd165_29 : zop 165 29 = some (.aload_n 0, 1) := by decide +kernel
theorem zd165_30 : zop 165 30 = some (.getfield 85, 3) := by decide +kernel
theorem zd165_33 : zop 165 33 = some (.imul, 1) := by decide +kernel
theorem zd165_34 : zop 165 34 = some (.iload_n 1, 1) := by decide +kernel
theorem zd165_35 : zop 165 35 = some (.iadd, 1) := by decide +kernel
theorem zd165_36 : zop 165 36 = some (.aload_n 0, 1) := by decide +kernel
theorem zd165_37 : zop 165 37 = some (.getfield 20, 3) := by decide +kernel
theorem zd165_40 : zop 165 40 = some (.iload_n 1, 1) := by decide +kernel
theorem zd165_41 : zop 165 41 = some (.iaload, 1) := by decide +kernel
theorem zd165_42 : zop 165 42 = some (.iastore, 1) := by decide +kernel
theorem zd165_43 : zop 165 43 = some (.iinc 1 1, 3) := by decide +kernel
theorem zd165_46 : zop 165 46 = some (.goto (-32), 3) := by decide +kernel
theorem zd165_49 : zop 165 49 = some (.aload_n 0, 1) := by decide +kernel
theorem zd165_50 : zop 165 50 = some (.getfield 17, 3) := by decide +kernel
theorem zd165_53 : zop 165 53 = some (.aload_n 0, 1) := by decide +kernel
theorem zd165_54 : zop 165 54 = some (.getfield 85, 3) := by decide +kernel
theorem zd165_57 : zop 165 57 = some (.aload_n 0, 1) := by decide +kernel
theorem zd165_58 : zop 165 58 = some (.getfield 152, 3) := by decide +kernel
theorem zd165_61 : zop 165 61 = some (.iastore, 1) := by decide +kernel
theorem zd165_62 : zop 165 62 = some (.aload_n 0, 1) := by decide +kernel
theorem zd165_63 : zop 165 63 = some (.iconst 0, 1) := by decide +kernel
theorem zd165_64 : zop 165 64 = some (.putfield 152, 3) := by decide +kernel
theorem zd165_67 : zop 165 67 = some (.aload_n 0, 1) := by decide +kernel
theorem zd165_68 : zop 165 68 = some (.aload_n 0, 1) := by decide +kernel
theorem zd165_69 : zop 165 69 = some (.getfield 85, 3) := by decide +kernel
theorem zd165_72 : zop 165 72 = some (.iconst 0, 1) := by decide +kernel
theorem zd165_73 : zop 165 73 = some (.invokevirtual 264, 3) := by decide +kernel
theorem zd165_76 : zop 165 76 = some (.istore_n 1, 1) := by decide +kernel
theorem zd165_77 : zop 165 77 = some (.aload_n 0, 1) := by decide +kernel
theorem zd165_78 : zop 165 78 = some (.getfield 185, 3) := by decide +kernel
theorem zd165_81 : zop 165 81 = some (.ifCond .eq 11, 3) := by decide +kernel
theorem zd165_84 : zop 165 84 = some (.bipush (-100), 2) := by decide +kernel
theorem zd165_86 : zop 165 86 = some (.aload_n 0, 1) := by decide +kernel
theorem zd165_87 : zop 165 87 = some (.getfield 189, 3) := by decide +kernel
theorem zd165_90 : zop 165 90 = some (.isub, 1) := by decide +kernel
theorem zd165_91 : zop 165 91 = some (.ireturn, 1) := by decide +kernel
theorem zd165_92 : zop 165 92 = some (.aload_n 0, 1) := by decide +kernel
theorem zd165_93 : zop 165 93 = some (.dup, 1) := by decide +kernel
theorem zd165_94 : zop 165 94 = some (.getfield 85, 3) := by decide +kernel
theorem zd165_97 : zop 165 97 = some (.iconst 1, 1) := by decide +kernel
theorem zd165_98 : zop 165 98 = some (.iadd, 1) := by decide +kernel
theorem zd165_99 : zop 165 99 = some (.putfield 85, 3) := by decide +kernel
theorem zd165_102 : zop 165 102 = some (.aload_n 0, 1) := by decide +kernel
theorem zd165_103 : zop 165 103 = some (.getfield 85, 3) := by decide +kernel
theorem zd165_106 : zop 165 106 = some (.iconst 1, 1) := by decide +kernel
theorem zd165_107 : zop 165 107 = some (.isub, 1) := by decide +kernel
theorem zd165_108 : zop 165 108 = some (.ireturn, 1) := by decide +kernel
theorem b165_0 {x : zXs} {F : zF} (hF : zSh F) {d : Nat} {V : Nat → Nat → Int32} {T : Nat → Nat → Int64} {Q : Option Value → zG → Prop} {o1 : Option Value}   (kt : ¬ (V 59 3) = (Int32.ofInt 6) → E x F d 165 12 [some (.ref 59), o1] [] (V, T) Q) (kf : ¬ (¬ (V 59 3) = (Int32.ofInt 6)) → E x F d 165 9 [some (.ref 59), o1] [] (V, T) Q) : E x F d 165 0 [some (.ref 59), o1] [] (V, T) Q := by
  refine e_aload_n zd165_0 rfl rfl ?_
  refine e_getI zd165_1 (own := 8) (ci := 8) (kf := 3) (w := 861) (by decide +kernel) (by decide +kernel) (zsh_at hF rfl).1 (by decide +kernel) rfl ?_
  refine e_bipush zd165_4 (v := Int32.ofInt 6) (by decide +kernel) ?_
  exact e_icmp_ne zd165_6 (tg := 12) rfl kt kf
theorem b165_9 {x : zXs} {F : zF} (hF : zSh F) {d : Nat} {V : Nat → Nat → Int32} {T : Nat → Nat → Int64} {Q : Option Value → zG → Prop} {o0 : Option Value} {o1 : Option Value}   (k : Q (some (.int (Int32.ofInt (-4)))) (V, T)) : E x F d 165 9 [o0, o1] [] (V, T) Q := by
  refine e_bipush zd165_9 (v := Int32.ofInt (-4)) (by decide +kernel) ?_
  exact e_ireti zd165_11 zs165 k
theorem b165_12 {x : zXs} {F : zF} (hF : zSh F) {d : Nat} {V : Nat → Nat → Int32} {T : Nat → Nat → Int64} {Q : Option Value → zG → Prop} {o0 : Option Value} {o1 : Option Value}   (k : E x F d 165 14 [o0, some (.int (Int32.ofInt 0))] [] (V, T) Q) : E x F d 165 12 [o0, o1] [] (V, T) Q := by
  refine e_iconst zd165_12 ?_
  refine e_istore_n zd165_13 (by decide +kernel) (Nat.le_of_ble_eq_true rfl) ?_
  exact k
theorem b165_14 {x : zXs} {F : zF} (hF : zSh F) {d : Nat} {V : Nat → Nat → Int32} {T : Nat → Nat → Int64} {Q : Option Value → zG → Prop} {l1 : Int32}   (kt : (V 59 6) ≤ l1 → E x F d 165 49 [some (.ref 59), some (.int l1)] [] (V, T) Q) (kf : ¬ ((V 59 6) ≤ l1) → E x F d 165 22 [some (.ref 59), some (.int l1)] [] (V, T) Q) : E x F d 165 14 [some (.ref 59), some (.int l1)] [] (V, T) Q := by
  refine e_iload_n zd165_14 rfl ?_
  refine e_aload_n zd165_15 rfl rfl ?_
  refine e_getI zd165_16 (own := 8) (ci := 8) (kf := 6) (w := 864) (by decide +kernel) (by decide +kernel) (zsh_at hF rfl).1 (by decide +kernel) rfl ?_
  exact e_icmp_ge zd165_19 (tg := 49) rfl kt kf
theorem b165_22 {x : zXs} {F : zF} (hF : zSh F) {d : Nat} {V : Nat → Nat → Int32} {T : Nat → Nat → Int64} {Q : Option Value → zG → Prop} {l1 : Int32}  {i1 : Nat} (e1 : l1 = nI i1) (h1 : i1 < 160) {i2 : Nat} (e2 : ((Int32.ofInt 160) * (V 59 3)) + l1 = nI i2) (h2 : i2 < 960) (k : E x F d 165 14 [some (.ref 59), some (.int (l1 + Int32.ofInt 1))] [] (zu V 60 i2 (V 62 i1), T) Q) : E x F d 165 22 [some (.ref 59), some (.int l1)] [] (V, T) Q := by
  refine e_aload_n zd165_22 rfl rfl ?_
  refine e_getA zd165_23 (own := 8) (ci := 8) (kf := 1) (w := 859) (by decide +kernel) (by decide +kernel) (zsh_at hF rfl).1 (by decide +kernel) rfl (zrf_at hF (i := 59) rfl) ?_
  refine e_sipush zd165_26 (v := Int32.ofInt 160) (by decide +kernel) ?_
  refine e_aload_n zd165_29 rfl rfl ?_
  refine e_getI zd165_30 (own := 8) (ci := 8) (kf := 3) (w := 861) (by decide +kernel) (by decide +kernel) (zsh_at hF rfl).1 (by decide +kernel) rfl ?_
  refine e_imul zd165_33 ?_
  refine e_iload_n zd165_34 rfl ?_
  refine e_iadd zd165_35 ?_
  refine e_aload_n zd165_36 rfl rfl ?_
  refine e_getA zd165_37 (own := 8) (ci := 8) (kf := 5) (w := 863) (by decide +kernel) (by decide +kernel) (zsh_at hF rfl).1 (by decide +kernel) rfl (zrf_at hF (i := 61) rfl) ?_
  refine e_iload_n zd165_40 rfl ?_
  refine e_iald zd165_41 (i := i1) (zsh_at hF rfl) e1 h1 (by omega) ?_
  refine e_iast zd165_42 (i := i2) (zsh_at hF rfl) e2 h2 (by omega) ?_
  refine e_iinc zd165_43 rfl (by decide +kernel) ?_
  exact e_goto zd165_46 (tg := 14) rfl k
theorem b165_49 {x : zXs} {F : zF} (hF : zSh F) {d : Nat} {V : Nat → Nat → Int32} {T : Nat → Nat → Int64} {Q : Option Value → zG → Prop} {o1 : Option Value}  {i1 : Nat} (e1 : V 59 3 = nI i1) (h1 : i1 < 6) (k : E x F d 141 0 [some (.ref 59), some (.int ((zu (zu V 61 i1 (V 59 6)) 59 6 (Int32.ofInt 0)) 59 3)), some (.int (Int32.ofInt 0)), none, none, none] [] (zu (zu V 61 i1 (V 59 6)) 59 6 (Int32.ofInt 0), T) (fun r G' => E x F (d + 1) 165 76 [some (.ref 59), o1] (r.toList ++ []) G' Q)) : E x F (d + 1) 165 49 [some (.ref 59), o1] [] (V, T) Q := by
  refine e_aload_n zd165_49 rfl rfl ?_
  refine e_getA zd165_50 (own := 8) (ci := 8) (kf := 2) (w := 860) (by decide +kernel) (by decide +kernel) (zsh_at hF rfl).1 (by decide +kernel) rfl (zrf_at hF (i := 60) rfl) ?_
  refine e_aload_n zd165_53 rfl rfl ?_
  refine e_getI zd165_54 (own := 8) (ci := 8) (kf := 3) (w := 861) (by decide +kernel) (by decide +kernel) (zsh_at hF rfl).1 (by decide +kernel) rfl ?_
  refine e_aload_n zd165_57 rfl rfl ?_
  refine e_getI zd165_58 (own := 8) (ci := 8) (kf := 6) (w := 864) (by decide +kernel) (by decide +kernel) (zsh_at hF rfl).1 (by decide +kernel) rfl ?_
  refine e_iast zd165_61 (i := i1) (zsh_at hF rfl) e1 h1 (by omega) ?_
  refine e_aload_n zd165_62 rfl rfl ?_
  refine e_iconst zd165_63 ?_
  refine e_putI zd165_64 (own := 8) (ci := 8) (kf := 6) (w := 864) (by decide +kernel) (by decide +kernel) (zsh_at hF rfl).1 (by decide +kernel) rfl ?_
  refine e_aload_n zd165_67 rfl rfl ?_
  refine e_aload_n zd165_68 rfl rfl ?_
  refine e_getI zd165_69 (own := 8) (ci := 8) (kf := 3) (w := 861) (by decide +kernel) (by decide +kernel) (zsh_at hF rfl).1 (by decide +kernel) rfl ?_
  refine e_iconst zd165_72 ?_
  exact e_callV zd165_73 (own := 8) (nest := false) (w := 1045) (by decide +kernel) (by decide +kernel) zs141 (as := [.int ((zu (zu V 61 i1 (V 59 6)) 59 6 (Int32.ofInt 0)) 59 3), .int (Int32.ofInt 0)]) (rest := []) rfl rfl (zsh_at hF rfl).1 (by omega) (Nat.le_of_ble_eq_true rfl) rfl rfl rfl (by omega) k
theorem b165_76 {x : zXs} {F : zF} (hF : zSh F) {d : Nat} {V : Nat → Nat → Int32} {T : Nat → Nat → Int64} {Q : Option Value → zG → Prop} {o1 : Option Value} {s0 : Int32}   (kt : (V 59 26) = 0 → E x F d 165 92 [some (.ref 59), some (.int s0)] [] (V, T) Q) (kf : ¬ ((V 59 26) = 0) → E x F d 165 84 [some (.ref 59), some (.int s0)] [] (V, T) Q) : E x F d 165 76 [some (.ref 59), o1] [.int s0] (V, T) Q := by
  refine e_istore_n zd165_76 (by decide +kernel) (Nat.le_of_ble_eq_true rfl) ?_
  refine e_aload_n zd165_77 rfl rfl ?_
  refine e_getZ zd165_78 (own := 8) (ci := 8) (kf := 26) (w := 884) (by decide +kernel) (by decide +kernel) (zsh_at hF rfl).1 (by decide +kernel) rfl ?_
  exact e_if_eq zd165_81 (tg := 92) rfl kt kf
theorem b165_84 {x : zXs} {F : zF} (hF : zSh F) {d : Nat} {V : Nat → Nat → Int32} {T : Nat → Nat → Int64} {Q : Option Value → zG → Prop} {o1 : Option Value}   (k : Q (some (.int ((Int32.ofInt (-100)) - (V 59 27)))) (V, T)) : E x F d 165 84 [some (.ref 59), o1] [] (V, T) Q := by
  refine e_bipush zd165_84 (v := Int32.ofInt (-100)) (by decide +kernel) ?_
  refine e_aload_n zd165_86 rfl rfl ?_
  refine e_getI zd165_87 (own := 8) (ci := 8) (kf := 27) (w := 885) (by decide +kernel) (by decide +kernel) (zsh_at hF rfl).1 (by decide +kernel) rfl ?_
  refine e_isub zd165_90 ?_
  exact e_ireti zd165_91 zs165 k
theorem b165_92 {x : zXs} {F : zF} (hF : zSh F) {d : Nat} {V : Nat → Nat → Int32} {T : Nat → Nat → Int64} {Q : Option Value → zG → Prop} {o1 : Option Value}   (k : Q (some (.int (((zu V 59 3 ((V 59 3) + (Int32.ofInt 1))) 59 3) - (Int32.ofInt 1)))) (zu V 59 3 ((V 59 3) + (Int32.ofInt 1)), T)) : E x F d 165 92 [some (.ref 59), o1] [] (V, T) Q := by
  refine e_aload_n zd165_92 rfl rfl ?_
  refine e_dup zd165_93 rfl ?_
  refine e_getI zd165_94 (own := 8) (ci := 8) (kf := 3) (w := 861) (by decide +kernel) (by decide +kernel) (zsh_at hF rfl).1 (by decide +kernel) rfl ?_
  refine e_iconst zd165_97 ?_
  refine e_iadd zd165_98 ?_
  refine e_putI zd165_99 (own := 8) (ci := 8) (kf := 3) (w := 861) (by decide +kernel) (by decide +kernel) (zsh_at hF rfl).1 (by decide +kernel) rfl ?_
  refine e_aload_n zd165_102 rfl rfl ?_
  refine e_getI zd165_103 (own := 8) (ci := 8) (kf := 3) (w := 861) (by decide +kernel) (by decide +kernel) (zsh_at hF rfl).1 (by decide +kernel) rfl ?_
  refine e_iconst zd165_106 ?_
  refine e_isub zd165_107 ?_
  exact e_ireti zd165_108 zs165 k
theorem zd166_0 : zop 166 0 = some (.iload_n 1, 1) := by decide +kernel
theorem zd166_1 : zop 166 1 = some (.i2l, 1) := by decide +kernel
theorem zd166_2 : zop 166 2 = some (.lconst 0, 1) := by decide +kernel
theorem zd166_3 : zop 166 3 = some (.aload_n 0, 1) := by decide +kernel
theorem zd166_4 : zop 166 4 = some (.getfield 85, 3) := by decide +kernel
theorem zd166_7 : zop 166 7 = some (.iconst 1, 1) := by decide +kernel
theorem zd166_8 : zop 166 8 = some (.isub, 1) := by decide +kernel
theorem zd166_9 : zop 166 9 = some (.i2l, 1) := by decide +kernel
theorem zd166_10 : zop 166 10 = some (.invokestatic 91, 3) := by decide +kernel
theorem zd166_13 : zop 166 13 = some (.ifCond .ne 6, 3) := by decide +kernel
theorem zd166_16 : zop 166 16 = some (.bipush (-2), 2) := by decide +kernel
theorem zd166_18 : zop 166 18 = some (.ireturn, 1) := by decide +kernel
theorem zd166_19 : zop 166 19 = some (.aload_n 0, 1) := by decide +kernel
theorem zd166_20 : zop 166 20 = some (.getfield 129, 3) := by decide +kernel
theorem zd166_23 : zop 166 23 = some (.istore_n 2, 1) := by decide +kernel
theorem zd166_24 : zop 166 24 = some (.aload_n 0, 1) := by decide +kernel
theorem zd166_25 : zop 166 25 = some (.iload_n 1, 1) := by decide +kernel
theorem zd166_26 : zop 166 26 = some (.putfield 129, 3) := by decide +kernel
theorem zd166_29 : zop 166 29 = some (.iload_n 2, 1) := by decide +kernel
theorem zd166_30 : zop 166 30 = some (.ireturn, 1) := by decide +kernel
theorem b166_0 {x : zXs} {F : zF} (hF : zSh F) {d : Nat} {V : Nat → Nat → Int32} {T : Nat → Nat → Int64} {Q : Option Value → zG → Prop} {l1 : Int32} {o2 : Option Value}   (k : E x F d 132 0 [some (.long l1.toInt64), none, some (.long 0), none, some (.long (((V 59 3) - (Int32.ofInt 1)).toInt64)), none] [] (V, T) (fun r G' => E x F (d + 1) 166 13 [some (.ref 59), some (.int l1), o2] (r.toList ++ []) G' Q)) : E x F (d + 1) 166 0 [some (.ref 59), some (.int l1), o2] [] (V, T) Q := by
  refine e_iload_n zd166_0 rfl ?_
  refine e_i2l zd166_1 ?_
  refine e_lconst zd166_2 (v := 0) rfl ?_
  refine e_aload_n zd166_3 rfl rfl ?_
  refine e_getI zd166_4 (own := 8) (ci := 8) (kf := 3) (w := 861) (by decide +kernel) (by decide +kernel) (zsh_at hF rfl).1 (by decide +kernel) rfl ?_
  refine e_iconst zd166_7 ?_
  refine e_isub zd166_8 ?_
  refine e_i2l zd166_9 ?_
  exact e_callS zd166_10 (own := 8) (nest := false) (w := 1009) (by decide +kernel) (by decide +kernel) zs132 (as := [.long l1.toInt64, .long 0, .long (((V 59 3) - (Int32.ofInt 1)).toInt64)]) (rest := []) rfl rfl (Nat.le_of_ble_eq_true rfl) rfl rfl rfl (by omega) k
theorem b166_13 {x : zXs} {F : zF} (hF : zSh F) {d : Nat} {V : Nat → Nat → Int32} {T : Nat → Nat → Int64} {Q : Option Value → zG → Prop} {o0 : Option Value} {o1 : Option Value} {o2 : Option Value} {s0 : Int32}   (kt : ¬ s0 = 0 → E x F d 166 19 [o0, o1, o2] [] (V, T) Q) (kf : ¬ (¬ s0 = 0) → E x F d 166 16 [o0, o1, o2] [] (V, T) Q) : E x F d 166 13 [o0, o1, o2] [.int s0] (V, T) Q := by
  exact e_if_ne zd166_13 (tg := 19) rfl kt kf
theorem b166_16 {x : zXs} {F : zF} (hF : zSh F) {d : Nat} {V : Nat → Nat → Int32} {T : Nat → Nat → Int64} {Q : Option Value → zG → Prop} {o0 : Option Value} {o1 : Option Value} {o2 : Option Value}   (k : Q (some (.int (Int32.ofInt (-2)))) (V, T)) : E x F d 166 16 [o0, o1, o2] [] (V, T) Q := by
  refine e_bipush zd166_16 (v := Int32.ofInt (-2)) (by decide +kernel) ?_
  exact e_ireti zd166_18 zs166 k
theorem b166_19 {x : zXs} {F : zF} (hF : zSh F) {d : Nat} {V : Nat → Nat → Int32} {T : Nat → Nat → Int64} {Q : Option Value → zG → Prop} {l1 : Int32} {o2 : Option Value}   (k : Q (some (.int (V 59 4))) (zu V 59 4 l1, T)) : E x F d 166 19 [some (.ref 59), some (.int l1), o2] [] (V, T) Q := by
  refine e_aload_n zd166_19 rfl rfl ?_
  refine e_getI zd166_20 (own := 8) (ci := 8) (kf := 4) (w := 862) (by decide +kernel) (by decide +kernel) (zsh_at hF rfl).1 (by decide +kernel) rfl ?_
  refine e_istore_n zd166_23 (by decide +kernel) (Nat.le_of_ble_eq_true rfl) ?_
  refine e_aload_n zd166_24 rfl rfl ?_
  refine e_iload_n zd166_25 rfl ?_
  refine e_putI zd166_26 (own := 8) (ci := 8) (kf := 4) (w := 862) (by decide +kernel) (by decide +kernel) (zsh_at hF rfl).1 (by decide +kernel) rfl ?_
  refine e_iload_n zd166_29 rfl ?_
  exact e_ireti zd166_30 zs166 k
theorem zd167_0 : zop 167 0 = some (.iload_n 1, 1) := by decide +kernel
theorem zd167_1 : zop 167 1 = some (.invokestatic 97, 3) := by decide +kernel
theorem zd167_4 : zop 167 4 = some (.ifCond .eq 29, 3) := by decide +kernel
theorem zd167_7 : zop 167 7 = some (.iload_n 2, 1) := by decide +kernel
theorem zd167_8 : zop 167 8 = some (.i2l, 1) := by decide +kernel
theorem zd167_9 : zop 167 9 = some (.lconst 0, 1) := by decide +kernel
theorem zd167_10 : zop 167 10 = some (.aload_n 0, 1) := by decide +kernel
theorem zd167_11 : zop 167 11 = some (.iload_n 1, 1) := by decide +kernel
theorem zd167_12 : zop 167 12 = some (.invokevirtual 141, 3) := by decide +kernel
theorem zd167_15 : zop 167 15 = some (.iconst 1, 1) := by decide +kernel
theorem zd167_16 : zop 167 16 = some (.isub, 1) := by decide +kernel
theorem zd167_17 : zop 167 17 = some (.i2l, 1) := by decide +kernel
theorem zd167_18 : zop 167 18 = some (.invokestatic 91, 3) := by decide +kernel
theorem zd167_21 : zop 167 21 = some (.ifCond .eq 12, 3) := by decide +kernel
theorem zd167_24 : zop 167 24 = some (.aload_n 0, 1) := by decide +kernel
theorem zd167_25 : zop 167 25 = some (.getfield 38, 3) := by decide +kernel
theorem zd167_28 : zop 167 28 = some (.iload_n 2, 1) := by decide +kernel
theorem zd167_29 : zop 167 29 = some (.iaload, 1) := by decide +kernel
theorem zd167_30 : zop 167 30 = some (.goto 5, 3) := by decide +kernel
theorem zd167_33 : zop 167 33 = some (.bipush (-2), 2) := by decide +kernel
theorem zd167_35 : zop 167 35 = some (.ireturn, 1) := by decide +kernel
theorem b167_0 {x : zXs} {F : zF} (hF : zSh F) {d : Nat} {V : Nat → Nat → Int32} {T : Nat → Nat → Int64} {Q : Option Value → zG → Prop} {o0 : Option Value} {l1 : Int32} {o2 : Option Value}   (k : E x F d 131 0 [some (.int l1)] [] (V, T) (fun r G' => E x F (d + 1) 167 4 [o0, some (.int l1), o2] (r.toList ++ []) G' Q)) : E x F (d + 1) 167 0 [o0, some (.int l1), o2] [] (V, T) Q := by
  refine e_iload_n zd167_0 rfl ?_
  exact e_callS zd167_1 (own := 8) (nest := false) (w := 1005) (by decide +kernel) (by decide +kernel) zs131 (as := [.int l1]) (rest := []) rfl rfl (Nat.le_of_ble_eq_true rfl) rfl rfl rfl (by omega) k
theorem b167_4 {x : zXs} {F : zF} (hF : zSh F) {d : Nat} {V : Nat → Nat → Int32} {T : Nat → Nat → Int64} {Q : Option Value → zG → Prop} {o0 : Option Value} {o1 : Option Value} {o2 : Option Value} {s0 : Int32}   (kt : s0 = 0 → E x F d 167 33 [o0, o1, o2] [] (V, T) Q) (kf : ¬ (s0 = 0) → E x F d 167 7 [o0, o1, o2] [] (V, T) Q) : E x F d 167 4 [o0, o1, o2] [.int s0] (V, T) Q := by
  exact e_if_eq zd167_4 (tg := 33) rfl kt kf
theorem b167_7 {x : zXs} {F : zF} (hF : zSh F) {d : Nat} {V : Nat → Nat → Int32} {T : Nat → Nat → Int64} {Q : Option Value → zG → Prop} {l1 : Int32} {l2 : Int32}   (k : E x F d 158 0 [some (.ref 59), some (.int l1), none, none] [] (V, T) (fun r G' => E x F (d + 1) 167 15 [some (.ref 59), some (.int l1), some (.int l2)] (r.toList ++ [.long 0, .long l2.toInt64]) G' Q)) : E x F (d + 1) 167 7 [some (.ref 59), some (.int l1), some (.int l2)] [] (V, T) Q := by
  refine e_iload_n zd167_7 rfl ?_
  refine e_i2l zd167_8 ?_
  refine e_lconst zd167_9 (v := 0) rfl ?_
  refine e_aload_n zd167_10 rfl rfl ?_
  refine e_iload_n zd167_11 rfl ?_
  exact e_callV zd167_12 (own := 8) (nest := false) (w := 1118) (by decide +kernel) (by decide +kernel) zs158 (as := [.int l1]) (rest := [.long 0, .long l2.toInt64]) rfl rfl (zsh_at hF rfl).1 (by omega) (Nat.le_of_ble_eq_true rfl) rfl rfl rfl (by omega) k
theorem b167_15 {x : zXs} {F : zF} (hF : zSh F) {d : Nat} {V : Nat → Nat → Int32} {T : Nat → Nat → Int64} {Q : Option Value → zG → Prop} {o0 : Option Value} {o1 : Option Value} {o2 : Option Value} {s0 : Int64} {s1 : Int64} {s2 : Int32}   (k : E x F d 132 0 [some (.long s0), none, some (.long s1), none, some (.long ((s2 - (Int32.ofInt 1)).toInt64)), none] [] (V, T) (fun r G' => E x F (d + 1) 167 21 [o0, o1, o2] (r.toList ++ []) G' Q)) : E x F (d + 1) 167 15 [o0, o1, o2] [.int s2, .long s1, .long s0] (V, T) Q := by
  refine e_iconst zd167_15 ?_
  refine e_isub zd167_16 ?_
  refine e_i2l zd167_17 ?_
  exact e_callS zd167_18 (own := 8) (nest := false) (w := 1009) (by decide +kernel) (by decide +kernel) zs132 (as := [.long s0, .long s1, .long ((s2 - (Int32.ofInt 1)).toInt64)]) (rest := []) rfl rfl (Nat.le_of_ble_eq_true rfl) rfl rfl rfl (by omega) k
theorem b167_21 {x : zXs} {F : zF} (hF : zSh F) {d : Nat} {V : Nat → Nat → Int32} {T : Nat → Nat → Int64} {Q : Option Value → zG → Prop} {o0 : Option Value} {o1 : Option Value} {o2 : Option Value} {s0 : Int32}   (kt : s0 = 0 → E x F d 167 33 [o0, o1, o2] [] (V, T) Q) (kf : ¬ (s0 = 0) → E x F d 167 24 [o0, o1, o2] [] (V, T) Q) : E x F d 167 21 [o0, o1, o2] [.int s0] (V, T) Q := by
  exact e_if_eq zd167_21 (tg := 33) rfl kt kf
theorem b167_24 {x : zXs} {F : zF} (hF : zSh F) {d : Nat} {V : Nat → Nat → Int32} {T : Nat → Nat → Int64} {Q : Option Value → zG → Prop} {o1 : Option Value} {l2 : Int32}  {i1 : Nat} (e1 : l2 = nI i1) (h1 : i1 < 24) (k : E x F d 167 35 [some (.ref 59), o1, some (.int l2)] [.int (V 68 i1)] (V, T) Q) : E x F d 167 24 [some (.ref 59), o1, some (.int l2)] [] (V, T) Q := by
  refine e_aload_n zd167_24 rfl rfl ?_
  refine e_getA zd167_25 (own := 8) (ci := 8) (kf := 29) (w := 887) (by decide +kernel) (by decide +kernel) (zsh_at hF rfl).1 (by decide +kernel) rfl (zrf_at hF (i := 67) rfl) ?_
  refine e_iload_n zd167_28 rfl ?_
  refine e_iald zd167_29 (i := i1) (zsh_at hF rfl) e1 h1 (by omega) ?_
  exact e_goto zd167_30 (tg := 35) rfl k
theorem b167_33 {x : zXs} {F : zF} (hF : zSh F) {d : Nat} {V : Nat → Nat → Int32} {T : Nat → Nat → Int64} {Q : Option Value → zG → Prop} {o0 : Option Value} {o1 : Option Value} {o2 : Option Value}   (k : E x F d 167 35 [o0, o1, o2] [.int (Int32.ofInt (-2))] (V, T) Q) : E x F d 167 33 [o0, o1, o2] [] (V, T) Q := by
  refine e_bipush zd167_33 (v := Int32.ofInt (-2)) (by decide +kernel) ?_
  exact k
theorem b167_35 {x : zXs} {F : zF} (hF : zSh F) {d : Nat} {V : Nat → Nat → Int32} {T : Nat → Nat → Int64} {Q : Option Value → zG → Prop} {o0 : Option Value} {o1 : Option Value} {o2 : Option Value} {s0 : Int32}   (k : Q (some (.int s0)) (V, T)) : E x F d 167 35 [o0, o1, o2] [.int s0] (V, T) Q := by
  exact e_ireti zd167_35 zs167 k
theorem zd168_0 : zop 168 0 = some (.aload_n 0, 1) := by decide +kernel
theorem zd168_1 : zop 168 1 = some (.iload_n 1, 1) := by decide +kernel
theorem zd168_2 : zop 168 2 = some (.invokevirtual 112, 3) := by decide +kernel
theorem zd168_5 : zop 168 5 = some (.ifCond .eq 27, 3) := by decide +kernel
theorem zd168_8 : zop 168 8 = some (.iload_n 2, 1) := by decide +kernel
theorem zd168_9 : zop 168 9 = some (.i2l, 1) := by decide +kernel
theorem zd168_10 : zop 168 10 = some (.lconst 1, 1) := by decide +kernel
theorem zd168_11 : zop 168 11 = some (.ldc2_w 101, 3) := by decide +kernel
theorem zd168_14 : zop 168 14 = some (.invokestatic 91, 3) := by decide +kernel
theorem zd168_17 : zop 168 17 = some (.ifCond .eq 15, 3) := by decide +kernel
theorem zd168_20 : zop 168 20 = some (.aload_n 0, 1) := by decide +kernel
theorem zd168_21 : zop 168 21 = some (.iload_n 1, 1) := by decide +kernel
theorem zd168_22 : zop 168 22 = some (.iload_n 2, 1) := by decide +kernel
theorem zd168_23 : zop 168 23 = some (.iconst 0, 1) := by decide +kernel
theorem zd168_24 : zop 168 24 = some (.bipush 24, 2) := by decide +kernel
theorem zd168_26 : zop 168 26 = some (.invokevirtual 278, 3) := by decide +kernel
theorem zd168_29 : zop 168 29 = some (.goto 5, 3) := by decide +kernel
theorem zd168_32 : zop 168 32 = some (.bipush (-100), 2) := by decide +kernel
theorem zd168_34 : zop 168 34 = some (.ireturn, 1) := by decide +kernel
theorem b168_0 {x : zXs} {F : zF} (hF : zSh F) {d : Nat} {V : Nat → Nat → Int32} {T : Nat → Nat → Int64} {Q : Option Value → zG → Prop} {l1 : Int32} {o2 : Option Value}   (k : E x F d 136 0 [some (.ref 59), some (.int l1)] [] (V, T) (fun r G' => E x F (d + 1) 168 5 [some (.ref 59), some (.int l1), o2] (r.toList ++ []) G' Q)) : E x F (d + 1) 168 0 [some (.ref 59), some (.int l1), o2] [] (V, T) Q := by
  refine e_aload_n zd168_0 rfl rfl ?_
  refine e_iload_n zd168_1 rfl ?_
  exact e_callV zd168_2 (own := 8) (nest := false) (w := 1025) (by decide +kernel) (by decide +kernel) zs136 (as := [.int l1]) (rest := []) rfl rfl (zsh_at hF rfl).1 (by omega) (Nat.le_of_ble_eq_true rfl) rfl rfl rfl (by omega) k
theorem b168_5 {x : zXs} {F : zF} (hF : zSh F) {d : Nat} {V : Nat → Nat → Int32} {T : Nat → Nat → Int64} {Q : Option Value → zG → Prop} {o0 : Option Value} {o1 : Option Value} {o2 : Option Value} {s0 : Int32}   (kt : s0 = 0 → E x F d 168 32 [o0, o1, o2] [] (V, T) Q) (kf : ¬ (s0 = 0) → E x F d 168 8 [o0, o1, o2] [] (V, T) Q) : E x F d 168 5 [o0, o1, o2] [.int s0] (V, T) Q := by
  exact e_if_eq zd168_5 (tg := 32) rfl kt kf
theorem b168_8 {x : zXs} {F : zF} (hF : zSh F) {d : Nat} {V : Nat → Nat → Int32} {T : Nat → Nat → Int64} {Q : Option Value → zG → Prop} {o0 : Option Value} {o1 : Option Value} {l2 : Int32}   (k : E x F d 132 0 [some (.long l2.toInt64), none, some (.long 1), none, some (.long (24 : Int64)), none] [] (V, T) (fun r G' => E x F (d + 1) 168 17 [o0, o1, some (.int l2)] (r.toList ++ []) G' Q)) : E x F (d + 1) 168 8 [o0, o1, some (.int l2)] [] (V, T) Q := by
  refine e_iload_n zd168_8 rfl ?_
  refine e_i2l zd168_9 ?_
  refine e_lconst zd168_10 (v := 1) rfl ?_
  refine e_ldc2 zd168_11 (own := 8) (w := 1012) (v := 24) (by decide +kernel) (by decide +kernel) ?_
  exact e_callS zd168_14 (own := 8) (nest := false) (w := 1009) (by decide +kernel) (by decide +kernel) zs132 (as := [.long l2.toInt64, .long 1, .long (24 : Int64)]) (rest := []) rfl rfl (Nat.le_of_ble_eq_true rfl) rfl rfl rfl (by omega) k
theorem b168_17 {x : zXs} {F : zF} (hF : zSh F) {d : Nat} {V : Nat → Nat → Int32} {T : Nat → Nat → Int64} {Q : Option Value → zG → Prop} {o0 : Option Value} {o1 : Option Value} {o2 : Option Value} {s0 : Int32}   (kt : s0 = 0 → E x F d 168 32 [o0, o1, o2] [] (V, T) Q) (kf : ¬ (s0 = 0) → E x F d 168 20 [o0, o1, o2] [] (V, T) Q) : E x F d 168 17 [o0, o1, o2] [.int s0] (V, T) Q := by
  exact e_if_eq zd168_17 (tg := 32) rfl kt kf
theorem b168_20 {x : zXs} {F : zF} (hF : zSh F) {d : Nat} {V : Nat → Nat → Int32} {T : Nat → Nat → Int64} {Q : Option Value → zG → Prop} {l1 : Int32} {l2 : Int32}   (k : E x F d 169 0 [some (.ref 59), some (.int l1), some (.int l2), some (.int (Int32.ofInt 0)), some (.int (Int32.ofInt 24)), none, none, none, none] [] (V, T) (fun r G' => E x F (d + 1) 168 29 [some (.ref 59), some (.int l1), some (.int l2)] (r.toList ++ []) G' Q)) : E x F (d + 1) 168 20 [some (.ref 59), some (.int l1), some (.int l2)] [] (V, T) Q := by
  refine e_aload_n zd168_20 rfl rfl ?_
  refine e_iload_n zd168_21 rfl ?_
  refine e_iload_n zd168_22 rfl ?_
  refine e_iconst zd168_23 ?_
  refine e_bipush zd168_24 (v := Int32.ofInt 24) (by decide +kernel) ?_
  exact e_callV zd168_26 (own := 8) (nest := false) (w := 1166) (by decide +kernel) (by decide +kernel) zs169 (as := [.int l1, .int l2, .int (Int32.ofInt 0), .int (Int32.ofInt 24)]) (rest := []) rfl rfl (zsh_at hF rfl).1 (by omega) (Nat.le_of_ble_eq_true rfl) rfl rfl rfl (by omega) k
theorem b168_29 {x : zXs} {F : zF} (hF : zSh F) {d : Nat} {V : Nat → Nat → Int32} {T : Nat → Nat → Int64} {Q : Option Value → zG → Prop} {o0 : Option Value} {o1 : Option Value} {o2 : Option Value} {s0 : Int32}   (k : E x F d 168 34 [o0, o1, o2] [.int s0] (V, T) Q) : E x F d 168 29 [o0, o1, o2] [.int s0] (V, T) Q := by
  exact e_goto zd168_29 (tg := 34) rfl k
theorem b168_32 {x : zXs} {F : zF} (hF : zSh F) {d : Nat} {V : Nat → Nat → Int32} {T : Nat → Nat → Int64} {Q : Option Value → zG → Prop} {o0 : Option Value} {o1 : Option Value} {o2 : Option Value}   (k : E x F d 168 34 [o0, o1, o2] [.int (Int32.ofInt (-100))] (V, T) Q) : E x F d 168 32 [o0, o1, o2] [] (V, T) Q := by
  refine e_bipush zd168_32 (v := Int32.ofInt (-100)) (by decide +kernel) ?_
  exact k
theorem b168_34 {x : zXs} {F : zF} (hF : zSh F) {d : Nat} {V : Nat → Nat → Int32} {T : Nat → Nat → Int64} {Q : Option Value → zG → Prop} {o0 : Option Value} {o1 : Option Value} {o2 : Option Value} {s0 : Int32}   (k : Q (some (.int s0)) (V, T)) : E x F d 168 34 [o0, o1, o2] [.int s0] (V, T) Q := by
  exact e_ireti zd168_34 zs168 k
