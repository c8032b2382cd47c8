/-! Blocks: 71-127 -/
theorem zd71_0 : zop 71 0 = some (.aload_n 1, 1) := by decide +kernel
theorem zd71_1 : zop 71 1 = some (.getfield 9, 3) := by decide +kernel
theorem zd71_4 : zop 71 4 = some (.iconst 0, 1) := by decide +kernel
theorem zd71_5 : zop 71 5 = some (.aload_n 0, 1) := by decide +kernel
theorem zd71_6 : zop 71 6 = some (.getfield 9, 3) := by decide +kernel
theorem zd71_9 : zop 71 9 = some (.iconst 0, 1) := by decide +kernel
theorem zd71_10 : zop 71 10 = some (.sipush 160, 3) := by decide +kernel
theorem zd71_13 : zop 71 13 = some (.invokestatic 26, 3) := by decide +kernel
theorem zd71_16 : zop 71 16 = some (.aload_n 1, 1) := by decide +kernel
theorem zd71_17 : zop 71 17 = some (.getfield 15, 3) := by decide +kernel
theorem zd71_20 : zop 71 20 = some (.iconst 0, 1) := by decide +kernel
theorem zd71_21 : zop 71 21 = some (.aload_n 0, 1) := by decide +kernel
theorem zd71_22 : zop 71 22 = some (.getfield 15, 3) := by decide +kernel
theorem zd71_25 : zop 71 25 = some (.iconst 0, 1) := by decide +kernel
theorem zd71_26 : zop 71 26 = some (.iconst 3, 1) := by decide +kernel
theorem zd71_27 : zop 71 27 = some (.invokestatic 26, 3) := by decide +kernel
theorem zd71_30 : zop 71 30 = some (.aload_n 0, 1) := by decide +kernel
theorem zd71_31 : zop 71 31 = some (.aload_n 1, 1) := by decide +kernel
theorem zd71_32 : zop 71 32 = some (.getfield 18, 3) := by decide +kernel
theorem zd71_35 : zop 71 35 = some (.putfield 18, 3) := by decide +kernel
theorem zd71_38 : zop 71 38 = some (.return_, 1) := by decide +kernel
theorem b71_0 {x : zXs} {F : zF} (hF : zSh F) {d : Nat} {V : Nat → Nat → Int32} {T : Nat → Nat → Int64} {Q : Option Value → zG → Prop} {l0 : Nat} {l1 : Nat} (hl0 : zTx l0) (hl1 : zTx l1)  (k : Q none (zu (zcpy (zcpy V (l1 + 1) (l0 + 1) 0 0 160) (l1 + 2) (l0 + 2) 0 0 3) l0 2 ((zcpy (zcpy V (l1 + 1) (l0 + 1) 0 0 160) (l1 + 2) (l0 + 2) 0 0 3) l1 2), T)) : E x F d 71 0 [some (.ref l0), some (.ref l1)] [] (V, T) Q := by
  refine e_aload_n zd71_0 rfl rfl ?_
  refine e_getA zd71_1 (own := 6) (ci := 6) (kf := 0) (w := 174) (by decide +kernel) (by decide +kernel) (zTx_s hF hl1).1 (by decide +kernel) rfl (zTx_f0 hF hl1) ?_
  refine e_iconst zd71_4 ?_
  refine e_aload_n zd71_5 rfl rfl ?_
  refine e_getA zd71_6 (own := 6) (ci := 6) (kf := 0) (w := 174) (by decide +kernel) (by decide +kernel) (zTx_s hF hl0).1 (by decide +kernel) rfl (zTx_f0 hF hl0) ?_
  refine e_iconst zd71_9 ?_
  refine e_sipush zd71_10 (v := Int32.ofInt 160) (by decide +kernel) ?_
  refine e_acopy zd71_13 (sp := 0) (dp := 0) (n := 160) (own := 6) (w := 606) (by decide +kernel) (by decide +kernel) (by decide +kernel) (by decide +kernel) (Nat.le_of_ble_eq_true rfl) (zTx_a0 hF hl1) (zTx_a0 hF hl0) rfl rfl rfl (by omega) (by omega) (by omega) ?_
  refine e_aload_n zd71_16 rfl rfl ?_
  refine e_getA zd71_17 (own := 6) (ci := 6) (kf := 1) (w := 176) (by decide +kernel) (by decide +kernel) (zTx_s hF hl1).1 (by decide +kernel) rfl (zTx_f1 hF hl1) ?_
  refine e_iconst zd71_20 ?_
  refine e_aload_n zd71_21 rfl rfl ?_
  refine e_getA zd71_22 (own := 6) (ci := 6) (kf := 1) (w := 176) (by decide +kernel) (by decide +kernel) (zTx_s hF hl0).1 (by decide +kernel) rfl (zTx_f1 hF hl0) ?_
  refine e_iconst zd71_25 ?_
  refine e_iconst zd71_26 ?_
  refine e_acopy zd71_27 (sp := 0) (dp := 0) (n := 3) (own := 6) (w := 606) (by decide +kernel) (by decide +kernel) (by decide +kernel) (by decide +kernel) (Nat.le_of_ble_eq_true rfl) (zTx_a1 hF hl1) (zTx_a1 hF hl0) rfl rfl rfl (by omega) (by omega) (by omega) ?_
  refine e_aload_n zd71_30 rfl rfl ?_
  refine e_aload_n zd71_31 rfl rfl ?_
  refine e_getI zd71_32 (own := 6) (ci := 6) (kf := 2) (w := 178) (by decide +kernel) (by decide +kernel) (zTx_s hF hl1).1 (by decide +kernel) rfl ?_
  refine e_putI zd71_35 (own := 6) (ci := 6) (kf := 2) (w := 178) (by decide +kernel) (by decide +kernel) (zTx_s hF hl0).1 (by decide +kernel) rfl ?_
  exact e_vret zd71_38 zs71 k
theorem zd72_0 : zop 72 0 = some (.iload_n 1, 1) := by decide +kernel
theorem zd72_1 : zop 72 1 = some (.iconst 0, 1) := by decide +kernel
theorem zd72_2 : zop 72 2 = some (.aload_n 0, 1) := by decide +kernel
theorem zd72_3 : zop 72 3 = some (.getfield 33, 3) := by decide +kernel
theorem zd72_6 : zop 72 6 = some (.getfield 139, 3) := by decide +kernel
theorem zd72_9 : zop 72 9 = some (.iconst 1, 1) := by decide +kernel
theorem zd72_10 : zop 72 10 = some (.isub, 1) := by decide +kernel
theorem zd72_11 : zop 72 11 = some (.invokestatic 59, 3) := by decide +kernel
theorem zd72_14 : zop 72 14 = some (.ifCond .ne 6, 3) := by decide +kernel
theorem zd72_17 : zop 72 17 = some (.bipush (-2), 2) := by decide +kernel
theorem zd72_19 : zop 72 19 = some (.ireturn, 1) := by decide +kernel
theorem zd72_20 : zop 72 20 = some (.aload_n 0, 1) := by decide +kernel
theorem zd72_21 : zop 72 21 = some (.getfield 10, 3) := by decide +kernel
theorem zd72_24 : zop 72 24 = some (.getfield 154, 3) := by decide +kernel
theorem zd72_27 : zop 72 27 = some (.istore_n 2, 1) := by decide +kernel
theorem zd72_28 : zop 72 28 = some (.aload_n 0, 1) := by decide +kernel
theorem zd72_29 : zop 72 29 = some (.getfield 10, 3) := by decide +kernel
theorem zd72_32 : zop 72 32 = some (.iload_n 1, 1) := by decide +kernel
theorem zd72_33 : zop 72 33 = some (.putfield 154, 3) := by decide +kernel
theorem zd72_36 : zop 72 36 = some (.iload_n 2, 1) := by decide +kernel
theorem zd72_37 : zop 72 37 = some (.ireturn, 1) := by decide +kernel
theorem b72_0 {x : zXs} {F : zF} (hF : zSh F) {d : Nat} {V : Nat → Nat → Int32} {T : Nat → Nat → Int64} {Q : Option Value → zG → Prop} {l1 : Int32} {o2 : Option Value}   (k : E x F d 7 0 [some (.int l1), some (.int (Int32.ofInt 0)), some (.int ((V 20 3) - (Int32.ofInt 1)))] [] (V, T) (fun r G' => E x F (d + 1) 72 14 [some (.ref 0), some (.int l1), o2] (r.toList ++ []) G' Q)) : E x F (d + 1) 72 0 [some (.ref 0), some (.int l1), o2] [] (V, T) Q := by
  refine e_iload_n zd72_0 rfl ?_
  refine e_iconst zd72_1 ?_
  refine e_aload_n zd72_2 rfl rfl ?_
  refine e_getO zd72_3 (own := 7) (ci := 7) (kf := 4) (w := 301) (by decide +kernel) (by decide +kernel) (zsh_at hF rfl).1 (by decide +kernel) rfl (zrf_at hF (i := 4) rfl) ?_
  refine e_getI zd72_6 (own := 7) (ci := 2) (kf := 3) (w := 201) (by decide +kernel) (by decide +kernel) (zsh_at hF rfl).1 (by decide +kernel) rfl ?_
  refine e_iconst zd72_9 ?_
  refine e_isub zd72_10 ?_
  exact e_callS zd72_11 (own := 7) (nest := false) (w := 334) (by decide +kernel) (by decide +kernel) zs7 (as := [.int l1, .int (Int32.ofInt 0), .int ((V 20 3) - (Int32.ofInt 1))]) (rest := []) rfl rfl (Nat.le_of_ble_eq_true rfl) rfl rfl rfl (by omega) k
theorem b72_14 {x : zXs} {F : zF} (hF : zSh F) {d : Nat} {V : Nat → Nat → Int32} {T : Nat → Nat → Int64} {Q : Option Value → zG → Prop} {o0 : Option Value} {o1 : Option Value} {o2 : Option Value} {s0 : Int32}   (kt : ¬ s0 = 0 → E x F d 72 20 [o0, o1, o2] [] (V, T) Q) (kf : ¬ (¬ s0 = 0) → E x F d 72 17 [o0, o1, o2] [] (V, T) Q) : E x F d 72 14 [o0, o1, o2] [.int s0] (V, T) Q := by
  exact e_if_ne zd72_14 (tg := 20) rfl kt kf
theorem b72_17 {x : zXs} {F : zF} (hF : zSh F) {d : Nat} {V : Nat → Nat → Int32} {T : Nat → Nat → Int64} {Q : Option Value → zG → Prop} {o0 : Option Value} {o1 : Option Value} {o2 : Option Value}   (k : Q (some (.int (Int32.ofInt (-2)))) (V, T)) : E x F d 72 17 [o0, o1, o2] [] (V, T) Q := by
  refine e_bipush zd72_17 (v := Int32.ofInt (-2)) (by decide +kernel) ?_
  exact e_ireti zd72_19 zs72 k
theorem b72_20 {x : zXs} {F : zF} (hF : zSh F) {d : Nat} {V : Nat → Nat → Int32} {T : Nat → Nat → Int64} {Q : Option Value → zG → Prop} {l1 : Int32} {o2 : Option Value}   (k : Q (some (.int (V 1 7))) (zu V 1 7 l1, T)) : E x F d 72 20 [some (.ref 0), some (.int l1), o2] [] (V, T) Q := by
  refine e_aload_n zd72_20 rfl rfl ?_
  refine e_getO zd72_21 (own := 7) (ci := 7) (kf := 0) (w := 297) (by decide +kernel) (by decide +kernel) (zsh_at hF rfl).1 (by decide +kernel) rfl (zrf_at hF (i := 0) rfl) ?_
  refine e_getI zd72_24 (own := 7) (ci := 4) (kf := 7) (w := 136) (by decide +kernel) (by decide +kernel) (zsh_at hF rfl).1 (by decide +kernel) rfl ?_
  refine e_istore_n zd72_27 (by decide +kernel) (Nat.le_of_ble_eq_true rfl) ?_
  refine e_aload_n zd72_28 rfl rfl ?_
  refine e_getO zd72_29 (own := 7) (ci := 7) (kf := 0) (w := 297) (by decide +kernel) (by decide +kernel) (zsh_at hF rfl).1 (by decide +kernel) rfl (zrf_at hF (i := 0) rfl) ?_
  refine e_iload_n zd72_32 rfl ?_
  refine e_putI zd72_33 (own := 7) (ci := 4) (kf := 7) (w := 136) (by decide +kernel) (by decide +kernel) (zsh_at hF rfl).1 (by decide +kernel) rfl ?_
  refine e_iload_n zd72_36 rfl ?_
  exact e_ireti zd72_37 zs72 k
theorem zd73_0 : zop 73 0 = some (.aload_n 0, 1) := by decide +kernel
theorem zd73_1 : zop 73 1 = some (.getfield 10, 3) := by decide +kernel
theorem zd73_4 : zop 73 4 = some (.iload_n 1, 1) := by decide +kernel
theorem zd73_5 : zop 73 5 = some (.invokevirtual 91, 3) := by decide +kernel
theorem zd73_8 : zop 73 8 = some (.ifCond .eq 14, 3) := by decide +kernel
theorem zd73_11 : zop 73 11 = some (.aload_n 0, 1) := by decide +kernel
theorem zd73_12 : zop 73 12 = some (.getfield 10, 3) := by decide +kernel
theorem zd73_15 : zop 73 15 = some (.iload_n 2, 1) := by decide +kernel
theorem zd73_16 : zop 73 16 = some (.invokevirtual 55, 3) := by decide +kernel
theorem zd73_19 : zop 73 19 = some (.ifCond .ne 6, 3) := by decide +kernel
theorem zd73_22 : zop 73 22 = some (.bipush (-100), 2) := by decide +kernel
theorem zd73_24 : zop 73 24 = some (.ireturn, 1) := by decide +kernel
theorem zd73_25 : zop 73 25 = some (.aload_n 0, 1) := by decide +kernel
theorem zd73_26 : zop 73 26 = some (.getfield 25, 3) := by decide +kernel
theorem zd73_29 : zop 73 29 = some (.aload_n 0, 1) := by decide +kernel
theorem zd73_30 : zop 73 30 = some (.getfield 10, 3) := by decide +kernel
theorem zd73_33 : zop 73 33 = some (.iload_n 1, 1) := by decide +kernel
theorem zd73_34 : zop 73 34 = some (.iload_n 2, 1) := by decide +kernel
theorem zd73_35 : zop 73 35 = some (.invokevirtual 156, 3) := by decide +kernel
theorem zd73_38 : zop 73 38 = some (.ireturn, 1) := by decide +kernel
theorem b73_0 {x : zXs} {F : zF} (hF : zSh F) {d : Nat} {V : Nat → Nat → Int32} {T : Nat → Nat → Int64} {Q : Option Value → zG → Prop} {l1 : Int32} {o2 : Option Value}   (k : E x F d 19 0 [some (.ref 1), some (.int l1)] [] (V, T) (fun r G' => E x F (d + 1) 73 8 [some (.ref 0), some (.int l1), o2] (r.toList ++ []) G' Q)) : E x F (d + 1) 73 0 [some (.ref 0), some (.int l1), o2] [] (V, T) Q := by
  refine e_aload_n zd73_0 rfl rfl ?_
  refine e_getO zd73_1 (own := 7) (ci := 7) (kf := 0) (w := 297) (by decide +kernel) (by decide +kernel) (zsh_at hF rfl).1 (by decide +kernel) rfl (zrf_at hF (i := 0) rfl) ?_
  refine e_iload_n zd73_4 rfl ?_
  exact e_callV zd73_5 (own := 7) (nest := false) (w := 361) (by decide +kernel) (by decide +kernel) zs19 (as := [.int l1]) (rest := []) rfl rfl (zsh_at hF rfl).1 (by omega) (Nat.le_of_ble_eq_true rfl) rfl rfl rfl (by omega) k
theorem b73_8 {x : zXs} {F : zF} (hF : zSh F) {d : Nat} {V : Nat → Nat → Int32} {T : Nat → Nat → Int64} {Q : Option Value → zG → Prop} {o0 : Option Value} {o1 : Option Value} {o2 : Option Value} {s0 : Int32}   (kt : s0 = 0 → E x F d 73 22 [o0, o1, o2] [] (V, T) Q) (kf : ¬ (s0 = 0) → E x F d 73 11 [o0, o1, o2] [] (V, T) Q) : E x F d 73 8 [o0, o1, o2] [.int s0] (V, T) Q := by
  exact e_if_eq zd73_8 (tg := 22) rfl kt kf
theorem b73_11 {x : zXs} {F : zF} (hF : zSh F) {d : Nat} {V : Nat → Nat → Int32} {T : Nat → Nat → Int64} {Q : Option Value → zG → Prop} {o1 : Option Value} {l2 : Int32}   (k : E x F d 12 0 [some (.ref 1), some (.int l2)] [] (V, T) (fun r G' => E x F (d + 1) 73 19 [some (.ref 0), o1, some (.int l2)] (r.toList ++ []) G' Q)) : E x F (d + 1) 73 11 [some (.ref 0), o1, some (.int l2)] [] (V, T) Q := by
  refine e_aload_n zd73_11 rfl rfl ?_
  refine e_getO zd73_12 (own := 7) (ci := 7) (kf := 0) (w := 297) (by decide +kernel) (by decide +kernel) (zsh_at hF rfl).1 (by decide +kernel) rfl (zrf_at hF (i := 0) rfl) ?_
  refine e_iload_n zd73_15 rfl ?_
  exact e_callV zd73_16 (own := 7) (nest := false) (w := 329) (by decide +kernel) (by decide +kernel) zs12 (as := [.int l2]) (rest := []) rfl rfl (zsh_at hF rfl).1 (by omega) (Nat.le_of_ble_eq_true rfl) rfl rfl rfl (by omega) k
theorem b73_19 {x : zXs} {F : zF} (hF : zSh F) {d : Nat} {V : Nat → Nat → Int32} {T : Nat → Nat → Int64} {Q : Option Value → zG → Prop} {o0 : Option Value} {o1 : Option Value} {o2 : Option Value} {s0 : Int32}   (kt : ¬ s0 = 0 → E x F d 73 25 [o0, o1, o2] [] (V, T) Q) (kf : ¬ (¬ s0 = 0) → E x F d 73 22 [o0, o1, o2] [] (V, T) Q) : E x F d 73 19 [o0, o1, o2] [.int s0] (V, T) Q := by
  exact e_if_ne zd73_19 (tg := 25) rfl kt kf
theorem b73_22 {x : zXs} {F : zF} (hF : zSh F) {d : Nat} {V : Nat → Nat → Int32} {T : Nat → Nat → Int64} {Q : Option Value → zG → Prop} {o0 : Option Value} {o1 : Option Value} {o2 : Option Value}   (k : Q (some (.int (Int32.ofInt (-100)))) (V, T)) : E x F d 73 22 [o0, o1, o2] [] (V, T) Q := by
  refine e_bipush zd73_22 (v := Int32.ofInt (-100)) (by decide +kernel) ?_
  exact e_ireti zd73_24 zs73 k
theorem b73_25 {x : zXs} {F : zF} (hF : zSh F) {d : Nat} {V : Nat → Nat → Int32} {T : Nat → Nat → Int64} {Q : Option Value → zG → Prop} {l1 : Int32} {l2 : Int32}   (k : E x F d 74 0 [some (.ref 19), some (.ref 1), some (.int l1), some (.int l2), none, none, none, none, none, none, none, none, none, none] [] (V, T) (fun r G' => E x F (d + 1) 73 38 [some (.ref 0), some (.int l1), some (.int l2)] (r.toList ++ []) G' Q)) : E x F (d + 1) 73 25 [some (.ref 0), some (.int l1), some (.int l2)] [] (V, T) Q := by
  refine e_aload_n zd73_25 rfl rfl ?_
  refine e_getO zd73_26 (own := 7) (ci := 7) (kf := 3) (w := 300) (by decide +kernel) (by decide +kernel) (zsh_at hF rfl).1 (by decide +kernel) rfl (zrf_at hF (i := 3) rfl) ?_
  refine e_aload_n zd73_29 rfl rfl ?_
  refine e_getO zd73_30 (own := 7) (ci := 7) (kf := 0) (w := 297) (by decide +kernel) (by decide +kernel) (zsh_at hF rfl).1 (by decide +kernel) rfl (zrf_at hF (i := 0) rfl) ?_
  refine e_iload_n zd73_33 rfl ?_
  refine e_iload_n zd73_34 rfl ?_
  exact e_callV zd73_35 (own := 7) (nest := false) (w := 618) (by decide +kernel) (by decide +kernel) zs74 (as := [.ref 1, .int l1, .int l2]) (rest := []) rfl rfl (zsh_at hF rfl).1 (by omega) (Nat.le_of_ble_eq_true rfl) rfl rfl rfl (by omega) k
theorem b73_38 {x : zXs} {F : zF} (hF : zSh F) {d : Nat} {V : Nat → Nat → Int32} {T : Nat → Nat → Int64} {Q : Option Value → zG → Prop} {o0 : Option Value} {o1 : Option Value} {o2 : Option Value} {s0 : Int32}   (k : Q (some (.int s0)) (V, T)) : E x F d 73 38 [o0, o1, o2] [.int s0] (V, T) Q := by
  exact e_ireti zd73_38 zs73 k
theorem zd74_0 : zop 74 0 = some (.aload_n 1, 1) := by decide +kernel
theorem zd74_1 : zop 74 1 = some (.getfield 45, 3) := by decide +kernel
theorem zd74_4 : zop 74 4 = some (.iload_n 3, 1) := by decide +kernel
theorem zd74_5 : zop 74 5 = some (.iaload, 1) := by decide +kernel
theorem zd74_6 : zop 74 6 = some (.istore 4, 2) := by decide +kernel
theorem zd74_8 : zop 74 8 = some (.aload_n 1, 1) := by decide +kernel
theorem zd74_9 : zop 74 9 = some (.getfield 48, 3) := by decide +kernel
theorem zd74_12 : zop 74 12 = some (.iload_n 3, 1) := by decide +kernel
theorem zd74_13 : zop 74 13 = some (.iaload, 1) := by decide +kernel
theorem zd74_14 : zop 74 14 = some (.istore 5, 2) := by decide +kernel
theorem zd74_16 : zop 74 16 = some (.iconst 0, 1) := by decide +kernel
theorem zd74_17 : zop 74 17 = some (.istore 6, 2) := by decide +kernel
theorem zd74_19 : zop 74 19 = some (.iconst 0, 1) := by decide +kernel
theorem zd74_20 : zop 74 20 = some (.istore 7, 2) := by decide +kernel
theorem zd74_22 : zop 74 22 = some (.iconst 0, 1) := by decide +kernel
theorem zd74_23 : zop 74 23 = some (.istore 8, 2) := by decide +kernel
theorem zd74_25 : zop 74 25 = some (.iconst 0, 1) := by decide +kernel
theorem zd74_26 : zop 74 26 = some (.istore 9, 2) := by decide +kernel
theorem zd74_28 : zop 74 28 = some (.aload_n 0, 1) := by decide +kernel
theorem zd74_29 : zop 74 29 = some (.iconst 0, 1) := by decide +kernel
theorem zd74_30 : zop 74 30 = some (.putfield 51, 3) := by decide +kernel
theorem zd74_33 : zop 74 33 = some (.iconst 0, 1) := by decide +kernel
theorem zd74_34 : zop 74 34 = some (.istore 10, 2) := by decide +kernel
theorem zd74_36 : zop 74 36 = some (.iload 10, 2) := by decide +kernel
theorem zd74_38 : zop 74 38 = some (.iload 4, 2) := by decide +kernel
theorem zd74_40 : zop 74 40 = some (.if_icmp .gt 137, 3) := by decide +kernel
theorem zd74_43 : zop 74 43 = some (.iload 10, 2) := by decide +kernel
theorem zd74_45 : zop 74 45 = some (.iload 4, 2) := by decide +kernel
theorem zd74_47 : zop 74 47 = some (.if_icmp .ge 19, 3) := by decide +kernel
theorem zd74_50 : zop 74 50 = some (.iload 5, 2) := by decide +kernel
theorem zd74_52 : zop 74 52 = some (.iload 10, 2) := by decide +kernel
theorem zd74_54 : zop 74 54 = some (.ishr, 1) := by decide +kernel
theorem zd74_55 : zop 74 55 = some (.iconst 1, 1) := by decide +kernel
theorem zd74_56 : zop 74 56 = some (.iand, 1) := by decide +kernel
theorem zd74_57 : zop 74 57 = some (.ifCond .ne 9, 3) := by decide +kernel
theorem zd74_60 : zop 74 60 = some (.iinc 8 1, 3) := by decide +kernel
theorem zd74_63 : zop 74 63 = some (.goto 108, 3) := by decide +kernel
theorem zd74_66 : zop 74 66 = some (.iload 8, 2) := by decide +kernel
theorem zd74_68 : zop 74 68 = some (.ifCond .le 84, 3) := by decide +kernel
theorem zd74_71 : zop 74 71 = some (.bipush 24, 2) := by decide +kernel
theorem zd74_73 : zop 74 73 = some (.aload_n 1, 1) := by decide +kernel
theorem zd74_74 : zop 74 74 = some (.getfield 45, 3) := by decide +kernel
theorem zd74_77 : zop 74 77 = some (.iload_n 3, 1) := by decide +kernel
theorem zd74_78 : zop 74 78 = some (.iaload, 1) := by decide +kernel
theorem zd74_79 : zop 74 79 = some (.isub, 1) := by decide +kernel
theorem zd74_80 : zop 74 80 = some (.istore 11, 2) := by decide +kernel
theorem zd74_82 : zop 74 82 = some (.aload_n 0, 1) := by decide +kernel
theorem zd74_83 : zop 74 83 = some (.getfield 12, 3) := by decide +kernel
theorem zd74_86 : zop 74 86 = some (.aload_n 1, 1) := by decide +kernel
theorem zd74_87 : zop 74 87 = some (.iload_n 2, 1) := by decide +kernel
theorem zd74_88 : zop 74 88 = some (.iload 8, 2) := by decide +kernel
theorem zd74_90 : zop 74 90 = some (.aload_n 0, 1) := by decide +kernel
theorem zd74_91 : zop 74 91 = some (.getfield 51, 3) := by decide +kernel
theorem zd74_94 : zop 74 94 = some (.aload_n 1, 1) := by decide +kernel
theorem zd74_95 : zop 74 95 = some (.getfield 45, 3) := by decide +kernel
theorem zd74_98 : zop 74 98 = some (.iload_n 3, 1) := by decide +kernel
theorem zd74_99 : zop 74 99 = some (.iaload, 1) := by decide +kernel
theorem zd74_100 : zop 74 100 = some (.invokevirtual 55, 3) := by decide +kernel
theorem zd74_103 : zop 74 103 = some (.istore 12, 2) := by decide +kernel
theorem zd74_105 : zop 74 105 = some (.aload_n 0, 1) := by decide +kernel
theorem zd74_106 : zop 74 106 = some (.aload_n 1, 1) := by decide +kernel
theorem zd74_107 : zop 74 107 = some (.iload_n 2, 1) := by decide +kernel
theorem zd74_108 : zop 74 108 = some (.iload 8, 2) := by decide +kernel
theorem zd74_110 : zop 74 110 = some (.iload 12, 2) := by decide +kernel
theorem zd74_112 : zop 74 112 = some (.invokevirtual 59, 3) := by decide +kernel
theorem zd74_115 : zop 74 115 = some (.iload 11, 2) := by decide +kernel
theorem zd74_117 : zop 74 117 = some (.ineg, 1) := by decide +kernel
theorem zd74_118 : zop 74 118 = some (.invokestatic 63, 3) := by decide +kernel
theorem zd74_121 : zop 74 121 = some (.istore 13, 2) := by decide +kernel
theorem zd74_123 : zop 74 123 = some (.aload_n 0, 1) := by decide +kernel
theorem zd74_124 : zop 74 124 = some (.aload_n 1, 1) := by decide +kernel
theorem zd74_125 : zop 74 125 = some (.iload_n 2, 1) := by decide +kernel
theorem zd74_126 : zop 74 126 = some (.iload_n 3, 1) := by decide +kernel
theorem zd74_127 : zop 74 127 = some (.iload 13, 2) := by decide +kernel
theorem zd74_129 : zop 74 129 = some (.invokevirtual 68, 3) := by decide +kernel
theorem zd74_132 : zop 74 132 = some (.iload 9, 2) := by decide +kernel
theorem zd74_134 : zop 74 134 = some (.iload 13, 2) := by decide +kernel
theorem zd74_136 : zop 74 136 = some (.iadd, 1) := by decide +kernel
theorem zd74_137 : zop 74 137 = some (.istore 9, 2) := by decide +kernel
theorem zd74_139 : zop 74 139 = some (.iload 7, 2) := by decide +kernel
theorem zd74_141 : zop 74 141 = some (.iload 8, 2) := by decide +kernel
theorem zd74_143 : zop 74 143 = some (.iload 13, 2) := by decide +kernel
theorem zd74_145 : zop 74 145 = some (.isub, 1) := by decide +kernel
theorem zd74_146 : zop 74 146 = some (.iadd, 1) := by decide +kernel
theorem zd74_147 : zop 74 147 = some (.istore 7, 2) := by decide +kernel
theorem zd74_149 : zop 74 149 = some (.iconst 0, 1) := by decide +kernel
theorem zd74_150 : zop 74 150 = some (.istore 8, 2) := by decide +kernel
theorem zd74_152 : zop 74 152 = some (.iload 10, 2) := by decide +kernel
theorem zd74_154 : zop 74 154 = some (.iload 4, 2) := by decide +kernel
theorem zd74_156 : zop 74 156 = some (.if_icmp .ge 15, 3) := by decide +kernel
theorem zd74_159 : zop 74 159 = some (.iload 6, 2) := by decide +kernel
theorem zd74_161 : zop 74 161 = some (.iconst 1, 1) := by decide +kernel
theorem zd74_162 : zop 74 162 = some (.iload 7, 2) := by decide +kernel
theorem zd74_164 : zop 74 164 = some (.ishl, 1) := by decide +kernel
theorem zd74_165 : zop 74 165 = some (.ior, 1) := by decide +kernel
theorem zd74_166 : zop 74 166 = some (.istore 6, 2) := by decide +kernel
theorem zd74_168 : zop 74 168 = some (.iinc 7 1, 3) := by decide +kernel
theorem zd74_171 : zop 74 171 = some (.iinc 10 1, 3) := by decide +kernel
theorem zd74_174 : zop 74 174 = some (.goto (-138), 3) := by decide +kernel
theorem zd74_177 : zop 74 177 = some (.aload_n 1, 1) := by decide +kernel
theorem zd74_178 : zop 74 178 = some (.getfield 48, 3) := by decide +kernel
theorem zd74_181 : zop 74 181 = some (.iload_n 3, 1) := by decide +kernel
theorem zd74_182 : zop 74 182 = some (.iload 6, 2) := by decide +kernel
theorem zd74_184 : zop 74 184 = some (.iastore, 1) := by decide +kernel
theorem zd74_185 : zop 74 185 = some (.iload 9, 2) := by decide +kernel
theorem zd74_187 : zop 74 187 = some (.ireturn, 1) := by decide +kernel
theorem b74_0 {x : zXs} {F : zF} (hF : zSh F) {d : Nat} {V : Nat → Nat → Int32} {T : Nat → Nat → Int64} {Q : Option Value → zG → Prop} {l1 : Nat} {o2 : Option Value} {l3 : Int32} {o4 : Option Value} {o5 : Option Value} {o6 : Option Value} {o7 : Option Value} {o8 : Option Value} {o9 : Option Value} {o10 : Option Value} {o11 : Option Value} {o12 : Option Value} {o13 : Option Value} (hl1 : zSt l1) {i1 : Nat} (e1 : l3 = nI i1) (h1 : i1 < 4) {i2 : Nat} (e2 : l3 = nI i2) (h2 : i2 < 4) (k : E x F d 74 36 [some (.ref 19), some (.ref l1), o2, some (.int l3), some (.int (V (l1 + 1) i1)), some (.int (V (l1 + 2) i2)), some (.int (Int32.ofInt 0)), some (.int (Int32.ofInt 0)), some (.int (Int32.ofInt 0)), some (.int (Int32.ofInt 0)), some (.int (Int32.ofInt 0)), o11, o12, o13] [] (zu V 19 2 (Int32.ofInt 0), T) Q) : E x F d 74 0 [some (.ref 19), some (.ref l1), o2, some (.int l3), o4, o5, o6, o7, o8, o9, o10, o11, o12, o13] [] (V, T) Q := by
  refine e_aload_n zd74_0 rfl rfl ?_
  refine e_getA zd74_1 (own := 0) (ci := 4) (kf := 0) (w := 112) (by decide +kernel) (by decide +kernel) (zSt_s hF hl1).1 (by decide +kernel) rfl (zSt_f0 hF hl1) ?_
  refine e_iload_n zd74_4 rfl ?_
  refine e_iald zd74_5 (i := i1) (zSt_a0 hF hl1) e1 h1 (by omega) ?_
  refine e_istore zd74_6 (by decide +kernel) (Nat.le_of_ble_eq_true rfl) ?_
  refine e_aload_n zd74_8 rfl rfl ?_
  refine e_getA zd74_9 (own := 0) (ci := 4) (kf := 1) (w := 115) (by decide +kernel) (by decide +kernel) (zSt_s hF hl1).1 (by decide +kernel) rfl (zSt_f1 hF hl1) ?_
  refine e_iload_n zd74_12 rfl ?_
  refine e_iald zd74_13 (i := i2) (zSt_a1 hF hl1) e2 h2 (by omega) ?_
  refine e_istore zd74_14 (by decide +kernel) (Nat.le_of_ble_eq_true rfl) ?_
  refine e_iconst zd74_16 ?_
  refine e_istore zd74_17 (by decide +kernel) (Nat.le_of_ble_eq_true rfl) ?_
  refine e_iconst zd74_19 ?_
  refine e_istore zd74_20 (by decide +kernel) (Nat.le_of_ble_eq_true rfl) ?_
  refine e_iconst zd74_22 ?_
  refine e_istore zd74_23 (by decide +kernel) (Nat.le_of_ble_eq_true rfl) ?_
  refine e_iconst zd74_25 ?_
  refine e_istore zd74_26 (by decide +kernel) (Nat.le_of_ble_eq_true rfl) ?_
  refine e_aload_n zd74_28 rfl rfl ?_
  refine e_iconst zd74_29 ?_
  refine e_putI zd74_30 (own := 0) (ci := 0) (kf := 2) (w := 215) (by decide +kernel) (by decide +kernel) (zsh_at hF rfl).1 (by decide +kernel) rfl ?_
  refine e_iconst zd74_33 ?_
  refine e_istore zd74_34 (by decide +kernel) (Nat.le_of_ble_eq_true rfl) ?_
  exact k
theorem b74_36 {x : zXs} {F : zF} (hF : zSh F) {d : Nat} {V : Nat → Nat → Int32} {T : Nat → Nat → Int64} {Q : Option Value → zG → Prop} {o0 : Option Value} {o1 : Option Value} {o2 : Option Value} {o3 : Option Value} {l4 : Int32} {o5 : Option Value} {o6 : Option Value} {o7 : Option Value} {o8 : Option Value} {o9 : Option Value} {l10 : Int32} {o11 : Option Value} {o12 : Option Value} {o13 : Option Value}   (kt : l4 < l10 → E x F d 74 177 [o0, o1, o2, o3, some (.int l4), o5, o6, o7, o8, o9, some (.int l10), o11, o12, o13] [] (V, T) Q) (kf : ¬ (l4 < l10) → E x F d 74 43 [o0, o1, o2, o3, some (.int l4), o5, o6, o7, o8, o9, some (.int l10), o11, o12, o13] [] (V, T) Q) : E x F d 74 36 [o0, o1, o2, o3, some (.int l4), o5, o6, o7, o8, o9, some (.int l10), o11, o12, o13] [] (V, T) Q := by
  refine e_iload zd74_36 rfl ?_
  refine e_iload zd74_38 rfl ?_
  exact e_icmp_gt zd74_40 (tg := 177) rfl kt kf
theorem b74_43 {x : zXs} {F : zF} (hF : zSh F) {d : Nat} {V : Nat → Nat → Int32} {T : Nat → Nat → Int64} {Q : Option Value → zG → Prop} {o0 : Option Value} {o1 : Option Value} {o2 : Option Value} {o3 : Option Value} {l4 : Int32} {o5 : Option Value} {o6 : Option Value} {o7 : Option Value} {o8 : Option Value} {o9 : Option Value} {l10 : Int32} {o11 : Option Value} {o12 : Option Value} {o13 : Option Value}   (kt : l4 ≤ l10 → E x F d 74 66 [o0, o1, o2, o3, some (.int l4), o5, o6, o7, o8, o9, some (.int l10), o11, o12, o13] [] (V, T) Q) (kf : ¬ (l4 ≤ l10) → E x F d 74 50 [o0, o1, o2, o3, some (.int l4), o5, o6, o7, o8, o9, some (.int l10), o11, o12, o13] [] (V, T) Q) : E x F d 74 43 [o0, o1, o2, o3, some (.int l4), o5, o6, o7, o8, o9, some (.int l10), o11, o12, o13] [] (V, T) Q := by
  refine e_iload zd74_43 rfl ?_
  refine e_iload zd74_45 rfl ?_
  exact e_icmp_ge zd74_47 (tg := 66) rfl kt kf
theorem b74_50 {x : zXs} {F : zF} (hF : zSh F) {d : Nat} {V : Nat → Nat → Int32} {T : Nat → Nat → Int64} {Q : Option Value → zG → Prop} {o0 : Option Value} {o1 : Option Value} {o2 : Option Value} {o3 : Option Value} {o4 : Option Value} {l5 : Int32} {o6 : Option Value} {o7 : Option Value} {o8 : Option Value} {o9 : Option Value} {l10 : Int32} {o11 : Option Value} {o12 : Option Value} {o13 : Option Value}   (kt : ¬ ((l5 >>> (l10 &&& 31)) &&& (Int32.ofInt 1)) = 0 → E x F d 74 66 [o0, o1, o2, o3, o4, some (.int l5), o6, o7, o8, o9, some (.int l10), o11, o12, o13] [] (V, T) Q) (kf : ¬ (¬ ((l5 >>> (l10 &&& 31)) &&& (Int32.ofInt 1)) = 0) → E x F d 74 60 [o0, o1, o2, o3, o4, some (.int l5), o6, o7, o8, o9, some (.int l10), o11, o12, o13] [] (V, T) Q) : E x F d 74 50 [o0, o1, o2, o3, o4, some (.int l5), o6, o7, o8, o9, some (.int l10), o11, o12, o13] [] (V, T) Q := by
  refine e_iload zd74_50 rfl ?_
  refine e_iload zd74_52 rfl ?_
  refine e_ishr zd74_54 ?_
  refine e_iconst zd74_55 ?_
  refine e_iand zd74_56 ?_
  exact e_if_ne zd74_57 (tg := 66) rfl kt kf
theorem b74_60 {x : zXs} {F : zF} (hF : zSh F) {d : Nat} {V : Nat → Nat → Int32} {T : Nat → Nat → Int64} {Q : Option Value → zG → Prop} {o0 : Option Value} {o1 : Option Value} {o2 : Option Value} {o3 : Option Value} {o4 : Option Value} {o5 : Option Value} {o6 : Option Value} {o7 : Option Value} {l8 : Int32} {o9 : Option Value} {o10 : Option Value} {o11 : Option Value} {o12 : Option Value} {o13 : Option Value}   (k : E x F d 74 171 [o0, o1, o2, o3, o4, o5, o6, o7, some (.int (l8 + Int32.ofInt 1)), o9, o10, o11, o12, o13] [] (V, T) Q) : E x F d 74 60 [o0, o1, o2, o3, o4, o5, o6, o7, some (.int l8), o9, o10, o11, o12, o13] [] (V, T) Q := by
  refine e_iinc zd74_60 rfl (by decide +kernel) ?_
  exact e_goto zd74_63 (tg := 171) rfl k
theorem b74_66 {x : zXs} {F : zF} (hF : zSh F) {d : Nat} {V : Nat → Nat → Int32} {T : Nat → Nat → Int64} {Q : Option Value → zG → Prop} {o0 : Option Value} {o1 : Option Value} {o2 : Option Value} {o3 : Option Value} {o4 : Option Value} {o5 : Option Value} {o6 : Option Value} {o7 : Option Value} {l8 : Int32} {o9 : Option Value} {o10 : Option Value} {o11 : Option Value} {o12 : Option Value} {o13 : Option Value}   (kt : l8 ≤ 0 → E x F d 74 152 [o0, o1, o2, o3, o4, o5, o6, o7, some (.int l8), o9, o10, o11, o12, o13] [] (V, T) Q) (kf : ¬ (l8 ≤ 0) → E x F d 74 71 [o0, o1, o2, o3, o4, o5, o6, o7, some (.int l8), o9, o10, o11, o12, o13] [] (V, T) Q) : E x F d 74 66 [o0, o1, o2, o3, o4, o5, o6, o7, some (.int l8), o9, o10, o11, o12, o13] [] (V, T) Q := by
  refine e_iload zd74_66 rfl ?_
  exact e_if_le zd74_68 (tg := 152) rfl kt kf
theorem b74_71 {x : zXs} {F : zF} (hF : zSh F) {d : Nat} {V : Nat → Nat → Int32} {T : Nat → Nat → Int64} {Q : Option Value → zG → Prop} {l1 : Nat} {l2 : Int32} {l3 : Int32} {o4 : Option Value} {o5 : Option Value} {o6 : Option Value} {o7 : Option Value} {l8 : Int32} {o9 : Option Value} {o10 : Option Value} {o11 : Option Value} {o12 : Option Value} {o13 : Option Value} (hl1 : zSt l1) {i1 : Nat} (e1 : l3 = nI i1) (h1 : i1 < 4) {i2 : Nat} (e2 : l3 = nI i2) (h2 : i2 < 4) (k : E x F d 38 0 [some (.ref 20), some (.ref l1), some (.int l2), some (.int l8), some (.int (V 19 2)), some (.int (V (l1 + 1) i2))] [] (V, T) (fun r G' => E x F (d + 1) 74 103 [some (.ref 19), some (.ref l1), some (.int l2), some (.int l3), o4, o5, o6, o7, some (.int l8), o9, o10, some (.int ((Int32.ofInt 24) - (V (l1 + 1) i1))), o12, o13] (r.toList ++ []) G' Q)) : E x F (d + 1) 74 71 [some (.ref 19), some (.ref l1), some (.int l2), some (.int l3), o4, o5, o6, o7, some (.int l8), o9, o10, o11, o12, o13] [] (V, T) Q := by
  refine e_bipush zd74_71 (v := Int32.ofInt 24) (by decide +kernel) ?_
  refine e_aload_n zd74_73 rfl rfl ?_
  refine e_getA zd74_74 (own := 0) (ci := 4) (kf := 0) (w := 112) (by decide +kernel) (by decide +kernel) (zSt_s hF hl1).1 (by decide +kernel) rfl (zSt_f0 hF hl1) ?_
  refine e_iload_n zd74_77 rfl ?_
  refine e_iald zd74_78 (i := i1) (zSt_a0 hF hl1) e1 h1 (by omega) ?_
  refine e_isub zd74_79 ?_
  refine e_istore zd74_80 (by decide +kernel) (Nat.le_of_ble_eq_true rfl) ?_
  refine e_aload_n zd74_82 rfl rfl ?_
  refine e_getO zd74_83 (own := 0) (ci := 0) (kf := 0) (w := 211) (by decide +kernel) (by decide +kernel) (zsh_at hF rfl).1 (by decide +kernel) rfl (zrf_at hF (i := 23) rfl) ?_
  refine e_aload_n zd74_86 rfl rfl ?_
  refine e_iload_n zd74_87 rfl ?_
  refine e_iload zd74_88 rfl ?_
  refine e_aload_n zd74_90 rfl rfl ?_
  refine e_getI zd74_91 (own := 0) (ci := 0) (kf := 2) (w := 215) (by decide +kernel) (by decide +kernel) (zsh_at hF rfl).1 (by decide +kernel) rfl ?_
  refine e_aload_n zd74_94 rfl rfl ?_
  refine e_getA zd74_95 (own := 0) (ci := 4) (kf := 0) (w := 112) (by decide +kernel) (by decide +kernel) (zSt_s hF hl1).1 (by decide +kernel) rfl (zSt_f0 hF hl1) ?_
  refine e_iload_n zd74_98 rfl ?_
  refine e_iald zd74_99 (i := i2) (zSt_a0 hF hl1) e2 h2 (by omega) ?_
  exact e_callV zd74_100 (own := 0) (nest := false) (w := 622) (by decide +kernel) (by decide +kernel) zs38 (as := [.ref l1, .int l2, .int l8, .int (V 19 2), .int (V (l1 + 1) i2)]) (rest := []) rfl rfl (zsh_at hF rfl).1 (by omega) (Nat.le_of_ble_eq_true rfl) rfl rfl rfl (by omega) k
theorem b74_103 {x : zXs} {F : zF} (hF : zSh F) {d : Nat} {V : Nat → Nat → Int32} {T : Nat → Nat → Int64} {Q : Option Value → zG → Prop} {l1 : Nat} {l2 : Int32} {o3 : Option Value} {o4 : Option Value} {o5 : Option Value} {o6 : Option Value} {o7 : Option Value} {l8 : Int32} {o9 : Option Value} {o10 : Option Value} {o11 : Option Value} {o12 : Option Value} {o13 : Option Value} {s0 : Int32} (hl1 : zSt l1)  (k : E x F d 39 0 [some (.ref 19), some (.ref l1), some (.int l2), some (.int l8), some (.int s0), none] [] (V, T) (fun r G' => E x F (d + 1) 74 115 [some (.ref 19), some (.ref l1), some (.int l2), o3, o4, o5, o6, o7, some (.int l8), o9, o10, o11, some (.int s0), o13] (r.toList ++ []) G' Q)) : E x F (d + 1) 74 103 [some (.ref 19), some (.ref l1), some (.int l2), o3, o4, o5, o6, o7, some (.int l8), o9, o10, o11, o12, o13] [.int s0] (V, T) Q := by
  refine e_istore zd74_103 (by decide +kernel) (Nat.le_of_ble_eq_true rfl) ?_
  refine e_aload_n zd74_105 rfl rfl ?_
  refine e_aload_n zd74_106 rfl rfl ?_
  refine e_iload_n zd74_107 rfl ?_
  refine e_iload zd74_108 rfl ?_
  refine e_iload zd74_110 rfl ?_
  exact e_callV zd74_112 (own := 0) (nest := false) (w := 623) (by decide +kernel) (by decide +kernel) zs39 (as := [.ref l1, .int l2, .int l8, .int s0]) (rest := []) rfl rfl (zsh_at hF rfl).1 (by omega) (Nat.le_of_ble_eq_true rfl) rfl rfl rfl (by omega) k
theorem b74_115 {x : zXs} {F : zF} (hF : zSh F) {d : Nat} {V : Nat → Nat → Int32} {T : Nat → Nat → Int64} {Q : Option Value → zG → Prop} {l1 : Nat} {l2 : Int32} {l3 : Int32} {o4 : Option Value} {o5 : Option Value} {o6 : Option Value} {o7 : Option Value} {o8 : Option Value} {o9 : Option Value} {o10 : Option Value} {l11 : Int32} {o12 : Option Value} {o13 : Option Value} {s0 : Int32} (hl1 : zSt l1)  (k : E x F d 75 0 [some (.ref 19), some (.ref l1), some (.int l2), some (.int l3), some (.int (if s0 < (-l11) then (-l11) else s0))] [] (V, T) (fun r G' => E x F (d + 1) 74 132 [some (.ref 19), some (.ref l1), some (.int l2), some (.int l3), o4, o5, o6, o7, o8, o9, o10, some (.int l11), o12, some (.int (if s0 < (-l11) then (-l11) else s0))] (r.toList ++ []) G' Q)) : E x F (d + 1) 74 115 [some (.ref 19), some (.ref l1), some (.int l2), some (.int l3), o4, o5, o6, o7, o8, o9, o10, some (.int l11), o12, o13] [.int s0] (V, T) Q := by
  refine e_iload zd74_115 rfl ?_
  refine e_ineg zd74_117 ?_
  refine e_max zd74_118 (own := 0) (w := 624) (by decide +kernel) (by decide +kernel) (by decide +kernel) (Nat.le_of_ble_eq_true rfl) ?_
  refine e_istore zd74_121 (by decide +kernel) (Nat.le_of_ble_eq_true rfl) ?_
  refine e_aload_n zd74_123 rfl rfl ?_
  refine e_aload_n zd74_124 rfl rfl ?_
  refine e_iload_n zd74_125 rfl ?_
  refine e_iload_n zd74_126 rfl ?_
  refine e_iload zd74_127 rfl ?_
  exact e_callV zd74_129 (own := 0) (nest := false) (w := 625) (by decide +kernel) (by decide +kernel) zs75 (as := [.ref l1, .int l2, .int l3, .int (if s0 < (-l11) then (-l11) else s0)]) (rest := []) rfl rfl (zsh_at hF rfl).1 (by omega) (Nat.le_of_ble_eq_true rfl) rfl rfl rfl (by omega) k
theorem b74_132 {x : zXs} {F : zF} (hF : zSh F) {d : Nat} {V : Nat → Nat → Int32} {T : Nat → Nat → Int64} {Q : Option Value → zG → Prop} {o0 : Option Value} {o1 : Option Value} {o2 : Option Value} {o3 : Option Value} {o4 : Option Value} {o5 : Option Value} {o6 : Option Value} {l7 : Int32} {l8 : Int32} {l9 : Int32} {o10 : Option Value} {o11 : Option Value} {o12 : Option Value} {l13 : Int32}   (k : E x F d 74 152 [o0, o1, o2, o3, o4, o5, o6, some (.int (l7 + (l8 - l13))), some (.int (Int32.ofInt 0)), some (.int (l9 + l13)), o10, o11, o12, some (.int l13)] [] (V, T) Q) : E x F d 74 132 [o0, o1, o2, o3, o4, o5, o6, some (.int l7), some (.int l8), some (.int l9), o10, o11, o12, some (.int l13)] [] (V, T) Q := by
  refine e_iload zd74_132 rfl ?_
  refine e_iload zd74_134 rfl ?_
  refine e_iadd zd74_136 ?_
  refine e_istore zd74_137 (by decide +kernel) (Nat.le_of_ble_eq_true rfl) ?_
  refine e_iload zd74_139 rfl ?_
  refine e_iload zd74_141 rfl ?_
  refine e_iload zd74_143 rfl ?_
  refine e_isub zd74_145 ?_
  refine e_iadd zd74_146 ?_
  refine e_istore zd74_147 (by decide +kernel) (Nat.le_of_ble_eq_true rfl) ?_
  refine e_iconst zd74_149 ?_
  refine e_istore zd74_150 (by decide +kernel) (Nat.le_of_ble_eq_true rfl) ?_
  exact k
theorem b74_152 {x : zXs} {F : zF} (hF : zSh F) {d : Nat} {V : Nat → Nat → Int32} {T : Nat → Nat → Int64} {Q : Option Value → zG → Prop} {o0 : Option Value} {o1 : Option Value} {o2 : Option Value} {o3 : Option Value} {l4 : Int32} {o5 : Option Value} {o6 : Option Value} {o7 : Option Value} {o8 : Option Value} {o9 : Option Value} {l10 : Int32} {o11 : Option Value} {o12 : Option Value} {o13 : Option Value}   (kt : l4 ≤ l10 → E x F d 74 171 [o0, o1, o2, o3, some (.int l4), o5, o6, o7, o8, o9, some (.int l10), o11, o12, o13] [] (V, T) Q) (kf : ¬ (l4 ≤ l10) → E x F d 74 159 [o0, o1, o2, o3, some (.int l4), o5, o6, o7, o8, o9, some (.int l10), o11, o12, o13] [] (V, T) Q) : E x F d 74 152 [o0, o1, o2, o3, some (.int l4), o5, o6, o7, o8, o9, some (.int l10), o11, o12, o13] [] (V, T) Q := by
  refine e_iload zd74_152 rfl ?_
  refine e_iload zd74_154 rfl ?_
  exact e_icmp_ge zd74_156 (tg := 171) rfl kt kf
theorem b74_159 {x : zXs} {F : zF} (hF : zSh F) {d : Nat} {V : Nat → Nat → Int32} {T : Nat → Nat → Int64} {Q : Option Value → zG → Prop} {o0 : Option Value} {o1 : Option Value} {o2 : Option Value} {o3 : Option Value} {o4 : Option Value} {o5 : Option Value} {l6 : Int32} {l7 : Int32} {o8 : Option Value} {o9 : Option Value} {o10 : Option Value} {o11 : Option Value} {o12 : Option Value} {o13 : Option Value}   (k : E x F d 74 171 [o0, o1, o2, o3, o4, o5, some (.int (l6 ||| ((Int32.ofInt 1) <<< (l7 &&& 31)))), some (.int (l7 + Int32.ofInt 1)), o8, o9, o10, o11, o12, o13] [] (V, T) Q) : E x F d 74 159 [o0, o1, o2, o3, o4, o5, some (.int l6), some (.int l7), o8, o9, o10, o11, o12, o13] [] (V, T) Q := by
  refine e_iload zd74_159 rfl ?_
  refine e_iconst zd74_161 ?_
  refine e_iload zd74_162 rfl ?_
  refine e_ishl zd74_164 ?_
  refine e_ior zd74_165 ?_
  refine e_istore zd74_166 (by decide +kernel) (Nat.le_of_ble_eq_true rfl) ?_
  refine e_iinc zd74_168 rfl (by decide +kernel) ?_
  exact k
theorem b74_171 {x : zXs} {F : zF} (hF : zSh F) {d : Nat} {V : Nat → Nat → Int32} {T : Nat → Nat → Int64} {Q : Option Value → zG → Prop} {o0 : Option Value} {o1 : Option Value} {o2 : Option Value} {o3 : Option Value} {o4 : Option Value} {o5 : Option Value} {o6 : Option Value} {o7 : Option Value} {o8 : Option Value} {o9 : Option Value} {l10 : Int32} {o11 : Option Value} {o12 : Option Value} {o13 : Option Value}   (k : E x F d 74 36 [o0, o1, o2, o3, o4, o5, o6, o7, o8, o9, some (.int (l10 + Int32.ofInt 1)), o11, o12, o13] [] (V, T) Q) : E x F d 74 171 [o0, o1, o2, o3, o4, o5, o6, o7, o8, o9, some (.int l10), o11, o12, o13] [] (V, T) Q := by
  refine e_iinc zd74_171 rfl (by decide +kernel) ?_
  exact e_goto zd74_174 (tg := 36) rfl k
theorem b74_177 {x : zXs} {F : zF} (hF : zSh F) {d : Nat} {V : Nat → Nat → Int32} {T : Nat → Nat → Int64} {Q : Option Value → zG → Prop} {o0 : Option Value} {l1 : Nat} {o2 : Option Value} {l3 : Int32} {o4 : Option Value} {o5 : Option Value} {l6 : Int32} {o7 : Option Value} {o8 : Option Value} {l9 : Int32} {o10 : Option Value} {o11 : Option Value} {o12 : Option Value} {o13 : Option Value} (hl1 : zSt l1) {i1 : Nat} (e1 : l3 = nI i1) (h1 : i1 < 4) (k : Q (some (.int l9)) (zu V (l1 + 2) i1 l6, T)) : E x F d 74 177 [o0, some (.ref l1), o2, some (.int l3), o4, o5, some (.int l6), o7, o8, some (.int l9), o10, o11, o12, o13] [] (V, T) Q := by
  refine e_aload_n zd74_177 rfl rfl ?_
  refine e_getA zd74_178 (own := 0) (ci := 4) (kf := 1) (w := 115) (by decide +kernel) (by decide +kernel) (zSt_s hF hl1).1 (by decide +kernel) rfl (zSt_f1 hF hl1) ?_
  refine e_iload_n zd74_181 rfl ?_
  refine e_iload zd74_182 rfl ?_
  refine e_iast zd74_184 (i := i1) (zSt_a1 hF hl1) e1 h1 (by omega) ?_
  refine e_iload zd74_185 rfl ?_
  exact e_ireti zd74_187 zs74 k
theorem zd75_0 : zop 75 0 = some (.aload_n 1, 1) := by decide +kernel
theorem zd75_1 : zop 75 1 = some (.getfield 45, 3) := by decide +kernel
theorem zd75_4 : zop 75 4 = some (.iload_n 3, 1) := by decide +kernel
theorem zd75_5 : zop 75 5 = some (.dup2, 1) := by decide +kernel
theorem zd75_6 : zop 75 6 = some (.iaload, 1) := by decide +kernel
theorem zd75_7 : zop 75 7 = some (.iload 4, 2) := by decide +kernel
theorem zd75_9 : zop 75 9 = some (.isub, 1) := by decide +kernel
theorem zd75_10 : zop 75 10 = some (.iastore, 1) := by decide +kernel
theorem zd75_11 : zop 75 11 = some (.aload_n 1, 1) := by decide +kernel
theorem zd75_12 : zop 75 12 = some (.getfield 38, 3) := by decide +kernel
theorem zd75_15 : zop 75 15 = some (.iload_n 2, 1) := by decide +kernel
theorem zd75_16 : zop 75 16 = some (.aload_n 1, 1) := by decide +kernel
theorem zd75_17 : zop 75 17 = some (.getfield 38, 3) := by decide +kernel
theorem zd75_20 : zop 75 20 = some (.iload_n 2, 1) := by decide +kernel
theorem zd75_21 : zop 75 21 = some (.iaload, 1) := by decide +kernel
theorem zd75_22 : zop 75 22 = some (.iload 4, 2) := by decide +kernel
theorem zd75_24 : zop 75 24 = some (.iadd, 1) := by decide +kernel
theorem zd75_25 : zop 75 25 = some (.iconst 0, 1) := by decide +kernel
theorem zd75_26 : zop 75 26 = some (.sipush 999, 3) := by decide +kernel
theorem zd75_29 : zop 75 29 = some (.invokestatic 34, 3) := by decide +kernel
theorem zd75_32 : zop 75 32 = some (.iastore, 1) := by decide +kernel
theorem zd75_33 : zop 75 33 = some (.aload_n 0, 1) := by decide +kernel
theorem zd75_34 : zop 75 34 = some (.getfield 51, 3) := by decide +kernel
theorem zd75_37 : zop 75 37 = some (.bipush 12, 2) := by decide +kernel
theorem zd75_39 : zop 75 39 = some (.if_icmp .ge 24, 3) := by decide +kernel
theorem zd75_42 : zop 75 42 = some (.aload_n 0, 1) := by decide +kernel
theorem zd75_43 : zop 75 43 = some (.getfield 18, 3) := by decide +kernel
theorem zd75_46 : zop 75 46 = some (.aload_n 0, 1) := by decide +kernel
theorem zd75_47 : zop 75 47 = some (.getfield 51, 3) := by decide +kernel
theorem zd75_50 : zop 75 50 = some (.iload 4, 2) := by decide +kernel
theorem zd75_52 : zop 75 52 = some (.iastore, 1) := by decide +kernel
theorem zd75_53 : zop 75 53 = some (.aload_n 0, 1) := by decide +kernel
theorem zd75_54 : zop 75 54 = some (.dup, 1) := by decide +kernel
theorem zd75_55 : zop 75 55 = some (.getfield 51, 3) := by decide +kernel
theorem zd75_58 : zop 75 58 = some (.iconst 1, 1) := by decide +kernel
theorem zd75_59 : zop 75 59 = some (.iadd, 1) := by decide +kernel
theorem zd75_60 : zop 75 60 = some (.putfield 51, 3) := by decide +kernel
theorem zd75_63 : zop 75 63 = some (.return_, 1) := by decide +kernel
theorem b75_0 {x : zXs} {F : zF} (hF : zSh F) {d : Nat} {V : Nat → Nat → Int32} {T : Nat → Nat → Int64} {Q : Option Value → zG → Prop} {o0 : Option Value} {l1 : Nat} {l2 : Int32} {l3 : Int32} {l4 : Int32} (hl1 : zSt l1) {i1 : Nat} (e1 : l3 = nI i1) (h1 : i1 < 4) {i2 : Nat} (e2 : l3 = nI i2) (h2 : i2 < 4) {i3 : Nat} (e3 : l2 = nI i3) (h3 : i3 < 5) (k : E x F d 30 0 [some (.int (((zu V (l1 + 1) i2 ((V (l1 + 1) i1) - l4)) (l1 + 5) i3) + l4)), some (.int (Int32.ofInt 0)), some (.int (Int32.ofInt 999))] [] (zu V (l1 + 1) i2 ((V (l1 + 1) i1) - l4), T) (fun r G' => E x F (d + 1) 75 32 [o0, some (.ref l1), some (.int l2), some (.int l3), some (.int l4)] (r.toList ++ [.int l2, .ref (l1 + 5)]) G' Q)) : E x F (d + 1) 75 0 [o0, some (.ref l1), some (.int l2), some (.int l3), some (.int l4)] [] (V, T) Q := by
  refine e_aload_n zd75_0 rfl rfl ?_
  refine e_getA zd75_1 (own := 0) (ci := 4) (kf := 0) (w := 112) (by decide +kernel) (by decide +kernel) (zSt_s hF hl1).1 (by decide +kernel) rfl (zSt_f0 hF hl1) ?_
  refine e_iload_n zd75_4 rfl ?_
  refine e_dup2 zd75_5 ⟨rfl, rfl⟩ ?_
  refine e_iald zd75_6 (i := i1) (zSt_a0 hF hl1) e1 h1 (by omega) ?_
  refine e_iload zd75_7 rfl ?_
  refine e_isub zd75_9 ?_
  refine e_iast zd75_10 (i := i2) (zSt_a0 hF hl1) e2 h2 (by omega) ?_
  refine e_aload_n zd75_11 rfl rfl ?_
  refine e_getA zd75_12 (own := 0) (ci := 4) (kf := 4) (w := 124) (by decide +kernel) (by decide +kernel) (zSt_s hF hl1).1 (by decide +kernel) rfl (zSt_f4 hF hl1) ?_
  refine e_iload_n zd75_15 rfl ?_
  refine e_aload_n zd75_16 rfl rfl ?_
  refine e_getA zd75_17 (own := 0) (ci := 4) (kf := 4) (w := 124) (by decide +kernel) (by decide +kernel) (zSt_s hF hl1).1 (by decide +kernel) rfl (zSt_f4 hF hl1) ?_
  refine e_iload_n zd75_20 rfl ?_
  refine e_iald zd75_21 (i := i3) (zSt_a4 hF hl1) e3 h3 (by omega) ?_
  refine e_iload zd75_22 rfl ?_
  refine e_iadd zd75_24 ?_
  refine e_iconst zd75_25 ?_
  refine e_sipush zd75_26 (v := Int32.ofInt 999) (by decide +kernel) ?_
  exact e_callS zd75_29 (own := 0) (nest := true) (w := 406) (by decide +kernel) (by decide +kernel) zs30 (as := [.int (((zu V (l1 + 1) i2 ((V (l1 + 1) i1) - l4)) (l1 + 5) i3) + l4), .int (Int32.ofInt 0), .int (Int32.ofInt 999)]) (rest := [.int l2, .ref (l1 + 5)]) rfl rfl (Nat.le_of_ble_eq_true rfl) rfl rfl rfl (by omega) k
theorem b75_32 {x : zXs} {F : zF} (hF : zSh F) {d : Nat} {V : Nat → Nat → Int32} {T : Nat → Nat → Int64} {Q : Option Value → zG → Prop} {o1 : Option Value} {o2 : Option Value} {o3 : Option Value} {o4 : Option Value} {s0 : Nat} {ns0 : Nat} {s1 : Int32} {s2 : Int32} (hs0 : zsh F s0 = 100 ∧ zln F s0 = ns0) (qns0 : ns0 < 2 ^ 31) {i1 : Nat} (e1 : s1 = nI i1) (h1 : i1 < ns0) (kt : (Int32.ofInt 12) ≤ ((zu V s0 i1 s2) 19 2) → E x F d 75 63 [some (.ref 19), o1, o2, o3, o4] [] (zu V s0 i1 s2, T) Q) (kf : ¬ ((Int32.ofInt 12) ≤ ((zu V s0 i1 s2) 19 2)) → E x F d 75 42 [some (.ref 19), o1, o2, o3, o4] [] (zu V s0 i1 s2, T) Q) : E x F d 75 32 [some (.ref 19), o1, o2, o3, o4] [.int s2, .int s1, .ref s0] (V, T) Q := by
  refine e_iast zd75_32 (i := i1) (hs0) e1 h1 qns0 ?_
  refine e_aload_n zd75_33 rfl rfl ?_
  refine e_getI zd75_34 (own := 0) (ci := 0) (kf := 2) (w := 215) (by decide +kernel) (by decide +kernel) (zsh_at hF rfl).1 (by decide +kernel) rfl ?_
  refine e_bipush zd75_37 (v := Int32.ofInt 12) (by decide +kernel) ?_
  exact e_icmp_ge zd75_39 (tg := 63) rfl kt kf
theorem b75_42 {x : zXs} {F : zF} (hF : zSh F) {d : Nat} {V : Nat → Nat → Int32} {T : Nat → Nat → Int64} {Q : Option Value → zG → Prop} {o1 : Option Value} {o2 : Option Value} {o3 : Option Value} {l4 : Int32}  {i1 : Nat} (e1 : V 19 2 = nI i1) (h1 : i1 < 12) (k : E x F d 75 63 [some (.ref 19), o1, o2, o3, some (.int l4)] [] (zu (zu V 42 i1 l4) 19 2 (((zu V 42 i1 l4) 19 2) + (Int32.ofInt 1)), T) Q) : E x F d 75 42 [some (.ref 19), o1, o2, o3, some (.int l4)] [] (V, T) Q := by
  refine e_aload_n zd75_42 rfl rfl ?_
  refine e_getA zd75_43 (own := 0) (ci := 0) (kf := 1) (w := 213) (by decide +kernel) (by decide +kernel) (zsh_at hF rfl).1 (by decide +kernel) rfl (zrf_at hF (i := 24) rfl) ?_
  refine e_aload_n zd75_46 rfl rfl ?_
  refine e_getI zd75_47 (own := 0) (ci := 0) (kf := 2) (w := 215) (by decide +kernel) (by decide +kernel) (zsh_at hF rfl).1 (by decide +kernel) rfl ?_
  refine e_iload zd75_50 rfl ?_
  refine e_iast zd75_52 (i := i1) (zsh_at hF rfl) e1 h1 (by omega) ?_
  refine e_aload_n zd75_53 rfl rfl ?_
  refine e_dup zd75_54 rfl ?_
  refine e_getI zd75_55 (own := 0) (ci := 0) (kf := 2) (w := 215) (by decide +kernel) (by decide +kernel) (zsh_at hF rfl).1 (by decide +kernel) rfl ?_
  refine e_iconst zd75_58 ?_
  refine e_iadd zd75_59 ?_
  refine e_putI zd75_60 (own := 0) (ci := 0) (kf := 2) (w := 215) (by decide +kernel) (by decide +kernel) (zsh_at hF rfl).1 (by decide +kernel) rfl ?_
  exact k
theorem b75_63 {x : zXs} {F : zF} (hF : zSh F) {d : Nat} {V : Nat → Nat → Int32} {T : Nat → Nat → Int64} {Q : Option Value → zG → Prop} {o0 : Option Value} {o1 : Option Value} {o2 : Option Value} {o3 : Option Value} {o4 : Option Value}   (k : Q none (V, T)) : E x F d 75 63 [o0, o1, o2, o3, o4] [] (V, T) Q := by
  exact e_vret zd75_63 zs75 k
theorem zd76_0 : zop 76 0 = some (.aload_n 0, 1) := by decide +kernel
theorem zd76_1 : zop 76 1 = some (.getfield 10, 3) := by decide +kernel
theorem zd76_4 : zop 76 4 = some (.iload_n 1, 1) := by decide +kernel
theorem zd76_5 : zop 76 5 = some (.invokevirtual 55, 3) := by decide +kernel
theorem zd76_8 : zop 76 8 = some (.ifCond .eq 21, 3) := by decide +kernel
theorem zd76_11 : zop 76 11 = some (.aload_n 0, 1) := by decide +kernel
theorem zd76_12 : zop 76 12 = some (.getfield 37, 3) := by decide +kernel
theorem zd76_15 : zop 76 15 = some (.iload_n 2, 1) := by decide +kernel
theorem zd76_16 : zop 76 16 = some (.aload_n 0, 1) := by decide +kernel
theorem zd76_17 : zop 76 17 = some (.getfield 10, 3) := by decide +kernel
theorem zd76_20 : zop 76 20 = some (.getfield 160, 3) := by decide +kernel
theorem zd76_23 : zop 76 23 = some (.invokevirtual 163, 3) := by decide +kernel
theorem zd76_26 : zop 76 26 = some (.ifCond .ne 6, 3) := by decide +kernel
theorem zd76_29 : zop 76 29 = some (.bipush (-2), 2) := by decide +kernel
theorem zd76_31 : zop 76 31 = some (.ireturn, 1) := by decide +kernel
theorem zd76_32 : zop 76 32 = some (.aload_n 0, 1) := by decide +kernel
theorem zd76_33 : zop 76 33 = some (.getfield 25, 3) := by decide +kernel
theorem zd76_36 : zop 76 36 = some (.aload_n 0, 1) := by decide +kernel
theorem zd76_37 : zop 76 37 = some (.getfield 10, 3) := by decide +kernel
theorem zd76_40 : zop 76 40 = some (.iload_n 1, 1) := by decide +kernel
theorem zd76_41 : zop 76 41 = some (.aload_n 0, 1) := by decide +kernel
theorem zd76_42 : zop 76 42 = some (.getfield 37, 3) := by decide +kernel
theorem zd76_45 : zop 76 45 = some (.iconst (-1), 1) := by decide +kernel
theorem zd76_46 : zop 76 46 = some (.invokevirtual 167, 3) := by decide +kernel
theorem zd76_49 : zop 76 49 = some (.pop, 1) := by decide +kernel
theorem zd76_50 : zop 76 50 = some (.aload_n 0, 1) := by decide +kernel
theorem zd76_51 : zop 76 51 = some (.getfield 10, 3) := by decide +kernel
theorem zd76_54 : zop 76 54 = some (.iload_n 1, 1) := by decide +kernel
theorem zd76_55 : zop 76 55 = some (.invokevirtual 70, 3) := by decide +kernel
theorem zd76_58 : zop 76 58 = some (.ireturn, 1) := by decide +kernel
theorem b76_0 {x : zXs} {F : zF} (hF : zSh F) {d : Nat} {V : Nat → Nat → Int32} {T : Nat → Nat → Int64} {Q : Option Value → zG → Prop} {l1 : Int32} {o2 : Option Value}   (k : E x F d 12 0 [some (.ref 1), some (.int l1)] [] (V, T) (fun r G' => E x F (d + 1) 76 8 [some (.ref 0), some (.int l1), o2] (r.toList ++ []) G' Q)) : E x F (d + 1) 76 0 [some (.ref 0), some (.int l1), o2] [] (V, T) Q := by
  refine e_aload_n zd76_0 rfl rfl ?_
  refine e_getO zd76_1 (own := 7) (ci := 7) (kf := 0) (w := 297) (by decide +kernel) (by decide +kernel) (zsh_at hF rfl).1 (by decide +kernel) rfl (zrf_at hF (i := 0) rfl) ?_
  refine e_iload_n zd76_4 rfl ?_
  exact e_callV zd76_5 (own := 7) (nest := false) (w := 329) (by decide +kernel) (by decide +kernel) zs12 (as := [.int l1]) (rest := []) rfl rfl (zsh_at hF rfl).1 (by omega) (Nat.le_of_ble_eq_true rfl) rfl rfl rfl (by omega) k
theorem b76_8 {x : zXs} {F : zF} (hF : zSh F) {d : Nat} {V : Nat → Nat → Int32} {T : Nat → Nat → Int64} {Q : Option Value → zG → Prop} {o0 : Option Value} {o1 : Option Value} {o2 : Option Value} {s0 : Int32}   (kt : s0 = 0 → E x F d 76 29 [o0, o1, o2] [] (V, T) Q) (kf : ¬ (s0 = 0) → E x F d 76 11 [o0, o1, o2] [] (V, T) Q) : E x F d 76 8 [o0, o1, o2] [.int s0] (V, T) Q := by
  exact e_if_eq zd76_8 (tg := 29) rfl kt kf
theorem b76_11 {x : zXs} {F : zF} (hF : zSh F) {d : Nat} {V : Nat → Nat → Int32} {T : Nat → Nat → Int64} {Q : Option Value → zG → Prop} {o1 : Option Value} {l2 : Int32}   (k : E x F d 77 0 [some (.ref 43), some (.int l2), some (.int (V 1 5)), none, none, none, none] [] (V, T) (fun r G' => E x F (d + 1) 76 26 [some (.ref 0), o1, some (.int l2)] (r.toList ++ []) G' Q)) : E x F (d + 1) 76 11 [some (.ref 0), o1, some (.int l2)] [] (V, T) Q := by
  refine e_aload_n zd76_11 rfl rfl ?_
  refine e_getO zd76_12 (own := 7) (ci := 7) (kf := 5) (w := 302) (by decide +kernel) (by decide +kernel) (zsh_at hF rfl).1 (by decide +kernel) rfl (zrf_at hF (i := 5) rfl) ?_
  refine e_iload_n zd76_15 rfl ?_
  refine e_aload_n zd76_16 rfl rfl ?_
  refine e_getO zd76_17 (own := 7) (ci := 7) (kf := 0) (w := 297) (by decide +kernel) (by decide +kernel) (zsh_at hF rfl).1 (by decide +kernel) rfl (zrf_at hF (i := 0) rfl) ?_
  refine e_getI zd76_20 (own := 7) (ci := 4) (kf := 5) (w := 129) (by decide +kernel) (by decide +kernel) (zsh_at hF rfl).1 (by decide +kernel) rfl ?_
  exact e_callV zd76_23 (own := 7) (nest := false) (w := 633) (by decide +kernel) (by decide +kernel) zs77 (as := [.int l2, .int (V 1 5)]) (rest := []) rfl rfl (zsh_at hF rfl).1 (by omega) (Nat.le_of_ble_eq_true rfl) rfl rfl rfl (by omega) k
theorem b76_26 {x : zXs} {F : zF} (hF : zSh F) {d : Nat} {V : Nat → Nat → Int32} {T : Nat → Nat → Int64} {Q : Option Value → zG → Prop} {o0 : Option Value} {o1 : Option Value} {o2 : Option Value} {s0 : Int32}   (kt : ¬ s0 = 0 → E x F d 76 32 [o0, o1, o2] [] (V, T) Q) (kf : ¬ (¬ s0 = 0) → E x F d 76 29 [o0, o1, o2] [] (V, T) Q) : E x F d 76 26 [o0, o1, o2] [.int s0] (V, T) Q := by
  exact e_if_ne zd76_26 (tg := 32) rfl kt kf
theorem b76_29 {x : zXs} {F : zF} (hF : zSh F) {d : Nat} {V : Nat → Nat → Int32} {T : Nat → Nat → Int64} {Q : Option Value → zG → Prop} {o0 : Option Value} {o1 : Option Value} {o2 : Option Value}   (k : Q (some (.int (Int32.ofInt (-2)))) (V, T)) : E x F d 76 29 [o0, o1, o2] [] (V, T) Q := by
  refine e_bipush zd76_29 (v := Int32.ofInt (-2)) (by decide +kernel) ?_
  exact e_ireti zd76_31 zs76 k
theorem b76_32 {x : zXs} {F : zF} (hF : zSh F) {d : Nat} {V : Nat → Nat → Int32} {T : Nat → Nat → Int64} {Q : Option Value → zG → Prop} {l1 : Int32} {o2 : Option Value}   (k : E x F d 78 0 [some (.ref 19), some (.ref 1), some (.int l1), some (.ref 43), some (.int (Int32.ofInt (-1))), none, none, none, none] [] (V, T) (fun r G' => E x F (d + 1) 76 49 [some (.ref 0), some (.int l1), o2] (r.toList ++ []) G' Q)) : E x F (d + 1) 76 32 [some (.ref 0), some (.int l1), o2] [] (V, T) Q := by
  refine e_aload_n zd76_32 rfl rfl ?_
  refine e_getO zd76_33 (own := 7) (ci := 7) (kf := 3) (w := 300) (by decide +kernel) (by decide +kernel) (zsh_at hF rfl).1 (by decide +kernel) rfl (zrf_at hF (i := 3) rfl) ?_
  refine e_aload_n zd76_36 rfl rfl ?_
  refine e_getO zd76_37 (own := 7) (ci := 7) (kf := 0) (w := 297) (by decide +kernel) (by decide +kernel) (zsh_at hF rfl).1 (by decide +kernel) rfl (zrf_at hF (i := 0) rfl) ?_
  refine e_iload_n zd76_40 rfl ?_
  refine e_aload_n zd76_41 rfl rfl ?_
  refine e_getO zd76_42 (own := 7) (ci := 7) (kf := 5) (w := 302) (by decide +kernel) (by decide +kernel) (zsh_at hF rfl).1 (by decide +kernel) rfl (zrf_at hF (i := 5) rfl) ?_
  refine e_iconst zd76_45 ?_
  exact e_callV zd76_46 (own := 7) (nest := false) (w := 639) (by decide +kernel) (by decide +kernel) zs78 (as := [.ref 1, .int l1, .ref 43, .int (Int32.ofInt (-1))]) (rest := []) rfl rfl (zsh_at hF rfl).1 (by omega) (Nat.le_of_ble_eq_true rfl) rfl rfl rfl (by omega) k
theorem b76_49 {x : zXs} {F : zF} (hF : zSh F) {d : Nat} {V : Nat → Nat → Int32} {T : Nat → Nat → Int64} {Q : Option Value → zG → Prop} {l1 : Int32} {o2 : Option Value} {s0 : Int32}   (k : E x F d 13 0 [some (.ref 1), some (.int l1)] [] (V, T) (fun r G' => E x F (d + 1) 76 58 [some (.ref 0), some (.int l1), o2] (r.toList ++ []) G' Q)) : E x F (d + 1) 76 49 [some (.ref 0), some (.int l1), o2] [.int s0] (V, T) Q := by
  refine e_pop zd76_49 rfl ?_
  refine e_aload_n zd76_50 rfl rfl ?_
  refine e_getO zd76_51 (own := 7) (ci := 7) (kf := 0) (w := 297) (by decide +kernel) (by decide +kernel) (zsh_at hF rfl).1 (by decide +kernel) rfl (zrf_at hF (i := 0) rfl) ?_
  refine e_iload_n zd76_54 rfl ?_
  exact e_callV zd76_55 (own := 7) (nest := false) (w := 335) (by decide +kernel) (by decide +kernel) zs13 (as := [.int l1]) (rest := []) rfl rfl (zsh_at hF rfl).1 (by omega) (Nat.le_of_ble_eq_true rfl) rfl rfl rfl (by omega) k
theorem b76_58 {x : zXs} {F : zF} (hF : zSh F) {d : Nat} {V : Nat → Nat → Int32} {T : Nat → Nat → Int64} {Q : Option Value → zG → Prop} {o0 : Option Value} {o1 : Option Value} {o2 : Option Value} {s0 : Int32}   (k : Q (some (.int s0)) (V, T)) : E x F d 76 58 [o0, o1, o2] [.int s0] (V, T) Q := by
  exact e_ireti zd76_58 zs76 k
theorem zd77_0 : zop 77 0 = some (.aload_n 0, 1) := by decide +kernel
theorem zd77_1 : zop 77 1 = some (.iload_n 2, 1) := by decide +kernel
theorem zd77_2 : zop 77 2 = some (.iconst 0, 1) := by decide +kernel
theorem zd77_3 : zop 77 3 = some (.iconst 5, 1) := by decide +kernel
theorem zd77_4 : zop 77 4 = some (.invokestatic 15, 3) := by decide +kernel
theorem zd77_7 : zop 77 7 = some (.putfield 19, 3) := by decide +kernel
theorem zd77_10 : zop 77 10 = some (.iconst 0, 1) := by decide +kernel
theorem zd77_11 : zop 77 11 = some (.istore_n 3, 1) := by decide +kernel
theorem zd77_12 : zop 77 12 = some (.iload_n 1, 1) := by decide +kernel
theorem zd77_13 : zop 77 13 = some (.istore 4, 2) := by decide +kernel
theorem zd77_15 : zop 77 15 = some (.aload_n 0, 1) := by decide +kernel
theorem zd77_16 : zop 77 16 = some (.getfield 19, 3) := by decide +kernel
theorem zd77_19 : zop 77 19 = some (.iconst 1, 1) := by decide +kernel
theorem zd77_20 : zop 77 20 = some (.isub, 1) := by decide +kernel
theorem zd77_21 : zop 77 21 = some (.istore 5, 2) := by decide +kernel
theorem zd77_23 : zop 77 23 = some (.iload 5, 2) := by decide +kernel
theorem zd77_25 : zop 77 25 = some (.ifCond .lt 68, 3) := by decide +kernel
theorem zd77_28 : zop 77 28 = some (.iload 4, 2) := by decide +kernel
theorem zd77_30 : zop 77 30 = some (.bipush 10, 2) := by decide +kernel
theorem zd77_32 : zop 77 32 = some (.irem, 1) := by decide +kernel
theorem zd77_33 : zop 77 33 = some (.iconst 1, 1) := by decide +kernel
theorem zd77_34 : zop 77 34 = some (.isub, 1) := by decide +kernel
theorem zd77_35 : zop 77 35 = some (.istore 6, 2) := by decide +kernel
theorem zd77_37 : zop 77 37 = some (.iload 6, 2) := by decide +kernel
theorem zd77_39 : zop 77 39 = some (.iconst 0, 1) := by decide +kernel
theorem zd77_40 : zop 77 40 = some (.aload_n 0, 1) := by decide +kernel
theorem zd77_41 : zop 77 41 = some (.getfield 19, 3) := by decide +kernel
theorem zd77_44 : zop 77 44 = some (.iconst 1, 1) := by decide +kernel
theorem zd77_45 : zop 77 45 = some (.isub, 1) := by decide +kernel
theorem zd77_46 : zop 77 46 = some (.invokestatic 23, 3) := by decide +kernel
theorem zd77_49 : zop 77 49 = some (.ifCond .eq 13, 3) := by decide +kernel
theorem zd77_52 : zop 77 52 = some (.iload_n 3, 1) := by decide +kernel
theorem zd77_53 : zop 77 53 = some (.iload 6, 2) := by decide +kernel
theorem zd77_55 : zop 77 55 = some (.ishr, 1) := by decide +kernel
theorem zd77_56 : zop 77 56 = some (.iconst 1, 1) := by decide +kernel
theorem zd77_57 : zop 77 57 = some (.iand, 1) := by decide +kernel
theorem zd77_58 : zop 77 58 = some (.iconst 1, 1) := by decide +kernel
theorem zd77_59 : zop 77 59 = some (.if_icmp .ne 5, 3) := by decide +kernel
theorem zd77_62 : zop 77 62 = some (.iconst 0, 1) := by decide +kernel
theorem zd77_63 : zop 77 63 = some (.ireturn, 1) := by decide +kernel
theorem zd77_64 : zop 77 64 = some (.aload_n 0, 1) := by decide +kernel
theorem zd77_65 : zop 77 65 = some (.getfield 9, 3) := by decide +kernel
theorem zd77_68 : zop 77 68 = some (.iload 5, 2) := by decide +kernel
theorem zd77_70 : zop 77 70 = some (.iload 6, 2) := by decide +kernel
theorem zd77_72 : zop 77 72 = some (.iastore, 1) := by decide +kernel
theorem zd77_73 : zop 77 73 = some (.iload_n 3, 1) := by decide +kernel
theorem zd77_74 : zop 77 74 = some (.iconst 1, 1) := by decide +kernel
theorem zd77_75 : zop 77 75 = some (.iload 6, 2) := by decide +kernel
theorem zd77_77 : zop 77 77 = some (.ishl, 1) := by decide +kernel
theorem zd77_78 : zop 77 78 = some (.ior, 1) := by decide +kernel
theorem zd77_79 : zop 77 79 = some (.istore_n 3, 1) := by decide +kernel
theorem zd77_80 : zop 77 80 = some (.iload 4, 2) := by decide +kernel
theorem zd77_82 : zop 77 82 = some (.bipush 10, 2) := by decide +kernel
theorem zd77_84 : zop 77 84 = some (.idiv, 1) := by decide +kernel
theorem zd77_85 : zop 77 85 = some (.istore 4, 2) := by decide +kernel
theorem zd77_87 : zop 77 87 = some (.iinc 5 (-1), 3) := by decide +kernel
theorem zd77_90 : zop 77 90 = some (.goto (-67), 3) := by decide +kernel
theorem zd77_93 : zop 77 93 = some (.iload 4, 2) := by decide +kernel
theorem zd77_95 : zop 77 95 = some (.ifCond .ne 7, 3) := by decide +kernel
theorem zd77_98 : zop 77 98 = some (.iconst 1, 1) := by decide +kernel
theorem zd77_99 : zop 77 99 = some (.goto 4, 3) := by decide +kernel
theorem zd77_102 : zop 77 102 = some (.iconst 0, 1) := by decide +kernel
theorem zd77_103 : zop 77 103 = some (.ireturn, 1) := by decide +kernel
theorem b77_0 {x : zXs} {F : zF} (hF : zSh F) {d : Nat} {V : Nat → Nat → Int32} {T : Nat → Nat → Int64} {Q : Option Value → zG → Prop} {o1 : Option Value} {l2 : Int32} {o3 : Option Value} {o4 : Option Value} {o5 : Option Value} {o6 : Option Value}   (k : E x F d 30 0 [some (.int l2), some (.int (Int32.ofInt 0)), some (.int (Int32.ofInt 5))] [] (V, T) (fun r G' => E x F (d + 1) 77 7 [some (.ref 43), o1, some (.int l2), o3, o4, o5, o6] (r.toList ++ [.ref 43]) G' Q)) : E x F (d + 1) 77 0 [some (.ref 43), o1, some (.int l2), o3, o4, o5, o6] [] (V, T) Q := by
  refine e_aload_n zd77_0 rfl rfl ?_
  refine e_iload_n zd77_1 rfl ?_
  refine e_iconst zd77_2 ?_
  refine e_iconst zd77_3 ?_
  exact e_callS zd77_4 (own := 1) (nest := true) (w := 637) (by decide +kernel) (by decide +kernel) zs30 (as := [.int l2, .int (Int32.ofInt 0), .int (Int32.ofInt 5)]) (rest := [.ref 43]) rfl rfl (Nat.le_of_ble_eq_true rfl) rfl rfl rfl (by omega) k
theorem b77_7 {x : zXs} {F : zF} (hF : zSh F) {d : Nat} {V : Nat → Nat → Int32} {T : Nat → Nat → Int64} {Q : Option Value → zG → Prop} {l1 : Int32} {o2 : Option Value} {o3 : Option Value} {o4 : Option Value} {o5 : Option Value} {o6 : Option Value} {s1 : Int32}   (k : E x F d 77 23 [some (.ref 43), some (.int l1), o2, some (.int (Int32.ofInt 0)), some (.int l1), some (.int (((zu V 43 1 s1) 43 1) - (Int32.ofInt 1))), o6] [] (zu V 43 1 s1, T) Q) : E x F d 77 7 [some (.ref 43), some (.int l1), o2, o3, o4, o5, o6] [.int s1, .ref 43] (V, T) Q := by
  refine e_putI zd77_7 (own := 1) (ci := 1) (kf := 1) (w := 232) (by decide +kernel) (by decide +kernel) (zsh_at hF rfl).1 (by decide +kernel) rfl ?_
  refine e_iconst zd77_10 ?_
  refine e_istore_n zd77_11 (by decide +kernel) (Nat.le_of_ble_eq_true rfl) ?_
  refine e_iload_n zd77_12 rfl ?_
  refine e_istore zd77_13 (by decide +kernel) (Nat.le_of_ble_eq_true rfl) ?_
  refine e_aload_n zd77_15 rfl rfl ?_
  refine e_getI zd77_16 (own := 1) (ci := 1) (kf := 1) (w := 232) (by decide +kernel) (by decide +kernel) (zsh_at hF rfl).1 (by decide +kernel) rfl ?_
  refine e_iconst zd77_19 ?_
  refine e_isub zd77_20 ?_
  refine e_istore zd77_21 (by decide +kernel) (Nat.le_of_ble_eq_true rfl) ?_
  exact k
theorem b77_23 {x : zXs} {F : zF} (hF : zSh F) {d : Nat} {V : Nat → Nat → Int32} {T : Nat → Nat → Int64} {Q : Option Value → zG → Prop} {o0 : Option Value} {o1 : Option Value} {o2 : Option Value} {o3 : Option Value} {o4 : Option Value} {l5 : Int32} {o6 : Option Value}   (kt : l5 < 0 → E x F d 77 93 [o0, o1, o2, o3, o4, some (.int l5), o6] [] (V, T) Q) (kf : ¬ (l5 < 0) → E x F d 77 28 [o0, o1, o2, o3, o4, some (.int l5), o6] [] (V, T) Q) : E x F d 77 23 [o0, o1, o2, o3, o4, some (.int l5), o6] [] (V, T) Q := by
  refine e_iload zd77_23 rfl ?_
  exact e_if_lt zd77_25 (tg := 93) rfl kt kf
theorem b77_28 {x : zXs} {F : zF} (hF : zSh F) {d : Nat} {V : Nat → Nat → Int32} {T : Nat → Nat → Int64} {Q : Option Value → zG → Prop} {o1 : Option Value} {o2 : Option Value} {o3 : Option Value} {l4 : Int32} {o5 : Option Value} {o6 : Option Value}   (k : E x F d 7 0 [some (.int ((l4 - l4 / (Int32.ofInt 10) * (Int32.ofInt 10)) - (Int32.ofInt 1))), some (.int (Int32.ofInt 0)), some (.int ((V 43 1) - (Int32.ofInt 1)))] [] (V, T) (fun r G' => E x F (d + 1) 77 49 [some (.ref 43), o1, o2, o3, some (.int l4), o5, some (.int ((l4 - l4 / (Int32.ofInt 10) * (Int32.ofInt 10)) - (Int32.ofInt 1)))] (r.toList ++ []) G' Q)) : E x F (d + 1) 77 28 [some (.ref 43), o1, o2, o3, some (.int l4), o5, o6] [] (V, T) Q := by
  refine e_iload zd77_28 rfl ?_
  refine e_bipush zd77_30 (v := Int32.ofInt 10) (by decide +kernel) ?_
  refine e_irem zd77_32 (by decide +kernel) ?_
  refine e_iconst zd77_33 ?_
  refine e_isub zd77_34 ?_
  refine e_istore zd77_35 (by decide +kernel) (Nat.le_of_ble_eq_true rfl) ?_
  refine e_iload zd77_37 rfl ?_
  refine e_iconst zd77_39 ?_
  refine e_aload_n zd77_40 rfl rfl ?_
  refine e_getI zd77_41 (own := 1) (ci := 1) (kf := 1) (w := 232) (by decide +kernel) (by decide +kernel) (zsh_at hF rfl).1 (by decide +kernel) rfl ?_
  refine e_iconst zd77_44 ?_
  refine e_isub zd77_45 ?_
  exact e_callS zd77_46 (own := 1) (nest := true) (w := 638) (by decide +kernel) (by decide +kernel) zs7 (as := [.int ((l4 - l4 / (Int32.ofInt 10) * (Int32.ofInt 10)) - (Int32.ofInt 1)), .int (Int32.ofInt 0), .int ((V 43 1) - (Int32.ofInt 1))]) (rest := []) rfl rfl (Nat.le_of_ble_eq_true rfl) rfl rfl rfl (by omega) k
theorem b77_49 {x : zXs} {F : zF} (hF : zSh F) {d : Nat} {V : Nat → Nat → Int32} {T : Nat → Nat → Int64} {Q : Option Value → zG → Prop} {o0 : Option Value} {o1 : Option Value} {o2 : Option Value} {o3 : Option Value} {o4 : Option Value} {o5 : Option Value} {o6 : Option Value} {s0 : Int32}   (kt : s0 = 0 → E x F d 77 62 [o0, o1, o2, o3, o4, o5, o6] [] (V, T) Q) (kf : ¬ (s0 = 0) → E x F d 77 52 [o0, o1, o2, o3, o4, o5, o6] [] (V, T) Q) : E x F d 77 49 [o0, o1, o2, o3, o4, o5, o6] [.int s0] (V, T) Q := by
  exact e_if_eq zd77_49 (tg := 62) rfl kt kf
theorem b77_52 {x : zXs} {F : zF} (hF : zSh F) {d : Nat} {V : Nat → Nat → Int32} {T : Nat → Nat → Int64} {Q : Option Value → zG → Prop} {o0 : Option Value} {o1 : Option Value} {o2 : Option Value} {l3 : Int32} {o4 : Option Value} {o5 : Option Value} {l6 : Int32}   (kt : ¬ ((l3 >>> (l6 &&& 31)) &&& (Int32.ofInt 1)) = (Int32.ofInt 1) → E x F d 77 64 [o0, o1, o2, some (.int l3), o4, o5, some (.int l6)] [] (V, T) Q) (kf : ¬ (¬ ((l3 >>> (l6 &&& 31)) &&& (Int32.ofInt 1)) = (Int32.ofInt 1)) → E x F d 77 62 [o0, o1, o2, some (.int l3), o4, o5, some (.int l6)] [] (V, T) Q) : E x F d 77 52 [o0, o1, o2, some (.int l3), o4, o5, some (.int l6)] [] (V, T) Q := by
  refine e_iload_n zd77_52 rfl ?_
  refine e_iload zd77_53 rfl ?_
  refine e_ishr zd77_55 ?_
  refine e_iconst zd77_56 ?_
  refine e_iand zd77_57 ?_
  refine e_iconst zd77_58 ?_
  exact e_icmp_ne zd77_59 (tg := 64) rfl kt kf
theorem b77_62 {x : zXs} {F : zF} (hF : zSh F) {d : Nat} {V : Nat → Nat → Int32} {T : Nat → Nat → Int64} {Q : Option Value → zG → Prop} {o0 : Option Value} {o1 : Option Value} {o2 : Option Value} {o3 : Option Value} {o4 : Option Value} {o5 : Option Value} {o6 : Option Value}   (k : Q (some (.int (Int32.ofInt 0))) (V, T)) : E x F d 77 62 [o0, o1, o2, o3, o4, o5, o6] [] (V, T) Q := by
  refine e_iconst zd77_62 ?_
  exact e_iretz zd77_63 zs77 (by decide +kernel) k
theorem b77_64 {x : zXs} {F : zF} (hF : zSh F) {d : Nat} {V : Nat → Nat → Int32} {T : Nat → Nat → Int64} {Q : Option Value → zG → Prop} {o1 : Option Value} {o2 : Option Value} {l3 : Int32} {l4 : Int32} {l5 : Int32} {l6 : Int32}  {i1 : Nat} (e1 : l5 = nI i1) (h1 : i1 < 5) (k : E x F d 77 23 [some (.ref 43), o1, o2, some (.int (l3 ||| ((Int32.ofInt 1) <<< (l6 &&& 31)))), some (.int (l4 / (Int32.ofInt 10))), some (.int (l5 + Int32.ofInt (-1))), some (.int l6)] [] (zu V 44 i1 l6, T) Q) : E x F d 77 64 [some (.ref 43), o1, o2, some (.int l3), some (.int l4), some (.int l5), some (.int l6)] [] (V, T) Q := by
  refine e_aload_n zd77_64 rfl rfl ?_
  refine e_getA zd77_65 (own := 1) (ci := 1) (kf := 0) (w := 230) (by decide +kernel) (by decide +kernel) (zsh_at hF rfl).1 (by decide +kernel) rfl (zrf_at hF (i := 46) rfl) ?_
  refine e_iload zd77_68 rfl ?_
  refine e_iload zd77_70 rfl ?_
  refine e_iast zd77_72 (i := i1) (zsh_at hF rfl) e1 h1 (by omega) ?_
  refine e_iload_n zd77_73 rfl ?_
  refine e_iconst zd77_74 ?_
  refine e_iload zd77_75 rfl ?_
  refine e_ishl zd77_77 ?_
  refine e_ior zd77_78 ?_
  refine e_istore_n zd77_79 (by decide +kernel) (Nat.le_of_ble_eq_true rfl) ?_
  refine e_iload zd77_80 rfl ?_
  refine e_bipush zd77_82 (v := Int32.ofInt 10) (by decide +kernel) ?_
  refine e_idiv zd77_84 (by decide +kernel) ?_
  refine e_istore zd77_85 (by decide +kernel) (Nat.le_of_ble_eq_true rfl) ?_
  refine e_iinc zd77_87 rfl (by decide +kernel) ?_
  exact e_goto zd77_90 (tg := 23) rfl k
theorem b77_93 {x : zXs} {F : zF} (hF : zSh F) {d : Nat} {V : Nat → Nat → Int32} {T : Nat → Nat → Int64} {Q : Option Value → zG → Prop} {o0 : Option Value} {o1 : Option Value} {o2 : Option Value} {o3 : Option Value} {l4 : Int32} {o5 : Option Value} {o6 : Option Value}   (kt : ¬ l4 = 0 → E x F d 77 102 [o0, o1, o2, o3, some (.int l4), o5, o6] [] (V, T) Q) (kf : ¬ (¬ l4 = 0) → E x F d 77 98 [o0, o1, o2, o3, some (.int l4), o5, o6] [] (V, T) Q) : E x F d 77 93 [o0, o1, o2, o3, some (.int l4), o5, o6] [] (V, T) Q := by
  refine e_iload zd77_93 rfl ?_
  exact e_if_ne zd77_95 (tg := 102) rfl kt kf
theorem b77_98 {x : zXs} {F : zF} (hF : zSh F) {d : Nat} {V : Nat → Nat → Int32} {T : Nat → Nat → Int64} {Q : Option Value → zG → Prop} {o0 : Option Value} {o1 : Option Value} {o2 : Option Value} {o3 : Option Value} {o4 : Option Value} {o5 : Option Value} {o6 : Option Value}   (k : E x F d 77 103 [o0, o1, o2, o3, o4, o5, o6] [.int (Int32.ofInt 1)] (V, T) Q) : E x F d 77 98 [o0, o1, o2, o3, o4, o5, o6] [] (V, T) Q := by
  refine e_iconst zd77_98 ?_
  exact e_goto zd77_99 (tg := 103) rfl k
theorem b77_102 {x : zXs} {F : zF} (hF : zSh F) {d : Nat} {V : Nat → Nat → Int32} {T : Nat → Nat → Int64} {Q : Option Value → zG → Prop} {o0 : Option Value} {o1 : Option Value} {o2 : Option Value} {o3 : Option Value} {o4 : Option Value} {o5 : Option Value} {o6 : Option Value}   (k : E x F d 77 103 [o0, o1, o2, o3, o4, o5, o6] [.int (Int32.ofInt 0)] (V, T) Q) : E x F d 77 102 [o0, o1, o2, o3, o4, o5, o6] [] (V, T) Q := by
  refine e_iconst zd77_102 ?_
  exact k
theorem b77_103 {x : zXs} {F : zF} (hF : zSh F) {d : Nat} {V : Nat → Nat → Int32} {T : Nat → Nat → Int64} {Q : Option Value → zG → Prop} {o0 : Option Value} {o1 : Option Value} {o2 : Option Value} {o3 : Option Value} {o4 : Option Value} {o5 : Option Value} {o6 : Option Value} {s0 : Int32}  (b1 : narrow .boolean (.int s0) = .int s0) (k : Q (some (.int s0)) (V, T)) : E x F d 77 103 [o0, o1, o2, o3, o4, o5, o6] [.int s0] (V, T) Q := by
  exact e_iretz zd77_103 zs77 b1 k
theorem zd78_0 : zop 78 0 = some (.iconst 0, 1) := by decide +kernel
theorem zd78_1 : zop 78 1 = some (.istore 5, 2) := by decide +kernel
theorem zd78_3 : zop 78 3 = some (.iconst 0, 1) := by decide +kernel
theorem zd78_4 : zop 78 4 = some (.istore 6, 2) := by decide +kernel
theorem zd78_6 : zop 78 6 = some (.iload 6, 2) := by decide +kernel
theorem zd78_8 : zop 78 8 = some (.aload_n 3, 1) := by decide +kernel
theorem zd78_9 : zop 78 9 = some (.getfield 72, 3) := by decide +kernel
theorem zd78_12 : zop 78 12 = some (.if_icmp .ge 39, 3) := by decide +kernel
theorem zd78_15 : zop 78 15 = some (.aload_n 3, 1) := by decide +kernel
theorem zd78_16 : zop 78 16 = some (.getfield 77, 3) := by decide +kernel
theorem zd78_19 : zop 78 19 = some (.iload 6, 2) := by decide +kernel
theorem zd78_21 : zop 78 21 = some (.iaload, 1) := by decide +kernel
theorem zd78_22 : zop 78 22 = some (.istore 7, 2) := by decide +kernel
theorem zd78_24 : zop 78 24 = some (.aload_n 0, 1) := by decide +kernel
theorem zd78_25 : zop 78 25 = some (.aload_n 1, 1) := by decide +kernel
theorem zd78_26 : zop 78 26 = some (.iload 7, 2) := by decide +kernel
theorem zd78_28 : zop 78 28 = some (.iload_n 2, 1) := by decide +kernel
theorem zd78_29 : zop 78 29 = some (.invokevirtual 80, 3) := by decide +kernel
theorem zd78_32 : zop 78 32 = some (.istore 8, 2) := by decide +kernel
theorem zd78_34 : zop 78 34 = some (.iload 7, 2) := by decide +kernel
theorem zd78_36 : zop 78 36 = some (.iload 4, 2) := by decide +kernel
theorem zd78_38 : zop 78 38 = some (.if_icmp .ne 7, 3) := by decide +kernel
theorem zd78_41 : zop 78 41 = some (.iload 8, 2) := by decide +kernel
theorem zd78_43 : zop 78 43 = some (.istore 5, 2) := by decide +kernel
theorem zd78_45 : zop 78 45 = some (.iinc 6 1, 3) := by decide +kernel
theorem zd78_48 : zop 78 48 = some (.goto (-42), 3) := by decide +kernel
theorem zd78_51 : zop 78 51 = some (.iload 5, 2) := by decide +kernel
theorem zd78_53 : zop 78 53 = some (.ireturn, 1) := by decide +kernel
theorem b78_0 {x : zXs} {F : zF} (hF : zSh F) {d : Nat} {V : Nat → Nat → Int32} {T : Nat → Nat → Int64} {Q : Option Value → zG → Prop} {o0 : Option Value} {o1 : Option Value} {o2 : Option Value} {o3 : Option Value} {o4 : Option Value} {o5 : Option Value} {o6 : Option Value} {o7 : Option Value} {o8 : Option Value}   (k : E x F d 78 6 [o0, o1, o2, o3, o4, some (.int (Int32.ofInt 0)), some (.int (Int32.ofInt 0)), o7, o8] [] (V, T) Q) : E x F d 78 0 [o0, o1, o2, o3, o4, o5, o6, o7, o8] [] (V, T) Q := by
  refine e_iconst zd78_0 ?_
  refine e_istore zd78_1 (by decide +kernel) (Nat.le_of_ble_eq_true rfl) ?_
  refine e_iconst zd78_3 ?_
  refine e_istore zd78_4 (by decide +kernel) (Nat.le_of_ble_eq_true rfl) ?_
  exact k
theorem b78_6 {x : zXs} {F : zF} (hF : zSh F) {d : Nat} {V : Nat → Nat → Int32} {T : Nat → Nat → Int64} {Q : Option Value → zG → Prop} {o0 : Option Value} {o1 : Option Value} {o2 : Option Value} {o4 : Option Value} {o5 : Option Value} {l6 : Int32} {o7 : Option Value} {o8 : Option Value}   (kt : (V 43 1) ≤ l6 → E x F d 78 51 [o0, o1, o2, some (.ref 43), o4, o5, some (.int l6), o7, o8] [] (V, T) Q) (kf : ¬ ((V 43 1) ≤ l6) → E x F d 78 15 [o0, o1, o2, some (.ref 43), o4, o5, some (.int l6), o7, o8] [] (V, T) Q) : E x F d 78 6 [o0, o1, o2, some (.ref 43), o4, o5, some (.int l6), o7, o8] [] (V, T) Q := by
  refine e_iload zd78_6 rfl ?_
  refine e_aload_n zd78_8 rfl rfl ?_
  refine e_getI zd78_9 (own := 0) (ci := 1) (kf := 1) (w := 233) (by decide +kernel) (by decide +kernel) (zsh_at hF rfl).1 (by decide +kernel) rfl ?_
  exact e_icmp_ge zd78_12 (tg := 51) rfl kt kf
theorem b78_15 {x : zXs} {F : zF} (hF : zSh F) {d : Nat} {V : Nat → Nat → Int32} {T : Nat → Nat → Int64} {Q : Option Value → zG → Prop} {l1 : Nat} {l2 : Int32} {o4 : Option Value} {o5 : Option Value} {l6 : Int32} {o7 : Option Value} {o8 : Option Value} (hl1 : zSt l1) {i1 : Nat} (e1 : l6 = nI i1) (h1 : i1 < 5) (k : E x F d 74 0 [some (.ref 19), some (.ref l1), some (.int (V 44 i1)), some (.int l2), none, none, none, none, none, none, none, none, none, none] [] (V, T) (fun r G' => E x F (d + 1) 78 32 [some (.ref 19), some (.ref l1), some (.int l2), some (.ref 43), o4, o5, some (.int l6), some (.int (V 44 i1)), o8] (r.toList ++ []) G' Q)) : E x F (d + 1) 78 15 [some (.ref 19), some (.ref l1), some (.int l2), some (.ref 43), o4, o5, some (.int l6), o7, o8] [] (V, T) Q := by
  refine e_aload_n zd78_15 rfl rfl ?_
  refine e_getA zd78_16 (own := 0) (ci := 1) (kf := 0) (w := 231) (by decide +kernel) (by decide +kernel) (zsh_at hF rfl).1 (by decide +kernel) rfl (zrf_at hF (i := 46) rfl) ?_
  refine e_iload zd78_19 rfl ?_
  refine e_iald zd78_21 (i := i1) (zsh_at hF rfl) e1 h1 (by omega) ?_
  refine e_istore zd78_22 (by decide +kernel) (Nat.le_of_ble_eq_true rfl) ?_
  refine e_aload_n zd78_24 rfl rfl ?_
  refine e_aload_n zd78_25 rfl rfl ?_
  refine e_iload zd78_26 rfl ?_
  refine e_iload_n zd78_28 rfl ?_
  exact e_callV zd78_29 (own := 0) (nest := false) (w := 643) (by decide +kernel) (by decide +kernel) zs74 (as := [.ref l1, .int (V 44 i1), .int l2]) (rest := []) rfl rfl (zsh_at hF rfl).1 (by omega) (Nat.le_of_ble_eq_true rfl) rfl rfl rfl (by omega) k
theorem b78_32 {x : zXs} {F : zF} (hF : zSh F) {d : Nat} {V : Nat → Nat → Int32} {T : Nat → Nat → Int64} {Q : Option Value → zG → Prop} {o0 : Option Value} {o1 : Option Value} {o2 : Option Value} {o3 : Option Value} {l4 : Int32} {o5 : Option Value} {o6 : Option Value} {l7 : Int32} {o8 : Option Value} {s0 : Int32}   (kt : ¬ l7 = l4 → E x F d 78 45 [o0, o1, o2, o3, some (.int l4), o5, o6, some (.int l7), some (.int s0)] [] (V, T) Q) (kf : ¬ (¬ l7 = l4) → E x F d 78 41 [o0, o1, o2, o3, some (.int l4), o5, o6, some (.int l7), some (.int s0)] [] (V, T) Q) : E x F d 78 32 [o0, o1, o2, o3, some (.int l4), o5, o6, some (.int l7), o8] [.int s0] (V, T) Q := by
  refine e_istore zd78_32 (by decide +kernel) (Nat.le_of_ble_eq_true rfl) ?_
  refine e_iload zd78_34 rfl ?_
  refine e_iload zd78_36 rfl ?_
  exact e_icmp_ne zd78_38 (tg := 45) rfl kt kf
theorem b78_41 {x : zXs} {F : zF} (hF : zSh F) {d : Nat} {V : Nat → Nat → Int32} {T : Nat → Nat → Int64} {Q : Option Value → zG → Prop} {o0 : Option Value} {o1 : Option Value} {o2 : Option Value} {o3 : Option Value} {o4 : Option Value} {o5 : Option Value} {o6 : Option Value} {o7 : Option Value} {l8 : Int32}   (k : E x F d 78 45 [o0, o1, o2, o3, o4, some (.int l8), o6, o7, some (.int l8)] [] (V, T) Q) : E x F d 78 41 [o0, o1, o2, o3, o4, o5, o6, o7, some (.int l8)] [] (V, T) Q := by
  refine e_iload zd78_41 rfl ?_
  refine e_istore zd78_43 (by decide +kernel) (Nat.le_of_ble_eq_true rfl) ?_
  exact k
theorem b78_45 {x : zXs} {F : zF} (hF : zSh F) {d : Nat} {V : Nat → Nat → Int32} {T : Nat → Nat → Int64} {Q : Option Value → zG → Prop} {o0 : Option Value} {o1 : Option Value} {o2 : Option Value} {o3 : Option Value} {o4 : Option Value} {o5 : Option Value} {l6 : Int32} {o7 : Option Value} {o8 : Option Value}   (k : E x F d 78 6 [o0, o1, o2, o3, o4, o5, some (.int (l6 + Int32.ofInt 1)), o7, o8] [] (V, T) Q) : E x F d 78 45 [o0, o1, o2, o3, o4, o5, some (.int l6), o7, o8] [] (V, T) Q := by
  refine e_iinc zd78_45 rfl (by decide +kernel) ?_
  exact e_goto zd78_48 (tg := 6) rfl k
theorem b78_51 {x : zXs} {F : zF} (hF : zSh F) {d : Nat} {V : Nat → Nat → Int32} {T : Nat → Nat → Int64} {Q : Option Value → zG → Prop} {o0 : Option Value} {o1 : Option Value} {o2 : Option Value} {o3 : Option Value} {o4 : Option Value} {l5 : Int32} {o6 : Option Value} {o7 : Option Value} {o8 : Option Value}   (k : Q (some (.int l5)) (V, T)) : E x F d 78 51 [o0, o1, o2, o3, o4, some (.int l5), o6, o7, o8] [] (V, T) Q := by
  refine e_iload zd78_51 rfl ?_
  exact e_ireti zd78_53 zs78 k
theorem zd79_0 : zop 79 0 = some (.aload_n 0, 1) := by decide +kernel
theorem zd79_1 : zop 79 1 = some (.getfield 10, 3) := by decide +kernel
theorem zd79_4 : zop 79 4 = some (.getfield 87, 3) := by decide +kernel
theorem zd79_7 : zop 79 7 = some (.sipush 999, 3) := by decide +kernel
theorem zd79_10 : zop 79 10 = some (.if_icmp .lt 6, 3) := by decide +kernel
theorem zd79_13 : zop 79 13 = some (.bipush (-3), 2) := by decide +kernel
theorem zd79_15 : zop 79 15 = some (.ireturn, 1) := by decide +kernel
theorem zd79_16 : zop 79 16 = some (.aload_n 0, 1) := by decide +kernel
theorem zd79_17 : zop 79 17 = some (.getfield 25, 3) := by decide +kernel
theorem zd79_20 : zop 79 20 = some (.aload_n 0, 1) := by decide +kernel
theorem zd79_21 : zop 79 21 = some (.getfield 10, 3) := by decide +kernel
theorem zd79_24 : zop 79 24 = some (.invokevirtual 171, 3) := by decide +kernel
theorem zd79_27 : zop 79 27 = some (.aload_n 0, 1) := by decide +kernel
theorem zd79_28 : zop 79 28 = some (.getfield 10, 3) := by decide +kernel
theorem zd79_31 : zop 79 31 = some (.invokevirtual 175, 3) := by decide +kernel
theorem zd79_34 : zop 79 34 = some (.ireturn, 1) := by decide +kernel
theorem b79_0 {x : zXs} {F : zF} (hF : zSh F) {d : Nat} {V : Nat → Nat → Int32} {T : Nat → Nat → Int64} {Q : Option Value → zG → Prop}    (kt : (V 1 6) < (Int32.ofInt 999) → E x F d 79 16 [some (.ref 0)] [] (V, T) Q) (kf : ¬ ((V 1 6) < (Int32.ofInt 999)) → E x F d 79 13 [some (.ref 0)] [] (V, T) Q) : E x F d 79 0 [some (.ref 0)] [] (V, T) Q := by
  refine e_aload_n zd79_0 rfl rfl ?_
  refine e_getO zd79_1 (own := 7) (ci := 7) (kf := 0) (w := 297) (by decide +kernel) (by decide +kernel) (zsh_at hF rfl).1 (by decide +kernel) rfl (zrf_at hF (i := 0) rfl) ?_
  refine e_getI zd79_4 (own := 7) (ci := 4) (kf := 6) (w := 131) (by decide +kernel) (by decide +kernel) (zsh_at hF rfl).1 (by decide +kernel) rfl ?_
  refine e_sipush zd79_7 (v := Int32.ofInt 999) (by decide +kernel) ?_
  exact e_icmp_lt zd79_10 (tg := 16) rfl kt kf
theorem b79_13 {x : zXs} {F : zF} (hF : zSh F) {d : Nat} {V : Nat → Nat → Int32} {T : Nat → Nat → Int64} {Q : Option Value → zG → Prop} {o0 : Option Value}   (k : Q (some (.int (Int32.ofInt (-3)))) (V, T)) : E x F d 79 13 [o0] [] (V, T) Q := by
  refine e_bipush zd79_13 (v := Int32.ofInt (-3)) (by decide +kernel) ?_
  exact e_ireti zd79_15 zs79 k
theorem b79_16 {x : zXs} {F : zF} (hF : zSh F) {d : Nat} {V : Nat → Nat → Int32} {T : Nat → Nat → Int64} {Q : Option Value → zG → Prop}    (k : E x F d 80 0 [some (.ref 19), some (.ref 1), none, none] [] (V, T) (fun r G' => E x F (d + 1) 79 27 [some (.ref 0)] (r.toList ++ []) G' Q)) : E x F (d + 1) 79 16 [some (.ref 0)] [] (V, T) Q := by
  refine e_aload_n zd79_16 rfl rfl ?_
  refine e_getO zd79_17 (own := 7) (ci := 7) (kf := 3) (w := 300) (by decide +kernel) (by decide +kernel) (zsh_at hF rfl).1 (by decide +kernel) rfl (zrf_at hF (i := 3) rfl) ?_
  refine e_aload_n zd79_20 rfl rfl ?_
  refine e_getO zd79_21 (own := 7) (ci := 7) (kf := 0) (w := 297) (by decide +kernel) (by decide +kernel) (zsh_at hF rfl).1 (by decide +kernel) rfl (zrf_at hF (i := 0) rfl) ?_
  exact e_callV zd79_24 (own := 7) (nest := false) (w := 648) (by decide +kernel) (by decide +kernel) zs80 (as := [.ref 1]) (rest := []) rfl rfl (zsh_at hF rfl).1 (by omega) (Nat.le_of_ble_eq_true rfl) rfl rfl rfl (by omega) k
theorem b79_27 {x : zXs} {F : zF} (hF : zSh F) {d : Nat} {V : Nat → Nat → Int32} {T : Nat → Nat → Int64} {Q : Option Value → zG → Prop}    (k : E x F d 81 0 [some (.ref 1), none, none] [] (V, T) (fun r G' => E x F (d + 1) 79 34 [some (.ref 0)] (r.toList ++ []) G' Q)) : E x F (d + 1) 79 27 [some (.ref 0)] [] (V, T) Q := by
  refine e_aload_n zd79_27 rfl rfl ?_
  refine e_getO zd79_28 (own := 7) (ci := 7) (kf := 0) (w := 297) (by decide +kernel) (by decide +kernel) (zsh_at hF rfl).1 (by decide +kernel) rfl (zrf_at hF (i := 0) rfl) ?_
  exact e_callV zd79_31 (own := 7) (nest := false) (w := 657) (by decide +kernel) (by decide +kernel) zs81 (as := []) (rest := []) rfl rfl (zsh_at hF rfl).1 (by omega) (Nat.le_of_ble_eq_true rfl) rfl rfl rfl (by omega) k
theorem b79_34 {x : zXs} {F : zF} (hF : zSh F) {d : Nat} {V : Nat → Nat → Int32} {T : Nat → Nat → Int64} {Q : Option Value → zG → Prop} {o0 : Option Value} {s0 : Int32}   (k : Q (some (.int s0)) (V, T)) : E x F d 79 34 [o0] [.int s0] (V, T) Q := by
  exact e_ireti zd79_34 zs79 k
theorem zd80_0 : zop 80 0 = some (.iconst 0, 1) := by decide +kernel
theorem zd80_1 : zop 80 1 = some (.istore_n 2, 1) := by decide +kernel
theorem zd80_2 : zop 80 2 = some (.iload_n 2, 1) := by decide +kernel
theorem zd80_3 : zop 80 3 = some (.aload_n 1, 1) := by decide +kernel
theorem zd80_4 : zop 80 4 = some (.getfield 84, 3) := by decide +kernel
theorem zd80_7 : zop 80 7 = some (.if_icmp .ge 21, 3) := by decide +kernel
theorem zd80_10 : zop 80 10 = some (.aload_n 1, 1) := by decide +kernel
theorem zd80_11 : zop 80 11 = some (.getfield 38, 3) := by decide +kernel
theorem zd80_14 : zop 80 14 = some (.iload_n 2, 1) := by decide +kernel
theorem zd80_15 : zop 80 15 = some (.aload_n 0, 1) := by decide +kernel
theorem zd80_16 : zop 80 16 = some (.aload_n 1, 1) := by decide +kernel
theorem zd80_17 : zop 80 17 = some (.iload_n 2, 1) := by decide +kernel
theorem zd80_18 : zop 80 18 = some (.invokevirtual 87, 3) := by decide +kernel
theorem zd80_21 : zop 80 21 = some (.iastore, 1) := by decide +kernel
theorem zd80_22 : zop 80 22 = some (.iinc 2 1, 3) := by decide +kernel
theorem zd80_25 : zop 80 25 = some (.goto (-23), 3) := by decide +kernel
theorem zd80_28 : zop 80 28 = some (.iconst 0, 1) := by decide +kernel
theorem zd80_29 : zop 80 29 = some (.istore_n 2, 1) := by decide +kernel
theorem zd80_30 : zop 80 30 = some (.iload_n 2, 1) := by decide +kernel
theorem zd80_31 : zop 80 31 = some (.iconst 4, 1) := by decide +kernel
theorem zd80_32 : zop 80 32 = some (.if_icmp .ge 38, 3) := by decide +kernel
theorem zd80_35 : zop 80 35 = some (.aload_n 1, 1) := by decide +kernel
theorem zd80_36 : zop 80 36 = some (.getfield 45, 3) := by decide +kernel
theorem zd80_39 : zop 80 39 = some (.iload_n 2, 1) := by decide +kernel
theorem zd80_40 : zop 80 40 = some (.iaload, 1) := by decide +kernel
theorem zd80_41 : zop 80 41 = some (.aload_n 0, 1) := by decide +kernel
theorem zd80_42 : zop 80 42 = some (.getfield 12, 3) := by decide +kernel
theorem zd80_45 : zop 80 45 = some (.aload_n 1, 1) := by decide +kernel
theorem zd80_46 : zop 80 46 = some (.iload_n 2, 1) := by decide +kernel
theorem zd80_47 : zop 80 47 = some (.invokevirtual 90, 3) := by decide +kernel
theorem zd80_50 : zop 80 50 = some (.iadd, 1) := by decide +kernel
theorem zd80_51 : zop 80 51 = some (.istore_n 3, 1) := by decide +kernel
theorem zd80_52 : zop 80 52 = some (.aload_n 1, 1) := by decide +kernel
theorem zd80_53 : zop 80 53 = some (.getfield 45, 3) := by decide +kernel
theorem zd80_56 : zop 80 56 = some (.iload_n 2, 1) := by decide +kernel
theorem zd80_57 : zop 80 57 = some (.bipush 24, 2) := by decide +kernel
theorem zd80_59 : zop 80 59 = some (.iload_n 3, 1) := by decide +kernel
theorem zd80_60 : zop 80 60 = some (.invokestatic 93, 3) := by decide +kernel
theorem zd80_63 : zop 80 63 = some (.iastore, 1) := by decide +kernel
theorem zd80_64 : zop 80 64 = some (.iinc 2 1, 3) := by decide +kernel
theorem zd80_67 : zop 80 67 = some (.goto (-37), 3) := by decide +kernel
theorem zd80_70 : zop 80 70 = some (.aload_n 1, 1) := by decide +kernel
theorem zd80_71 : zop 80 71 = some (.dup, 1) := by decide +kernel
theorem zd80_72 : zop 80 72 = some (.getfield 96, 3) := by decide +kernel
theorem zd80_75 : zop 80 75 = some (.iconst 1, 1) := by decide +kernel
theorem zd80_76 : zop 80 76 = some (.iadd, 1) := by decide +kernel
theorem zd80_77 : zop 80 77 = some (.putfield 96, 3) := by decide +kernel
theorem zd80_80 : zop 80 80 = some (.return_, 1) := by decide +kernel
theorem b80_0 {x : zXs} {F : zF} (hF : zSh F) {d : Nat} {V : Nat → Nat → Int32} {T : Nat → Nat → Int64} {Q : Option Value → zG → Prop} {o0 : Option Value} {o1 : Option Value} {o2 : Option Value} {o3 : Option Value}   (k : E x F d 80 2 [o0, o1, some (.int (Int32.ofInt 0)), o3] [] (V, T) Q) : E x F d 80 0 [o0, o1, o2, o3] [] (V, T) Q := by
  refine e_iconst zd80_0 ?_
  refine e_istore_n zd80_1 (by decide +kernel) (Nat.le_of_ble_eq_true rfl) ?_
  exact k
theorem b80_2 {x : zXs} {F : zF} (hF : zSh F) {d : Nat} {V : Nat → Nat → Int32} {T : Nat → Nat → Int64} {Q : Option Value → zG → Prop} {o0 : Option Value} {l1 : Nat} {l2 : Int32} {o3 : Option Value} (hl1 : zSt l1)  (kt : (V l1 5) ≤ l2 → E x F d 80 28 [o0, some (.ref l1), some (.int l2), o3] [] (V, T) Q) (kf : ¬ ((V l1 5) ≤ l2) → E x F d 80 10 [o0, some (.ref l1), some (.int l2), o3] [] (V, T) Q) : E x F d 80 2 [o0, some (.ref l1), some (.int l2), o3] [] (V, T) Q := by
  refine e_iload_n zd80_2 rfl ?_
  refine e_aload_n zd80_3 rfl rfl ?_
  refine e_getI zd80_4 (own := 0) (ci := 4) (kf := 5) (w := 128) (by decide +kernel) (by decide +kernel) (zSt_s hF hl1).1 (by decide +kernel) rfl ?_
  exact e_icmp_ge zd80_7 (tg := 28) rfl kt kf
theorem b80_10 {x : zXs} {F : zF} (hF : zSh F) {d : Nat} {V : Nat → Nat → Int32} {T : Nat → Nat → Int64} {Q : Option Value → zG → Prop} {l1 : Nat} {l2 : Int32} {o3 : Option Value} (hl1 : zSt l1)  (k : E x F d 24 0 [some (.ref 19), some (.ref l1), some (.int l2), none, none] [] (V, T) (fun r G' => E x F (d + 1) 80 21 [some (.ref 19), some (.ref l1), some (.int l2), o3] (r.toList ++ [.int l2, .ref (l1 + 5)]) G' Q)) : E x F (d + 1) 80 10 [some (.ref 19), some (.ref l1), some (.int l2), o3] [] (V, T) Q := by
  refine e_aload_n zd80_10 rfl rfl ?_
  refine e_getA zd80_11 (own := 0) (ci := 4) (kf := 4) (w := 124) (by decide +kernel) (by decide +kernel) (zSt_s hF hl1).1 (by decide +kernel) rfl (zSt_f4 hF hl1) ?_
  refine e_iload_n zd80_14 rfl ?_
  refine e_aload_n zd80_15 rfl rfl ?_
  refine e_aload_n zd80_16 rfl rfl ?_
  refine e_iload_n zd80_17 rfl ?_
  exact e_callV zd80_18 (own := 0) (nest := false) (w := 652) (by decide +kernel) (by decide +kernel) zs24 (as := [.ref l1, .int l2]) (rest := [.int l2, .ref (l1 + 5)]) rfl rfl (zsh_at hF rfl).1 (by omega) (Nat.le_of_ble_eq_true rfl) rfl rfl rfl (by omega) k
theorem b80_21 {x : zXs} {F : zF} (hF : zSh F) {d : Nat} {V : Nat → Nat → Int32} {T : Nat → Nat → Int64} {Q : Option Value → zG → Prop} {o0 : Option Value} {o1 : Option Value} {l2 : Int32} {o3 : Option Value} {s0 : Nat} {ns0 : Nat} {s1 : Int32} {s2 : Int32} (hs0 : zsh F s0 = 100 ∧ zln F s0 = ns0) (qns0 : ns0 < 2 ^ 31) {i1 : Nat} (e1 : s1 = nI i1) (h1 : i1 < ns0) (k : E x F d 80 2 [o0, o1, some (.int (l2 + Int32.ofInt 1)), o3] [] (zu V s0 i1 s2, T) Q) : E x F d 80 21 [o0, o1, some (.int l2), o3] [.int s2, .int s1, .ref s0] (V, T) Q := by
  refine e_iast zd80_21 (i := i1) (hs0) e1 h1 qns0 ?_
  refine e_iinc zd80_22 rfl (by decide +kernel) ?_
  exact e_goto zd80_25 (tg := 2) rfl k
theorem b80_28 {x : zXs} {F : zF} (hF : zSh F) {d : Nat} {V : Nat → Nat → Int32} {T : Nat → Nat → Int64} {Q : Option Value → zG → Prop} {o0 : Option Value} {o1 : Option Value} {o2 : Option Value} {o3 : Option Value}   (k : E x F d 80 30 [o0, o1, some (.int (Int32.ofInt 0)), o3] [] (V, T) Q) : E x F d 80 28 [o0, o1, o2, o3] [] (V, T) Q := by
  refine e_iconst zd80_28 ?_
  refine e_istore_n zd80_29 (by decide +kernel) (Nat.le_of_ble_eq_true rfl) ?_
  exact k
theorem b80_30 {x : zXs} {F : zF} (hF : zSh F) {d : Nat} {V : Nat → Nat → Int32} {T : Nat → Nat → Int64} {Q : Option Value → zG → Prop} {o0 : Option Value} {o1 : Option Value} {l2 : Int32} {o3 : Option Value}   (kt : (Int32.ofInt 4) ≤ l2 → E x F d 80 70 [o0, o1, some (.int l2), o3] [] (V, T) Q) (kf : ¬ ((Int32.ofInt 4) ≤ l2) → E x F d 80 35 [o0, o1, some (.int l2), o3] [] (V, T) Q) : E x F d 80 30 [o0, o1, some (.int l2), o3] [] (V, T) Q := by
  refine e_iload_n zd80_30 rfl ?_
  refine e_iconst zd80_31 ?_
  exact e_icmp_ge zd80_32 (tg := 70) rfl kt kf
theorem b80_35 {x : zXs} {F : zF} (hF : zSh F) {d : Nat} {V : Nat → Nat → Int32} {T : Nat → Nat → Int64} {Q : Option Value → zG → Prop} {l1 : Nat} {l2 : Int32} {o3 : Option Value} (hl1 : zSt l1) {i1 : Nat} (e1 : l2 = nI i1) (h1 : i1 < 4) (k : E x F d 35 0 [some (.ref 20), some (.ref l1), some (.int l2)] [] (V, T) (fun r G' => E x F (d + 1) 80 50 [some (.ref 19), some (.ref l1), some (.int l2), o3] (r.toList ++ [.int (V (l1 + 1) i1)]) G' Q)) : E x F (d + 1) 80 35 [some (.ref 19), some (.ref l1), some (.int l2), o3] [] (V, T) Q := by
  refine e_aload_n zd80_35 rfl rfl ?_
  refine e_getA zd80_36 (own := 0) (ci := 4) (kf := 0) (w := 112) (by decide +kernel) (by decide +kernel) (zSt_s hF hl1).1 (by decide +kernel) rfl (zSt_f0 hF hl1) ?_
  refine e_iload_n zd80_39 rfl ?_
  refine e_iald zd80_40 (i := i1) (zSt_a0 hF hl1) e1 h1 (by omega) ?_
  refine e_aload_n zd80_41 rfl rfl ?_
  refine e_getO zd80_42 (own := 0) (ci := 0) (kf := 0) (w := 211) (by decide +kernel) (by decide +kernel) (zsh_at hF rfl).1 (by decide +kernel) rfl (zrf_at hF (i := 23) rfl) ?_
  refine e_aload_n zd80_45 rfl rfl ?_
  refine e_iload_n zd80_46 rfl ?_
  exact e_callV zd80_47 (own := 0) (nest := false) (w := 653) (by decide +kernel) (by decide +kernel) zs35 (as := [.ref l1, .int l2]) (rest := [.int (V (l1 + 1) i1)]) rfl rfl (zsh_at hF rfl).1 (by omega) (Nat.le_of_ble_eq_true rfl) rfl rfl rfl (by omega) k
theorem b80_50 {x : zXs} {F : zF} (hF : zSh F) {d : Nat} {V : Nat → Nat → Int32} {T : Nat → Nat → Int64} {Q : Option Value → zG → Prop} {o0 : Option Value} {l1 : Nat} {l2 : Int32} {o3 : Option Value} {s0 : Int32} {s1 : Int32} (hl1 : zSt l1) {i1 : Nat} (e1 : l2 = nI i1) (h1 : i1 < 4) (k : E x F d 80 30 [o0, some (.ref l1), some (.int (l2 + Int32.ofInt 1)), some (.int (s0 + s1))] [] (zu V (l1 + 1) i1 (if (s0 + s1) < (Int32.ofInt 24) then (s0 + s1) else (Int32.ofInt 24)), T) Q) : E x F d 80 50 [o0, some (.ref l1), some (.int l2), o3] [.int s1, .int s0] (V, T) Q := by
  refine e_iadd zd80_50 ?_
  refine e_istore_n zd80_51 (by decide +kernel) (Nat.le_of_ble_eq_true rfl) ?_
  refine e_aload_n zd80_52 rfl rfl ?_
  refine e_getA zd80_53 (own := 0) (ci := 4) (kf := 0) (w := 112) (by decide +kernel) (by decide +kernel) (zSt_s hF hl1).1 (by decide +kernel) rfl (zSt_f0 hF hl1) ?_
  refine e_iload_n zd80_56 rfl ?_
  refine e_bipush zd80_57 (v := Int32.ofInt 24) (by decide +kernel) ?_
  refine e_iload_n zd80_59 rfl ?_
  refine e_min zd80_60 (own := 0) (w := 654) (by decide +kernel) (by decide +kernel) (by decide +kernel) (Nat.le_of_ble_eq_true rfl) ?_
  refine e_iast zd80_63 (i := i1) (zSt_a0 hF hl1) e1 h1 (by omega) ?_
  refine e_iinc zd80_64 rfl (by decide +kernel) ?_
  exact e_goto zd80_67 (tg := 30) rfl k
theorem b80_70 {x : zXs} {F : zF} (hF : zSh F) {d : Nat} {V : Nat → Nat → Int32} {T : Nat → Nat → Int64} {Q : Option Value → zG → Prop} {o0 : Option Value} {l1 : Nat} {o2 : Option Value} {o3 : Option Value} (hl1 : zSt l1)  (k : Q none (zu V l1 6 ((V l1 6) + (Int32.ofInt 1)), T)) : E x F d 80 70 [o0, some (.ref l1), o2, o3] [] (V, T) Q := by
  refine e_aload_n zd80_70 rfl rfl ?_
  refine e_dup zd80_71 rfl ?_
  refine e_getI zd80_72 (own := 0) (ci := 4) (kf := 6) (w := 133) (by decide +kernel) (by decide +kernel) (zSt_s hF hl1).1 (by decide +kernel) rfl ?_
  refine e_iconst zd80_75 ?_
  refine e_iadd zd80_76 ?_
  refine e_putI zd80_77 (own := 0) (ci := 4) (kf := 6) (w := 133) (by decide +kernel) (by decide +kernel) (zSt_s hF hl1).1 (by decide +kernel) rfl ?_
  exact e_vret zd80_80 zs80 k
theorem zd81_0 : zop 81 0 = some (.iconst 0, 1) := by decide +kernel
theorem zd81_1 : zop 81 1 = some (.istore_n 1, 1) := by decide +kernel
theorem zd81_2 : zop 81 2 = some (.iconst 0, 1) := by decide +kernel
theorem zd81_3 : zop 81 3 = some (.istore_n 2, 1) := by decide +kernel
theorem zd81_4 : zop 81 4 = some (.iload_n 2, 1) := by decide +kernel
theorem zd81_5 : zop 81 5 = some (.iconst 4, 1) := by decide +kernel
theorem zd81_6 : zop 81 6 = some (.if_icmp .ge 17, 3) := by decide +kernel
theorem zd81_9 : zop 81 9 = some (.iload_n 1, 1) := by decide +kernel
theorem zd81_10 : zop 81 10 = some (.aload_n 0, 1) := by decide +kernel
theorem zd81_11 : zop 81 11 = some (.iload_n 2, 1) := by decide +kernel
theorem zd81_12 : zop 81 12 = some (.invokevirtual 56, 3) := by decide +kernel
theorem zd81_15 : zop 81 15 = some (.iadd, 1) := by decide +kernel
theorem zd81_16 : zop 81 16 = some (.istore_n 1, 1) := by decide +kernel
theorem zd81_17 : zop 81 17 = some (.iinc 2 1, 3) := by decide +kernel
theorem zd81_20 : zop 81 20 = some (.goto (-16), 3) := by decide +kernel
theorem zd81_23 : zop 81 23 = some (.iload_n 1, 1) := by decide +kernel
theorem zd81_24 : zop 81 24 = some (.ireturn, 1) := by decide +kernel
theorem b81_0 {x : zXs} {F : zF} (hF : zSh F) {d : Nat} {V : Nat → Nat → Int32} {T : Nat → Nat → Int64} {Q : Option Value → zG → Prop} {o0 : Option Value} {o1 : Option Value} {o2 : Option Value}   (k : E x F d 81 4 [o0, some (.int (Int32.ofInt 0)), some (.int (Int32.ofInt 0))] [] (V, T) Q) : E x F d 81 0 [o0, o1, o2] [] (V, T) Q := by
  refine e_iconst zd81_0 ?_
  refine e_istore_n zd81_1 (by decide +kernel) (Nat.le_of_ble_eq_true rfl) ?_
  refine e_iconst zd81_2 ?_
  refine e_istore_n zd81_3 (by decide +kernel) (Nat.le_of_ble_eq_true rfl) ?_
  exact k
theorem b81_4 {x : zXs} {F : zF} (hF : zSh F) {d : Nat} {V : Nat → Nat → Int32} {T : Nat → Nat → Int64} {Q : Option Value → zG → Prop} {o0 : Option Value} {o1 : Option Value} {l2 : Int32}   (kt : (Int32.ofInt 4) ≤ l2 → E x F d 81 23 [o0, o1, some (.int l2)] [] (V, T) Q) (kf : ¬ ((Int32.ofInt 4) ≤ l2) → E x F d 81 9 [o0, o1, some (.int l2)] [] (V, T) Q) : E x F d 81 4 [o0, o1, some (.int l2)] [] (V, T) Q := by
  refine e_iload_n zd81_4 rfl ?_
  refine e_iconst zd81_5 ?_
  exact e_icmp_ge zd81_6 (tg := 23) rfl kt kf
theorem b81_9 {x : zXs} {F : zF} (hF : zSh F) {d : Nat} {V : Nat → Nat → Int32} {T : Nat → Nat → Int64} {Q : Option Value → zG → Prop} {l0 : Nat} {l1 : Int32} {l2 : Int32} (hl0 : zSt l0)  (k : E x F d 13 0 [some (.ref l0), some (.int l2)] [] (V, T) (fun r G' => E x F (d + 1) 81 15 [some (.ref l0), some (.int l1), some (.int l2)] (r.toList ++ [.int l1]) G' Q)) : E x F (d + 1) 81 9 [some (.ref l0), some (.int l1), some (.int l2)] [] (V, T) Q := by
  refine e_iload_n zd81_9 rfl ?_
  refine e_aload_n zd81_10 rfl rfl ?_
  refine e_iload_n zd81_11 rfl ?_
  exact e_callV zd81_12 (own := 4) (nest := false) (w := 661) (by decide +kernel) (by decide +kernel) zs13 (as := [.int l2]) (rest := [.int l1]) rfl rfl (zSt_s hF hl0).1 (by omega) (Nat.le_of_ble_eq_true rfl) rfl rfl rfl (by omega) k
theorem b81_15 {x : zXs} {F : zF} (hF : zSh F) {d : Nat} {V : Nat → Nat → Int32} {T : Nat → Nat → Int64} {Q : Option Value → zG → Prop} {o0 : Option Value} {o1 : Option Value} {l2 : Int32} {s0 : Int32} {s1 : Int32}   (k : E x F d 81 4 [o0, some (.int (s0 + s1)), some (.int (l2 + Int32.ofInt 1))] [] (V, T) Q) : E x F d 81 15 [o0, o1, some (.int l2)] [.int s1, .int s0] (V, T) Q := by
  refine e_iadd zd81_15 ?_
  refine e_istore_n zd81_16 (by decide +kernel) (Nat.le_of_ble_eq_true rfl) ?_
  refine e_iinc zd81_17 rfl (by decide +kernel) ?_
  exact e_goto zd81_20 (tg := 4) rfl k
theorem b81_23 {x : zXs} {F : zF} (hF : zSh F) {d : Nat} {V : Nat → Nat → Int32} {T : Nat → Nat → Int64} {Q : Option Value → zG → Prop} {o0 : Option Value} {l1 : Int32} {o2 : Option Value}   (k : Q (some (.int l1)) (V, T)) : E x F d 81 23 [o0, some (.int l1), o2] [] (V, T) Q := by
  refine e_iload_n zd81_23 rfl ?_
  exact e_ireti zd81_24 zs81 k
theorem zd82_0 : zop 82 0 = some (.aload_n 0, 1) := by decide +kernel
theorem zd82_1 : zop 82 1 = some (.getfield 10, 3) := by decide +kernel
theorem zd82_4 : zop 82 4 = some (.iload_n 1, 1) := by decide +kernel
theorem zd82_5 : zop 82 5 = some (.invokevirtual 91, 3) := by decide +kernel
theorem zd82_8 : zop 82 8 = some (.ifCond .eq 23, 3) := by decide +kernel
theorem zd82_11 : zop 82 11 = some (.aload_n 0, 1) := by decide +kernel
theorem zd82_12 : zop 82 12 = some (.getfield 10, 3) := by decide +kernel
theorem zd82_15 : zop 82 15 = some (.iload_n 2, 1) := by decide +kernel
theorem zd82_16 : zop 82 16 = some (.invokevirtual 55, 3) := by decide +kernel
theorem zd82_19 : zop 82 19 = some (.ifCond .eq 12, 3) := by decide +kernel
theorem zd82_22 : zop 82 22 = some (.iload_n 3, 1) := by decide +kernel
theorem zd82_23 : zop 82 23 = some (.iconst 0, 1) := by decide +kernel
theorem zd82_24 : zop 82 24 = some (.iconst 3, 1) := by decide +kernel
theorem zd82_25 : zop 82 25 = some (.invokestatic 59, 3) := by decide +kernel
theorem zd82_28 : zop 82 28 = some (.ifCond .ne 6, 3) := by decide +kernel
theorem zd82_31 : zop 82 31 = some (.bipush (-100), 2) := by decide +kernel
theorem zd82_33 : zop 82 33 = some (.ireturn, 1) := by decide +kernel
theorem zd82_34 : zop 82 34 = some (.aload_n 0, 1) := by decide +kernel
theorem zd82_35 : zop 82 35 = some (.getfield 16, 3) := by decide +kernel
theorem zd82_38 : zop 82 38 = some (.aload_n 0, 1) := by decide +kernel
theorem zd82_39 : zop 82 39 = some (.getfield 10, 3) := by decide +kernel
theorem zd82_42 : zop 82 42 = some (.invokevirtual 178, 3) := by decide +kernel
theorem zd82_45 : zop 82 45 = some (.aload_n 0, 1) := by decide +kernel
theorem zd82_46 : zop 82 46 = some (.getfield 25, 3) := by decide +kernel
theorem zd82_49 : zop 82 49 = some (.aload_n 0, 1) := by decide +kernel
theorem zd82_50 : zop 82 50 = some (.getfield 16, 3) := by decide +kernel
theorem zd82_53 : zop 82 53 = some (.iload_n 1, 1) := by decide +kernel
theorem zd82_54 : zop 82 54 = some (.iload_n 2, 1) := by decide +kernel
theorem zd82_55 : zop 82 55 = some (.invokevirtual 156, 3) := by decide +kernel
theorem zd82_58 : zop 82 58 = some (.istore 4, 2) := by decide +kernel
theorem zd82_60 : zop 82 60 = some (.iload_n 3, 1) := by decide +kernel
theorem zd82_61 : zop 82 61 = some (.tableswitch 49 0 2 #[27, 30, 39], 27) := by decide +kernel
theorem zd82_88 : zop 82 88 = some (.iload 4, 2) := by decide +kernel
theorem zd82_90 : zop 82 90 = some (.ireturn, 1) := by decide +kernel
theorem zd82_91 : zop 82 91 = some (.aload_n 0, 1) := by decide +kernel
theorem zd82_92 : zop 82 92 = some (.getfield 16, 3) := by decide +kernel
theorem zd82_95 : zop 82 95 = some (.iload_n 2, 1) := by decide +kernel
theorem zd82_96 : zop 82 96 = some (.invokevirtual 70, 3) := by decide +kernel
theorem zd82_99 : zop 82 99 = some (.ireturn, 1) := by decide +kernel
theorem zd82_100 : zop 82 100 = some (.aload_n 0, 1) := by decide +kernel
theorem zd82_101 : zop 82 101 = some (.getfield 16, 3) := by decide +kernel
theorem zd82_104 : zop 82 104 = some (.getfield 84, 3) := by decide +kernel
theorem zd82_107 : zop 82 107 = some (.iload_n 1, 1) := by decide +kernel
theorem zd82_108 : zop 82 108 = some (.iaload, 1) := by decide +kernel
theorem zd82_109 : zop 82 109 = some (.ireturn, 1) := by decide +kernel
theorem zd82_110 : zop 82 110 = some (.aload_n 0, 1) := by decide +kernel
theorem zd82_111 : zop 82 111 = some (.getfield 16, 3) := by decide +kernel
theorem zd82_114 : zop 82 114 = some (.iload_n 2, 1) := by decide +kernel
theorem zd82_115 : zop 82 115 = some (.invokevirtual 114, 3) := by decide +kernel
theorem zd82_118 : zop 82 118 = some (.ireturn, 1) := by decide +kernel
theorem b82_0 {x : zXs} {F : zF} (hF : zSh F) {d : Nat} {V : Nat → Nat → Int32} {T : Nat → Nat → Int64} {Q : Option Value → zG → Prop} {l1 : Int32} {o2 : Option Value} {o3 : Option Value} {o4 : Option Value}   (k : E x F d 19 0 [some (.ref 1), some (.int l1)] [] (V, T) (fun r G' => E x F (d + 1) 82 8 [some (.ref 0), some (.int l1), o2, o3, o4] (r.toList ++ []) G' Q)) : E x F (d + 1) 82 0 [some (.ref 0), some (.int l1), o2, o3, o4] [] (V, T) Q := by
  refine e_aload_n zd82_0 rfl rfl ?_
  refine e_getO zd82_1 (own := 7) (ci := 7) (kf := 0) (w := 297) (by decide +kernel) (by decide +kernel) (zsh_at hF rfl).1 (by decide +kernel) rfl (zrf_at hF (i := 0) rfl) ?_
  refine e_iload_n zd82_4 rfl ?_
  exact e_callV zd82_5 (own := 7) (nest := false) (w := 361) (by decide +kernel) (by decide +kernel) zs19 (as := [.int l1]) (rest := []) rfl rfl (zsh_at hF rfl).1 (by omega) (Nat.le_of_ble_eq_true rfl) rfl rfl rfl (by omega) k
theorem b82_8 {x : zXs} {F : zF} (hF : zSh F) {d : Nat} {V : Nat → Nat → Int32} {T : Nat → Nat → Int64} {Q : Option Value → zG → Prop} {o0 : Option Value} {o1 : Option Value} {o2 : Option Value} {o3 : Option Value} {o4 : Option Value} {s0 : Int32}   (kt : s0 = 0 → E x F d 82 31 [o0, o1, o2, o3, o4] [] (V, T) Q) (kf : ¬ (s0 = 0) → E x F d 82 11 [o0, o1, o2, o3, o4] [] (V, T) Q) : E x F d 82 8 [o0, o1, o2, o3, o4] [.int s0] (V, T) Q := by
  exact e_if_eq zd82_8 (tg := 31) rfl kt kf
theorem b82_11 {x : zXs} {F : zF} (hF : zSh F) {d : Nat} {V : Nat → Nat → Int32} {T : Nat → Nat → Int64} {Q : Option Value → zG → Prop} {o1 : Option Value} {l2 : Int32} {o3 : Option Value} {o4 : Option Value}   (k : E x F d 12 0 [some (.ref 1), some (.int l2)] [] (V, T) (fun r G' => E x F (d + 1) 82 19 [some (.ref 0), o1, some (.int l2), o3, o4] (r.toList ++ []) G' Q)) : E x F (d + 1) 82 11 [some (.ref 0), o1, some (.int l2), o3, o4] [] (V, T) Q := by
  refine e_aload_n zd82_11 rfl rfl ?_
  refine e_getO zd82_12 (own := 7) (ci := 7) (kf := 0) (w := 297) (by decide +kernel) (by decide +kernel) (zsh_at hF rfl).1 (by decide +kernel) rfl (zrf_at hF (i := 0) rfl) ?_
  refine e_iload_n zd82_15 rfl ?_
  exact e_callV zd82_16 (own := 7) (nest := false) (w := 329) (by decide +kernel) (by decide +kernel) zs12 (as := [.int l2]) (rest := []) rfl rfl (zsh_at hF rfl).1 (by omega) (Nat.le_of_ble_eq_true rfl) rfl rfl rfl (by omega) k
theorem b82_19 {x : zXs} {F : zF} (hF : zSh F) {d : Nat} {V : Nat → Nat → Int32} {T : Nat → Nat → Int64} {Q : Option Value → zG → Prop} {o0 : Option Value} {o1 : Option Value} {o2 : Option Value} {o3 : Option Value} {o4 : Option Value} {s0 : Int32}   (kt : s0 = 0 → E x F d 82 31 [o0, o1, o2, o3, o4] [] (V, T) Q) (kf : ¬ (s0 = 0) → E x F d 82 22 [o0, o1, o2, o3, o4] [] (V, T) Q) : E x F d 82 19 [o0, o1, o2, o3, o4] [.int s0] (V, T) Q := by
  exact e_if_eq zd82_19 (tg := 31) rfl kt kf
theorem b82_22 {x : zXs} {F : zF} (hF : zSh F) {d : Nat} {V : Nat → Nat → Int32} {T : Nat → Nat → Int64} {Q : Option Value → zG → Prop} {o0 : Option Value} {o1 : Option Value} {o2 : Option Value} {l3 : Int32} {o4 : Option Value}   (k : E x F d 7 0 [some (.int l3), some (.int (Int32.ofInt 0)), some (.int (Int32.ofInt 3))] [] (V, T) (fun r G' => E x F (d + 1) 82 28 [o0, o1, o2, some (.int l3), o4] (r.toList ++ []) G' Q)) : E x F (d + 1) 82 22 [o0, o1, o2, some (.int l3), o4] [] (V, T) Q := by
  refine e_iload_n zd82_22 rfl ?_
  refine e_iconst zd82_23 ?_
  refine e_iconst zd82_24 ?_
  exact e_callS zd82_25 (own := 7) (nest := false) (w := 334) (by decide +kernel) (by decide +kernel) zs7 (as := [.int l3, .int (Int32.ofInt 0), .int (Int32.ofInt 3)]) (rest := []) rfl rfl (Nat.le_of_ble_eq_true rfl) rfl rfl rfl (by omega) k
theorem b82_28 {x : zXs} {F : zF} (hF : zSh F) {d : Nat} {V : Nat → Nat → Int32} {T : Nat → Nat → Int64} {Q : Option Value → zG → Prop} {o0 : Option Value} {o1 : Option Value} {o2 : Option Value} {o3 : Option Value} {o4 : Option Value} {s0 : Int32}   (kt : ¬ s0 = 0 → E x F d 82 34 [o0, o1, o2, o3, o4] [] (V, T) Q) (kf : ¬ (¬ s0 = 0) → E x F d 82 31 [o0, o1, o2, o3, o4] [] (V, T) Q) : E x F d 82 28 [o0, o1, o2, o3, o4] [.int s0] (V, T) Q := by
  exact e_if_ne zd82_28 (tg := 34) rfl kt kf
theorem b82_31 {x : zXs} {F : zF} (hF : zSh F) {d : Nat} {V : Nat → Nat → Int32} {T : Nat → Nat → Int64} {Q : Option Value → zG → Prop} {o0 : Option Value} {o1 : Option Value} {o2 : Option Value} {o3 : Option Value} {o4 : Option Value}   (k : Q (some (.int (Int32.ofInt (-100)))) (V, T)) : E x F d 82 31 [o0, o1, o2, o3, o4] [] (V, T) Q := by
  refine e_bipush zd82_31 (v := Int32.ofInt (-100)) (by decide +kernel) ?_
  exact e_ireti zd82_33 zs82 k
theorem b82_34 {x : zXs} {F : zF} (hF : zSh F) {d : Nat} {V : Nat → Nat → Int32} {T : Nat → Nat → Int64} {Q : Option Value → zG → Prop} {o1 : Option Value} {o2 : Option Value} {o3 : Option Value} {o4 : Option Value}   (k : E x F d 83 0 [some (.ref 7), some (.ref 1)] [] (V, T) (fun r G' => E x F (d + 1) 82 45 [some (.ref 0), o1, o2, o3, o4] (r.toList ++ []) G' Q)) : E x F (d + 1) 82 34 [some (.ref 0), o1, o2, o3, o4] [] (V, T) Q := by
  refine e_aload_n zd82_34 rfl rfl ?_
  refine e_getO zd82_35 (own := 7) (ci := 7) (kf := 1) (w := 298) (by decide +kernel) (by decide +kernel) (zsh_at hF rfl).1 (by decide +kernel) rfl (zrf_at hF (i := 1) rfl) ?_
  refine e_aload_n zd82_38 rfl rfl ?_
  refine e_getO zd82_39 (own := 7) (ci := 7) (kf := 0) (w := 297) (by decide +kernel) (by decide +kernel) (zsh_at hF rfl).1 (by decide +kernel) rfl (zrf_at hF (i := 0) rfl) ?_
  exact e_callV zd82_42 (own := 7) (nest := false) (w := 666) (by decide +kernel) (by decide +kernel) zs83 (as := [.ref 1]) (rest := []) rfl rfl (zsh_at hF rfl).1 (by omega) (Nat.le_of_ble_eq_true rfl) rfl rfl rfl (by omega) k
theorem b82_45 {x : zXs} {F : zF} (hF : zSh F) {d : Nat} {V : Nat → Nat → Int32} {T : Nat → Nat → Int64} {Q : Option Value → zG → Prop} {l1 : Int32} {l2 : Int32} {o3 : Option Value} {o4 : Option Value}   (k : E x F d 74 0 [some (.ref 19), some (.ref 7), some (.int l1), some (.int l2), none, none, none, none, none, none, none, none, none, none] [] (V, T) (fun r G' => E x F (d + 1) 82 58 [some (.ref 0), some (.int l1), some (.int l2), o3, o4] (r.toList ++ []) G' Q)) : E x F (d + 1) 82 45 [some (.ref 0), some (.int l1), some (.int l2), o3, o4] [] (V, T) Q := by
  refine e_aload_n zd82_45 rfl rfl ?_
  refine e_getO zd82_46 (own := 7) (ci := 7) (kf := 3) (w := 300) (by decide +kernel) (by decide +kernel) (zsh_at hF rfl).1 (by decide +kernel) rfl (zrf_at hF (i := 3) rfl) ?_
  refine e_aload_n zd82_49 rfl rfl ?_
  refine e_getO zd82_50 (own := 7) (ci := 7) (kf := 1) (w := 298) (by decide +kernel) (by decide +kernel) (zsh_at hF rfl).1 (by decide +kernel) rfl (zrf_at hF (i := 1) rfl) ?_
  refine e_iload_n zd82_53 rfl ?_
  refine e_iload_n zd82_54 rfl ?_
  exact e_callV zd82_55 (own := 7) (nest := false) (w := 618) (by decide +kernel) (by decide +kernel) zs74 (as := [.ref 7, .int l1, .int l2]) (rest := []) rfl rfl (zsh_at hF rfl).1 (by omega) (Nat.le_of_ble_eq_true rfl) rfl rfl rfl (by omega) k
theorem b82_58 {x : zXs} {F : zF} (hF : zSh F) {d : Nat} {V : Nat → Nat → Int32} {T : Nat → Nat → Int64} {Q : Option Value → zG → Prop} {o0 : Option Value} {o1 : Option Value} {o2 : Option Value} {l3 : Int32} {o4 : Option Value} {s0 : Int32}   (k0 : l3 = Int32.ofInt 0 → E x F d 82 88 [o0, o1, o2, some (.int l3), some (.int s0)] [] (V, T) Q) (k1 : l3 = Int32.ofInt 1 → E x F d 82 91 [o0, o1, o2, some (.int l3), some (.int s0)] [] (V, T) Q) (k2 : l3 = Int32.ofInt 2 → E x F d 82 100 [o0, o1, o2, some (.int l3), some (.int s0)] [] (V, T) Q) (kd : ¬ l3 = Int32.ofInt 0 ∧ ¬ l3 = Int32.ofInt 1 ∧ ¬ l3 = Int32.ofInt 2 → E x F d 82 110 [o0, o1, o2, some (.int l3), some (.int s0)] [] (V, T) Q) : E x F d 82 58 [o0, o1, o2, some (.int l3), o4] [.int s0] (V, T) Q := by
  refine e_istore zd82_58 (by decide +kernel) (Nat.le_of_ble_eq_true rfl) ?_
  refine e_iload_n zd82_60 rfl ?_
  by_cases c0 : l3 = Int32.ofInt 0
  · exact e_tableIn zd82_61 (off := 27) (by rw [c0]; decide +kernel) (by rw [c0]; decide +kernel) (tg := 88) rfl (k0 c0)
  by_cases c1 : l3 = Int32.ofInt 1
  · exact e_tableIn zd82_61 (off := 30) (by rw [c1]; decide +kernel) (by rw [c1]; decide +kernel) (tg := 91) rfl (k1 c1)
  by_cases c2 : l3 = Int32.ofInt 2
  · exact e_tableIn zd82_61 (off := 39) (by rw [c2]; decide +kernel) (by rw [c2]; decide +kernel) (tg := 100) rfl (k2 c2)
  exact e_tableOut zd82_61 (zsw_out (lo := 0) (hi := 2) (by decide) (by decide) (fun v h1 h2 h => by
    rcases (show v = 0 ∨ v = 1 ∨ v = 2 by omega) with rfl | rfl | rfl
    · exact c0 h
    · exact c1 h
    · exact c2 h)) (tg := 110) rfl (kd ⟨c0, c1, c2⟩)
theorem b82_88 {x : zXs} {F : zF} (hF : zSh F) {d : Nat} {V : Nat → Nat → Int32} {T : Nat → Nat → Int64} {Q : Option Value → zG → Prop} {o0 : Option Value} {o1 : Option Value} {o2 : Option Value} {o3 : Option Value} {l4 : Int32}   (k : Q (some (.int l4)) (V, T)) : E x F d 82 88 [o0, o1, o2, o3, some (.int l4)] [] (V, T) Q := by
  refine e_iload zd82_88 rfl ?_
  exact e_ireti zd82_90 zs82 k
theorem b82_91 {x : zXs} {F : zF} (hF : zSh F) {d : Nat} {V : Nat → Nat → Int32} {T : Nat → Nat → Int64} {Q : Option Value → zG → Prop} {o1 : Option Value} {l2 : Int32} {o3 : Option Value} {o4 : Option Value}   (k : E x F d 13 0 [some (.ref 7), some (.int l2)] [] (V, T) (fun r G' => E x F (d + 1) 82 99 [some (.ref 0), o1, some (.int l2), o3, o4] (r.toList ++ []) G' Q)) : E x F (d + 1) 82 91 [some (.ref 0), o1, some (.int l2), o3, o4] [] (V, T) Q := by
  refine e_aload_n zd82_91 rfl rfl ?_
  refine e_getO zd82_92 (own := 7) (ci := 7) (kf := 1) (w := 298) (by decide +kernel) (by decide +kernel) (zsh_at hF rfl).1 (by decide +kernel) rfl (zrf_at hF (i := 1) rfl) ?_
  refine e_iload_n zd82_95 rfl ?_
  exact e_callV zd82_96 (own := 7) (nest := false) (w := 335) (by decide +kernel) (by decide +kernel) zs13 (as := [.int l2]) (rest := []) rfl rfl (zsh_at hF rfl).1 (by omega) (Nat.le_of_ble_eq_true rfl) rfl rfl rfl (by omega) k
theorem b82_99 {x : zXs} {F : zF} (hF : zSh F) {d : Nat} {V : Nat → Nat → Int32} {T : Nat → Nat → Int64} {Q : Option Value → zG → Prop} {o0 : Option Value} {o1 : Option Value} {o2 : Option Value} {o3 : Option Value} {o4 : Option Value} {s0 : Int32}   (k : Q (some (.int s0)) (V, T)) : E x F d 82 99 [o0, o1, o2, o3, o4] [.int s0] (V, T) Q := by
  exact e_ireti zd82_99 zs82 k
theorem b82_100 {x : zXs} {F : zF} (hF : zSh F) {d : Nat} {V : Nat → Nat → Int32} {T : Nat → Nat → Int64} {Q : Option Value → zG → Prop} {l1 : Int32} {o2 : Option Value} {o3 : Option Value} {o4 : Option Value}  {i1 : Nat} (e1 : l1 = nI i1) (h1 : i1 < 5) (k : Q (some (.int (V 12 i1))) (V, T)) : E x F d 82 100 [some (.ref 0), some (.int l1), o2, o3, o4] [] (V, T) Q := by
  refine e_aload_n zd82_100 rfl rfl ?_
  refine e_getO zd82_101 (own := 7) (ci := 7) (kf := 1) (w := 298) (by decide +kernel) (by decide +kernel) (zsh_at hF rfl).1 (by decide +kernel) rfl (zrf_at hF (i := 1) rfl) ?_
  refine e_getA zd82_104 (own := 7) (ci := 4) (kf := 4) (w := 125) (by decide +kernel) (by decide +kernel) (zsh_at hF rfl).1 (by decide +kernel) rfl (zrf_at hF (i := 17) rfl) ?_
  refine e_iload_n zd82_107 rfl ?_
  refine e_iald zd82_108 (i := i1) (zsh_at hF rfl) e1 h1 (by omega) ?_
  exact e_ireti zd82_109 zs82 k
theorem b82_110 {x : zXs} {F : zF} (hF : zSh F) {d : Nat} {V : Nat → Nat → Int32} {T : Nat → Nat → Int64} {Q : Option Value → zG → Prop} {o1 : Option Value} {l2 : Int32} {o3 : Option Value} {o4 : Option Value}   (k : E x F d 33 0 [some (.ref 7), some (.int l2), none, none, none] [] (V, T) (fun r G' => E x F (d + 1) 82 118 [some (.ref 0), o1, some (.int l2), o3, o4] (r.toList ++ []) G' Q)) : E x F (d + 1) 82 110 [some (.ref 0), o1, some (.int l2), o3, o4] [] (V, T) Q := by
  refine e_aload_n zd82_110 rfl rfl ?_
  refine e_getO zd82_111 (own := 7) (ci := 7) (kf := 1) (w := 298) (by decide +kernel) (by decide +kernel) (zsh_at hF rfl).1 (by decide +kernel) rfl (zrf_at hF (i := 1) rfl) ?_
  refine e_iload_n zd82_114 rfl ?_
  exact e_callV zd82_115 (own := 7) (nest := false) (w := 415) (by decide +kernel) (by decide +kernel) zs33 (as := [.int l2]) (rest := []) rfl rfl (zsh_at hF rfl).1 (by omega) (Nat.le_of_ble_eq_true rfl) rfl rfl rfl (by omega) k
theorem b82_118 {x : zXs} {F : zF} (hF : zSh F) {d : Nat} {V : Nat → Nat → Int32} {T : Nat → Nat → Int64} {Q : Option Value → zG → Prop} {o0 : Option Value} {o1 : Option Value} {o2 : Option Value} {o3 : Option Value} {o4 : Option Value} {s0 : Int32}   (k : Q (some (.int s0)) (V, T)) : E x F d 82 118 [o0, o1, o2, o3, o4] [.int s0] (V, T) Q := by
  exact e_ireti zd82_118 zs82 k
theorem zd83_0 : zop 83 0 = some (.aload_n 1, 1) := by decide +kernel
theorem zd83_1 : zop 83 1 = some (.getfield 9, 3) := by decide +kernel
theorem zd83_4 : zop 83 4 = some (.iconst 0, 1) := by decide +kernel
theorem zd83_5 : zop 83 5 = some (.aload_n 0, 1) := by decide +kernel
theorem zd83_6 : zop 83 6 = some (.getfield 9, 3) := by decide +kernel
theorem zd83_9 : zop 83 9 = some (.iconst 0, 1) := by decide +kernel
theorem zd83_10 : zop 83 10 = some (.iconst 4, 1) := by decide +kernel
theorem zd83_11 : zop 83 11 = some (.invokestatic 27, 3) := by decide +kernel
theorem zd83_14 : zop 83 14 = some (.aload_n 1, 1) := by decide +kernel
theorem zd83_15 : zop 83 15 = some (.getfield 15, 3) := by decide +kernel
theorem zd83_18 : zop 83 18 = some (.iconst 0, 1) := by decide +kernel
theorem zd83_19 : zop 83 19 = some (.aload_n 0, 1) := by decide +kernel
theorem zd83_20 : zop 83 20 = some (.getfield 15, 3) := by decide +kernel
theorem zd83_23 : zop 83 23 = some (.iconst 0, 1) := by decide +kernel
theorem zd83_24 : zop 83 24 = some (.iconst 4, 1) := by decide +kernel
theorem zd83_25 : zop 83 25 = some (.invokestatic 27, 3) := by decide +kernel
theorem zd83_28 : zop 83 28 = some (.aload_n 1, 1) := by decide +kernel
theorem zd83_29 : zop 83 29 = some (.getfield 18, 3) := by decide +kernel
theorem zd83_32 : zop 83 32 = some (.iconst 0, 1) := by decide +kernel
theorem zd83_33 : zop 83 33 = some (.aload_n 0, 1) := by decide +kernel
theorem zd83_34 : zop 83 34 = some (.getfield 18, 3) := by decide +kernel
theorem zd83_37 : zop 83 37 = some (.iconst 0, 1) := by decide +kernel
theorem zd83_38 : zop 83 38 = some (.iconst 5, 1) := by decide +kernel
theorem zd83_39 : zop 83 39 = some (.invokestatic 27, 3) := by decide +kernel
theorem zd83_42 : zop 83 42 = some (.aload_n 1, 1) := by decide +kernel
theorem zd83_43 : zop 83 43 = some (.getfield 21, 3) := by decide +kernel
theorem zd83_46 : zop 83 46 = some (.iconst 0, 1) := by decide +kernel
theorem zd83_47 : zop 83 47 = some (.aload_n 0, 1) := by decide +kernel
theorem zd83_48 : zop 83 48 = some (.getfield 21, 3) := by decide +kernel
theorem zd83_51 : zop 83 51 = some (.iconst 0, 1) := by decide +kernel
theorem zd83_52 : zop 83 52 = some (.iconst 5, 1) := by decide +kernel
theorem zd83_53 : zop 83 53 = some (.invokestatic 27, 3) := by decide +kernel
theorem zd83_56 : zop 83 56 = some (.aload_n 1, 1) := by decide +kernel
theorem zd83_57 : zop 83 57 = some (.getfield 24, 3) := by decide +kernel
theorem zd83_60 : zop 83 60 = some (.iconst 0, 1) := by decide +kernel
theorem zd83_61 : zop 83 61 = some (.aload_n 0, 1) := by decide +kernel
theorem zd83_62 : zop 83 62 = some (.getfield 24, 3) := by decide +kernel
theorem zd83_65 : zop 83 65 = some (.iconst 0, 1) := by decide +kernel
theorem zd83_66 : zop 83 66 = some (.iconst 5, 1) := by decide +kernel
theorem zd83_67 : zop 83 67 = some (.invokestatic 27, 3) := by decide +kernel
theorem zd83_70 : zop 83 70 = some (.aload_n 0, 1) := by decide +kernel
theorem zd83_71 : zop 83 71 = some (.aload_n 1, 1) := by decide +kernel
theorem zd83_72 : zop 83 72 = some (.getfield 33, 3) := by decide +kernel
theorem zd83_75 : zop 83 75 = some (.putfield 33, 3) := by decide +kernel
theorem zd83_78 : zop 83 78 = some (.aload_n 0, 1) := by decide +kernel
theorem zd83_79 : zop 83 79 = some (.aload_n 1, 1) := by decide +kernel
theorem zd83_80 : zop 83 80 = some (.getfield 37, 3) := by decide +kernel
theorem zd83_83 : zop 83 83 = some (.putfield 37, 3) := by decide +kernel
theorem zd83_86 : zop 83 86 = some (.aload_n 0, 1) := by decide +kernel
theorem zd83_87 : zop 83 87 = some (.aload_n 1, 1) := by decide +kernel
theorem zd83_88 : zop 83 88 = some (.getfield 40, 3) := by decide +kernel
theorem zd83_91 : zop 83 91 = some (.putfield 40, 3) := by decide +kernel
theorem zd83_94 : zop 83 94 = some (.return_, 1) := by decide +kernel
theorem b83_0 {x : zXs} {F : zF} (hF : zSh F) {d : Nat} {V : Nat → Nat → Int32} {T : Nat → Nat → Int64} {Q : Option Value → zG → Prop} {l0 : Nat} {l1 : Nat} (hl0 : zSt l0) (hl1 : zSt l1)  (k : Q none (zu (zu (zu (zcpy (zcpy (zcpy (zcpy (zcpy V (l1 + 1) (l0 + 1) 0 0 4) (l1 + 2) (l0 + 2) 0 0 4) (l1 + 3) (l0 + 3) 0 0 5) (l1 + 4) (l0 + 4) 0 0 5) (l1 + 5) (l0 + 5) 0 0 5) l0 5 ((zcpy (zcpy (zcpy (zcpy (zcpy V (l1 + 1) (l0 + 1) 0 0 4) (l1 + 2) (l0 + 2) 0 0 4) (l1 + 3) (l0 + 3) 0 0 5) (l1 + 4) (l0 + 4) 0 0 5) (l1 + 5) (l0 + 5) 0 0 5) l1 5)) l0 6 ((zu (zcpy (zcpy (zcpy (zcpy (zcpy V (l1 + 1) (l0 + 1) 0 0 4) (l1 + 2) (l0 + 2) 0 0 4) (l1 + 3) (l0 + 3) 0 0 5) (l1 + 4) (l0 + 4) 0 0 5) (l1 + 5) (l0 + 5) 0 0 5) l0 5 ((zcpy (zcpy (zcpy (zcpy (zcpy V (l1 + 1) (l0 + 1) 0 0 4) (l1 + 2) (l0 + 2) 0 0 4) (l1 + 3) (l0 + 3) 0 0 5) (l1 + 4) (l0 + 4) 0 0 5) (l1 + 5) (l0 + 5) 0 0 5) l1 5)) l1 6)) l0 7 ((zu (zu (zcpy (zcpy (zcpy (zcpy (zcpy V (l1 + 1) (l0 + 1) 0 0 4) (l1 + 2) (l0 + 2) 0 0 4) (l1 + 3) (l0 + 3) 0 0 5) (l1 + 4) (l0 + 4) 0 0 5) (l1 + 5) (l0 + 5) 0 0 5) l0 5 ((zcpy (zcpy (zcpy (zcpy (zcpy V (l1 + 1) (l0 + 1) 0 0 4) (l1 + 2) (l0 + 2) 0 0 4) (l1 + 3) (l0 + 3) 0 0 5) (l1 + 4) (l0 + 4) 0 0 5) (l1 + 5) (l0 + 5) 0 0 5) l1 5)) l0 6 ((zu (zcpy (zcpy (zcpy (zcpy (zcpy V (l1 + 1) (l0 + 1) 0 0 4) (l1 + 2) (l0 + 2) 0 0 4) (l1 + 3) (l0 + 3) 0 0 5) (l1 + 4) (l0 + 4) 0 0 5) (l1 + 5) (l0 + 5) 0 0 5) l0 5 ((zcpy (zcpy (zcpy (zcpy (zcpy V (l1 + 1) (l0 + 1) 0 0 4) (l1 + 2) (l0 + 2) 0 0 4) (l1 + 3) (l0 + 3) 0 0 5) (l1 + 4) (l0 + 4) 0 0 5) (l1 + 5) (l0 + 5) 0 0 5) l1 5)) l1 6)) l1 7), T)) : E x F d 83 0 [some (.ref l0), some (.ref l1)] [] (V, T) Q := by
  refine e_aload_n zd83_0 rfl rfl ?_
  refine e_getA zd83_1 (own := 4) (ci := 4) (kf := 0) (w := 110) (by decide +kernel) (by decide +kernel) (zSt_s hF hl1).1 (by decide +kernel) rfl (zSt_f0 hF hl1) ?_
  refine e_iconst zd83_4 ?_
  refine e_aload_n zd83_5 rfl rfl ?_
  refine e_getA zd83_6 (own := 4) (ci := 4) (kf := 0) (w := 110) (by decide +kernel) (by decide +kernel) (zSt_s hF hl0).1 (by decide +kernel) rfl (zSt_f0 hF hl0) ?_
  refine e_iconst zd83_9 ?_
  refine e_iconst zd83_10 ?_
  refine e_acopy zd83_11 (sp := 0) (dp := 0) (n := 4) (own := 4) (w := 670) (by decide +kernel) (by decide +kernel) (by decide +kernel) (by decide +kernel) (Nat.le_of_ble_eq_true rfl) (zSt_a0 hF hl1) (zSt_a0 hF hl0) rfl rfl rfl (by omega) (by omega) (by omega) ?_
  refine e_aload_n zd83_14 rfl rfl ?_
  refine e_getA zd83_15 (own := 4) (ci := 4) (kf := 1) (w := 113) (by decide +kernel) (by decide +kernel) (zSt_s hF hl1).1 (by decide +kernel) rfl (zSt_f1 hF hl1) ?_
  refine e_iconst zd83_18 ?_
  refine e_aload_n zd83_19 rfl rfl ?_
  refine e_getA zd83_20 (own := 4) (ci := 4) (kf := 1) (w := 113) (by decide +kernel) (by decide +kernel) (zSt_s hF hl0).1 (by decide +kernel) rfl (zSt_f1 hF hl0) ?_
  refine e_iconst zd83_23 ?_
  refine e_iconst zd83_24 ?_
  refine e_acopy zd83_25 (sp := 0) (dp := 0) (n := 4) (own := 4) (w := 670) (by decide +kernel) (by decide +kernel) (by decide +kernel) (by decide +kernel) (Nat.le_of_ble_eq_true rfl) (zSt_a1 hF hl1) (zSt_a1 hF hl0) rfl rfl rfl (by omega) (by omega) (by omega) ?_
  refine e_aload_n zd83_28 rfl rfl ?_
  refine e_getA zd83_29 (own := 4) (ci := 4) (kf := 2) (w := 116) (by decide +kernel) (by decide +kernel) (zSt_s hF hl1).1 (by decide +kernel) rfl (zSt_f2 hF hl1) ?_
  refine e_iconst zd83_32 ?_
  refine e_aload_n zd83_33 rfl rfl ?_
  refine e_getA zd83_34 (own := 4) (ci := 4) (kf := 2) (w := 116) (by decide +kernel) (by decide +kernel) (zSt_s hF hl0).1 (by decide +kernel) rfl (zSt_f2 hF hl0) ?_
  refine e_iconst zd83_37 ?_
  refine e_iconst zd83_38 ?_
  refine e_acopy zd83_39 (sp := 0) (dp := 0) (n := 5) (own := 4) (w := 670) (by decide +kernel) (by decide +kernel) (by decide +kernel) (by decide +kernel) (Nat.le_of_ble_eq_true rfl) (zSt_a2 hF hl1) (zSt_a2 hF hl0) rfl rfl rfl (by omega) (by omega) (by omega) ?_
  refine e_aload_n zd83_42 rfl rfl ?_
  refine e_getA zd83_43 (own := 4) (ci := 4) (kf := 3) (w := 119) (by decide +kernel) (by decide +kernel) (zSt_s hF hl1).1 (by decide +kernel) rfl (zSt_f3 hF hl1) ?_
  refine e_iconst zd83_46 ?_
  refine e_aload_n zd83_47 rfl rfl ?_
  refine e_getA zd83_48 (own := 4) (ci := 4) (kf := 3) (w := 119) (by decide +kernel) (by decide +kernel) (zSt_s hF hl0).1 (by decide +kernel) rfl (zSt_f3 hF hl0) ?_
  refine e_iconst zd83_51 ?_
  refine e_iconst zd83_52 ?_
  refine e_acopy zd83_53 (sp := 0) (dp := 0) (n := 5) (own := 4) (w := 670) (by decide +kernel) (by decide +kernel) (by decide +kernel) (by decide +kernel) (Nat.le_of_ble_eq_true rfl) (zSt_a3 hF hl1) (zSt_a3 hF hl0) rfl rfl rfl (by omega) (by omega) (by omega) ?_
  refine e_aload_n zd83_56 rfl rfl ?_
  refine e_getA zd83_57 (own := 4) (ci := 4) (kf := 4) (w := 123) (by decide +kernel) (by decide +kernel) (zSt_s hF hl1).1 (by decide +kernel) rfl (zSt_f4 hF hl1) ?_
  refine e_iconst zd83_60 ?_
  refine e_aload_n zd83_61 rfl rfl ?_
  refine e_getA zd83_62 (own := 4) (ci := 4) (kf := 4) (w := 123) (by decide +kernel) (by decide +kernel) (zSt_s hF hl0).1 (by decide +kernel) rfl (zSt_f4 hF hl0) ?_
  refine e_iconst zd83_65 ?_
  refine e_iconst zd83_66 ?_
  refine e_acopy zd83_67 (sp := 0) (dp := 0) (n := 5) (own := 4) (w := 670) (by decide +kernel) (by decide +kernel) (by decide +kernel) (by decide +kernel) (Nat.le_of_ble_eq_true rfl) (zSt_a4 hF hl1) (zSt_a4 hF hl0) rfl rfl rfl (by omega) (by omega) (by omega) ?_
  refine e_aload_n zd83_70 rfl rfl ?_
  refine e_aload_n zd83_71 rfl rfl ?_
  refine e_getI zd83_72 (own := 4) (ci := 4) (kf := 5) (w := 127) (by decide +kernel) (by decide +kernel) (zSt_s hF hl1).1 (by decide +kernel) rfl ?_
  refine e_putI zd83_75 (own := 4) (ci := 4) (kf := 5) (w := 127) (by decide +kernel) (by decide +kernel) (zSt_s hF hl0).1 (by decide +kernel) rfl ?_
  refine e_aload_n zd83_78 rfl rfl ?_
  refine e_aload_n zd83_79 rfl rfl ?_
  refine e_getI zd83_80 (own := 4) (ci := 4) (kf := 6) (w := 130) (by decide +kernel) (by decide +kernel) (zSt_s hF hl1).1 (by decide +kernel) rfl ?_
  refine e_putI zd83_83 (own := 4) (ci := 4) (kf := 6) (w := 130) (by decide +kernel) (by decide +kernel) (zSt_s hF hl0).1 (by decide +kernel) rfl ?_
  refine e_aload_n zd83_86 rfl rfl ?_
  refine e_aload_n zd83_87 rfl rfl ?_
  refine e_getI zd83_88 (own := 4) (ci := 4) (kf := 7) (w := 134) (by decide +kernel) (by decide +kernel) (zSt_s hF hl1).1 (by decide +kernel) rfl ?_
  refine e_putI zd83_91 (own := 4) (ci := 4) (kf := 7) (w := 134) (by decide +kernel) (by decide +kernel) (zSt_s hF hl0).1 (by decide +kernel) rfl ?_
  exact e_vret zd83_94 zs83 k
theorem zd84_0 : zop 84 0 = some (.aload_n 0, 1) := by decide +kernel
theorem zd84_1 : zop 84 1 = some (.getfield 10, 3) := by decide +kernel
theorem zd84_4 : zop 84 4 = some (.iload_n 1, 1) := by decide +kernel
theorem zd84_5 : zop 84 5 = some (.invokevirtual 91, 3) := by decide +kernel
theorem zd84_8 : zop 84 8 = some (.ifCond .eq 34, 3) := by decide +kernel
theorem zd84_11 : zop 84 11 = some (.aload_n 0, 1) := by decide +kernel
theorem zd84_12 : zop 84 12 = some (.getfield 10, 3) := by decide +kernel
theorem zd84_15 : zop 84 15 = some (.iload_n 2, 1) := by decide +kernel
theorem zd84_16 : zop 84 16 = some (.invokevirtual 55, 3) := by decide +kernel
theorem zd84_19 : zop 84 19 = some (.ifCond .eq 23, 3) := by decide +kernel
theorem zd84_22 : zop 84 22 = some (.iload_n 3, 1) := by decide +kernel
theorem zd84_23 : zop 84 23 = some (.iconst 0, 1) := by decide +kernel
theorem zd84_24 : zop 84 24 = some (.bipush 20, 2) := by decide +kernel
theorem zd84_26 : zop 84 26 = some (.invokestatic 59, 3) := by decide +kernel
theorem zd84_29 : zop 84 29 = some (.ifCond .eq 13, 3) := by decide +kernel
theorem zd84_32 : zop 84 32 = some (.iload 4, 2) := by decide +kernel
theorem zd84_34 : zop 84 34 = some (.iconst 0, 1) := by decide +kernel
theorem zd84_35 : zop 84 35 = some (.iconst 1, 1) := by decide +kernel
theorem zd84_36 : zop 84 36 = some (.invokestatic 59, 3) := by decide +kernel
theorem zd84_39 : zop 84 39 = some (.ifCond .ne 6, 3) := by decide +kernel
theorem zd84_42 : zop 84 42 = some (.bipush (-2), 2) := by decide +kernel
theorem zd84_44 : zop 84 44 = some (.ireturn, 1) := by decide +kernel
theorem zd84_45 : zop 84 45 = some (.aload_n 0, 1) := by decide +kernel
theorem zd84_46 : zop 84 46 = some (.getfield 16, 3) := by decide +kernel
theorem zd84_49 : zop 84 49 = some (.aload_n 0, 1) := by decide +kernel
theorem zd84_50 : zop 84 50 = some (.getfield 10, 3) := by decide +kernel
theorem zd84_53 : zop 84 53 = some (.invokevirtual 178, 3) := by decide +kernel
theorem zd84_56 : zop 84 56 = some (.iconst 0, 1) := by decide +kernel
theorem zd84_57 : zop 84 57 = some (.istore 5, 2) := by decide +kernel
theorem zd84_59 : zop 84 59 = some (.iload 5, 2) := by decide +kernel
theorem zd84_61 : zop 84 61 = some (.iload_n 3, 1) := by decide +kernel
theorem zd84_62 : zop 84 62 = some (.if_icmp .ge 14, 3) := by decide +kernel
theorem zd84_65 : zop 84 65 = some (.aload_n 0, 1) := by decide +kernel
theorem zd84_66 : zop 84 66 = some (.iload_n 2, 1) := by decide +kernel
theorem zd84_67 : zop 84 67 = some (.invokevirtual 180, 3) := by decide +kernel
theorem zd84_70 : zop 84 70 = some (.iinc 5 1, 3) := by decide +kernel
theorem zd84_73 : zop 84 73 = some (.goto (-14), 3) := by decide +kernel
theorem zd84_76 : zop 84 76 = some (.iload 4, 2) := by decide +kernel
theorem zd84_78 : zop 84 78 = some (.ifCond .ne 15, 3) := by decide +kernel
theorem zd84_81 : zop 84 81 = some (.aload_n 0, 1) := by decide +kernel
theorem zd84_82 : zop 84 82 = some (.getfield 16, 3) := by decide +kernel
theorem zd84_85 : zop 84 85 = some (.getfield 84, 3) := by decide +kernel
theorem zd84_88 : zop 84 88 = some (.iload_n 1, 1) := by decide +kernel
theorem zd84_89 : zop 84 89 = some (.iaload, 1) := by decide +kernel
theorem zd84_90 : zop 84 90 = some (.goto 11, 3) := by decide +kernel
theorem zd84_93 : zop 84 93 = some (.aload_n 0, 1) := by decide +kernel
theorem zd84_94 : zop 84 94 = some (.getfield 16, 3) := by decide +kernel
theorem zd84_97 : zop 84 97 = some (.iload_n 2, 1) := by decide +kernel
theorem zd84_98 : zop 84 98 = some (.invokevirtual 70, 3) := by decide +kernel
theorem zd84_101 : zop 84 101 = some (.ireturn, 1) := by decide +kernel
theorem b84_0 {x : zXs} {F : zF} (hF : zSh F) {d : Nat} {V : Nat → Nat → Int32} {T : Nat → Nat → Int64} {Q : Option Value → zG → Prop} {l1 : Int32} {o2 : Option Value} {o3 : Option Value} {o4 : Option Value} {o5 : Option Value}   (k : E x F d 19 0 [some (.ref 1), some (.int l1)] [] (V, T) (fun r G' => E x F (d + 1) 84 8 [some (.ref 0), some (.int l1), o2, o3, o4, o5] (r.toList ++ []) G' Q)) : E x F (d + 1) 84 0 [some (.ref 0), some (.int l1), o2, o3, o4, o5] [] (V, T) Q := by
  refine e_aload_n zd84_0 rfl rfl ?_
  refine e_getO zd84_1 (own := 7) (ci := 7) (kf := 0) (w := 297) (by decide +kernel) (by decide +kernel) (zsh_at hF rfl).1 (by decide +kernel) rfl (zrf_at hF (i := 0) rfl) ?_
  refine e_iload_n zd84_4 rfl ?_
  exact e_callV zd84_5 (own := 7) (nest := false) (w := 361) (by decide +kernel) (by decide +kernel) zs19 (as := [.int l1]) (rest := []) rfl rfl (zsh_at hF rfl).1 (by omega) (Nat.le_of_ble_eq_true rfl) rfl rfl rfl (by omega) k
theorem b84_8 {x : zXs} {F : zF} (hF : zSh F) {d : Nat} {V : Nat → Nat → Int32} {T : Nat → Nat → Int64} {Q : Option Value → zG → Prop} {o0 : Option Value} {o1 : Option Value} {o2 : Option Value} {o3 : Option Value} {o4 : Option Value} {o5 : Option Value} {s0 : Int32}   (kt : s0 = 0 → E x F d 84 42 [o0, o1, o2, o3, o4, o5] [] (V, T) Q) (kf : ¬ (s0 = 0) → E x F d 84 11 [o0, o1, o2, o3, o4, o5] [] (V, T) Q) : E x F d 84 8 [o0, o1, o2, o3, o4, o5] [.int s0] (V, T) Q := by
  exact e_if_eq zd84_8 (tg := 42) rfl kt kf
theorem b84_11 {x : zXs} {F : zF} (hF : zSh F) {d : Nat} {V : Nat → Nat → Int32} {T : Nat → Nat → Int64} {Q : Option Value → zG → Prop} {o1 : Option Value} {l2 : Int32} {o3 : Option Value} {o4 : Option Value} {o5 : Option Value}   (k : E x F d 12 0 [some (.ref 1), some (.int l2)] [] (V, T) (fun r G' => E x F (d + 1) 84 19 [some (.ref 0), o1, some (.int l2), o3, o4, o5] (r.toList ++ []) G' Q)) : E x F (d + 1) 84 11 [some (.ref 0), o1, some (.int l2), o3, o4, o5] [] (V, T) Q := by
  refine e_aload_n zd84_11 rfl rfl ?_
  refine e_getO zd84_12 (own := 7) (ci := 7) (kf := 0) (w := 297) (by decide +kernel) (by decide +kernel) (zsh_at hF rfl).1 (by decide +kernel) rfl (zrf_at hF (i := 0) rfl) ?_
  refine e_iload_n zd84_15 rfl ?_
  exact e_callV zd84_16 (own := 7) (nest := false) (w := 329) (by decide +kernel) (by decide +kernel) zs12 (as := [.int l2]) (rest := []) rfl rfl (zsh_at hF rfl).1 (by omega) (Nat.le_of_ble_eq_true rfl) rfl rfl rfl (by omega) k
theorem b84_19 {x : zXs} {F : zF} (hF : zSh F) {d : Nat} {V : Nat → Nat → Int32} {T : Nat → Nat → Int64} {Q : Option Value → zG → Prop} {o0 : Option Value} {o1 : Option Value} {o2 : Option Value} {o3 : Option Value} {o4 : Option Value} {o5 : Option Value} {s0 : Int32}   (kt : s0 = 0 → E x F d 84 42 [o0, o1, o2, o3, o4, o5] [] (V, T) Q) (kf : ¬ (s0 = 0) → E x F d 84 22 [o0, o1, o2, o3, o4, o5] [] (V, T) Q) : E x F d 84 19 [o0, o1, o2, o3, o4, o5] [.int s0] (V, T) Q := by
  exact e_if_eq zd84_19 (tg := 42) rfl kt kf
theorem b84_22 {x : zXs} {F : zF} (hF : zSh F) {d : Nat} {V : Nat → Nat → Int32} {T : Nat → Nat → Int64} {Q : Option Value → zG → Prop} {o0 : Option Value} {o1 : Option Value} {o2 : Option Value} {l3 : Int32} {o4 : Option Value} {o5 : Option Value}   (k : E x F d 7 0 [some (.int l3), some (.int (Int32.ofInt 0)), some (.int (Int32.ofInt 20))] [] (V, T) (fun r G' => E x F (d + 1) 84 29 [o0, o1, o2, some (.int l3), o4, o5] (r.toList ++ []) G' Q)) : E x F (d + 1) 84 22 [o0, o1, o2, some (.int l3), o4, o5] [] (V, T) Q := by
  refine e_iload_n zd84_22 rfl ?_
  refine e_iconst zd84_23 ?_
  refine e_bipush zd84_24 (v := Int32.ofInt 20) (by decide +kernel) ?_
  exact e_callS zd84_26 (own := 7) (nest := false) (w := 334) (by decide +kernel) (by decide +kernel) zs7 (as := [.int l3, .int (Int32.ofInt 0), .int (Int32.ofInt 20)]) (rest := []) rfl rfl (Nat.le_of_ble_eq_true rfl) rfl rfl rfl (by omega) k
theorem b84_29 {x : zXs} {F : zF} (hF : zSh F) {d : Nat} {V : Nat → Nat → Int32} {T : Nat → Nat → Int64} {Q : Option Value → zG → Prop} {o0 : Option Value} {o1 : Option Value} {o2 : Option Value} {o3 : Option Value} {o4 : Option Value} {o5 : Option Value} {s0 : Int32}   (kt : s0 = 0 → E x F d 84 42 [o0, o1, o2, o3, o4, o5] [] (V, T) Q) (kf : ¬ (s0 = 0) → E x F d 84 32 [o0, o1, o2, o3, o4, o5] [] (V, T) Q) : E x F d 84 29 [o0, o1, o2, o3, o4, o5] [.int s0] (V, T) Q := by
  exact e_if_eq zd84_29 (tg := 42) rfl kt kf
theorem b84_32 {x : zXs} {F : zF} (hF : zSh F) {d : Nat} {V : Nat → Nat → Int32} {T : Nat → Nat → Int64} {Q : Option Value → zG → Prop} {o0 : Option Value} {o1 : Option Value} {o2 : Option Value} {o3 : Option Value} {l4 : Int32} {o5 : Option Value}   (k : E x F d 7 0 [some (.int l4), some (.int (Int32.ofInt 0)), some (.int (Int32.ofInt 1))] [] (V, T) (fun r G' => E x F (d + 1) 84 39 [o0, o1, o2, o3, some (.int l4), o5] (r.toList ++ []) G' Q)) : E x F (d + 1) 84 32 [o0, o1, o2, o3, some (.int l4), o5] [] (V, T) Q := by
  refine e_iload zd84_32 rfl ?_
  refine e_iconst zd84_34 ?_
  refine e_iconst zd84_35 ?_
  exact e_callS zd84_36 (own := 7) (nest := false) (w := 334) (by decide +kernel) (by decide +kernel) zs7 (as := [.int l4, .int (Int32.ofInt 0), .int (Int32.ofInt 1)]) (rest := []) rfl rfl (Nat.le_of_ble_eq_true rfl) rfl rfl rfl (by omega) k
theorem b84_39 {x : zXs} {F : zF} (hF : zSh F) {d : Nat} {V : Nat → Nat → Int32} {T : Nat → Nat → Int64} {Q : Option Value → zG → Prop} {o0 : Option Value} {o1 : Option Value} {o2 : Option Value} {o3 : Option Value} {o4 : Option Value} {o5 : Option Value} {s0 : Int32}   (kt : ¬ s0 = 0 → E x F d 84 45 [o0, o1, o2, o3, o4, o5] [] (V, T) Q) (kf : ¬ (¬ s0 = 0) → E x F d 84 42 [o0, o1, o2, o3, o4, o5] [] (V, T) Q) : E x F d 84 39 [o0, o1, o2, o3, o4, o5] [.int s0] (V, T) Q := by
  exact e_if_ne zd84_39 (tg := 45) rfl kt kf
theorem b84_42 {x : zXs} {F : zF} (hF : zSh F) {d : Nat} {V : Nat → Nat → Int32} {T : Nat → Nat → Int64} {Q : Option Value → zG → Prop} {o0 : Option Value} {o1 : Option Value} {o2 : Option Value} {o3 : Option Value} {o4 : Option Value} {o5 : Option Value}   (k : Q (some (.int (Int32.ofInt (-2)))) (V, T)) : E x F d 84 42 [o0, o1, o2, o3, o4, o5] [] (V, T) Q := by
  refine e_bipush zd84_42 (v := Int32.ofInt (-2)) (by decide +kernel) ?_
  exact e_ireti zd84_44 zs84 k
theorem b84_45 {x : zXs} {F : zF} (hF : zSh F) {d : Nat} {V : Nat → Nat → Int32} {T : Nat → Nat → Int64} {Q : Option Value → zG → Prop} {o1 : Option Value} {o2 : Option Value} {o3 : Option Value} {o4 : Option Value} {o5 : Option Value}   (k : E x F d 83 0 [some (.ref 7), some (.ref 1)] [] (V, T) (fun r G' => E x F (d + 1) 84 56 [some (.ref 0), o1, o2, o3, o4, o5] (r.toList ++ []) G' Q)) : E x F (d + 1) 84 45 [some (.ref 0), o1, o2, o3, o4, o5] [] (V, T) Q := by
  refine e_aload_n zd84_45 rfl rfl ?_
  refine e_getO zd84_46 (own := 7) (ci := 7) (kf := 1) (w := 298) (by decide +kernel) (by decide +kernel) (zsh_at hF rfl).1 (by decide +kernel) rfl (zrf_at hF (i := 1) rfl) ?_
  refine e_aload_n zd84_49 rfl rfl ?_
  refine e_getO zd84_50 (own := 7) (ci := 7) (kf := 0) (w := 297) (by decide +kernel) (by decide +kernel) (zsh_at hF rfl).1 (by decide +kernel) rfl (zrf_at hF (i := 0) rfl) ?_
  exact e_callV zd84_53 (own := 7) (nest := false) (w := 666) (by decide +kernel) (by decide +kernel) zs83 (as := [.ref 1]) (rest := []) rfl rfl (zsh_at hF rfl).1 (by omega) (Nat.le_of_ble_eq_true rfl) rfl rfl rfl (by omega) k
theorem b84_56 {x : zXs} {F : zF} (hF : zSh F) {d : Nat} {V : Nat → Nat → Int32} {T : Nat → Nat → Int64} {Q : Option Value → zG → Prop} {o0 : Option Value} {o1 : Option Value} {o2 : Option Value} {o3 : Option Value} {o4 : Option Value} {o5 : Option Value}   (k : E x F d 84 59 [o0, o1, o2, o3, o4, some (.int (Int32.ofInt 0))] [] (V, T) Q) : E x F d 84 56 [o0, o1, o2, o3, o4, o5] [] (V, T) Q := by
  refine e_iconst zd84_56 ?_
  refine e_istore zd84_57 (by decide +kernel) (Nat.le_of_ble_eq_true rfl) ?_
  exact k
theorem b84_59 {x : zXs} {F : zF} (hF : zSh F) {d : Nat} {V : Nat → Nat → Int32} {T : Nat → Nat → Int64} {Q : Option Value → zG → Prop} {o0 : Option Value} {o1 : Option Value} {o2 : Option Value} {l3 : Int32} {o4 : Option Value} {l5 : Int32}   (kt : l3 ≤ l5 → E x F d 84 76 [o0, o1, o2, some (.int l3), o4, some (.int l5)] [] (V, T) Q) (kf : ¬ (l3 ≤ l5) → E x F d 84 65 [o0, o1, o2, some (.int l3), o4, some (.int l5)] [] (V, T) Q) : E x F d 84 59 [o0, o1, o2, some (.int l3), o4, some (.int l5)] [] (V, T) Q := by
  refine e_iload zd84_59 rfl ?_
  refine e_iload_n zd84_61 rfl ?_
  exact e_icmp_ge zd84_62 (tg := 76) rfl kt kf
theorem b84_65 {x : zXs} {F : zF} (hF : zSh F) {d : Nat} {V : Nat → Nat → Int32} {T : Nat → Nat → Int64} {Q : Option Value → zG → Prop} {o1 : Option Value} {l2 : Int32} {o3 : Option Value} {o4 : Option Value} {o5 : Option Value}   (k : E x F d 85 0 [some (.ref 0), some (.int l2)] [] (V, T) (fun r G' => E x F (d + 1) 84 70 [some (.ref 0), o1, some (.int l2), o3, o4, o5] (r.toList ++ []) G' Q)) : E x F (d + 1) 84 65 [some (.ref 0), o1, some (.int l2), o3, o4, o5] [] (V, T) Q := by
  refine e_aload_n zd84_65 rfl rfl ?_
  refine e_iload_n zd84_66 rfl ?_
  exact e_callV zd84_67 (own := 7) (nest := false) (w := 675) (by decide +kernel) (by decide +kernel) zs85 (as := [.int l2]) (rest := []) rfl rfl (zsh_at hF rfl).1 (by omega) (Nat.le_of_ble_eq_true rfl) rfl rfl rfl (by omega) k
theorem b84_70 {x : zXs} {F : zF} (hF : zSh F) {d : Nat} {V : Nat → Nat → Int32} {T : Nat → Nat → Int64} {Q : Option Value → zG → Prop} {o0 : Option Value} {o1 : Option Value} {o2 : Option Value} {o3 : Option Value} {o4 : Option Value} {l5 : Int32}   (k : E x F d 84 59 [o0, o1, o2, o3, o4, some (.int (l5 + Int32.ofInt 1))] [] (V, T) Q) : E x F d 84 70 [o0, o1, o2, o3, o4, some (.int l5)] [] (V, T) Q := by
  refine e_iinc zd84_70 rfl (by decide +kernel) ?_
  exact e_goto zd84_73 (tg := 59) rfl k
theorem b84_76 {x : zXs} {F : zF} (hF : zSh F) {d : Nat} {V : Nat → Nat → Int32} {T : Nat → Nat → Int64} {Q : Option Value → zG → Prop} {o0 : Option Value} {o1 : Option Value} {o2 : Option Value} {o3 : Option Value} {l4 : Int32} {o5 : Option Value}   (kt : ¬ l4 = 0 → E x F d 84 93 [o0, o1, o2, o3, some (.int l4), o5] [] (V, T) Q) (kf : ¬ (¬ l4 = 0) → E x F d 84 81 [o0, o1, o2, o3, some (.int l4), o5] [] (V, T) Q) : E x F d 84 76 [o0, o1, o2, o3, some (.int l4), o5] [] (V, T) Q := by
  refine e_iload zd84_76 rfl ?_
  exact e_if_ne zd84_78 (tg := 93) rfl kt kf
theorem b84_81 {x : zXs} {F : zF} (hF : zSh F) {d : Nat} {V : Nat → Nat → Int32} {T : Nat → Nat → Int64} {Q : Option Value → zG → Prop} {l1 : Int32} {o2 : Option Value} {o3 : Option Value} {o4 : Option Value} {o5 : Option Value}  {i1 : Nat} (e1 : l1 = nI i1) (h1 : i1 < 5) (k : E x F d 84 101 [some (.ref 0), some (.int l1), o2, o3, o4, o5] [.int (V 12 i1)] (V, T) Q) : E x F d 84 81 [some (.ref 0), some (.int l1), o2, o3, o4, o5] [] (V, T) Q := by
  refine e_aload_n zd84_81 rfl rfl ?_
  refine e_getO zd84_82 (own := 7) (ci := 7) (kf := 1) (w := 298) (by decide +kernel) (by decide +kernel) (zsh_at hF rfl).1 (by decide +kernel) rfl (zrf_at hF (i := 1) rfl) ?_
  refine e_getA zd84_85 (own := 7) (ci := 4) (kf := 4) (w := 125) (by decide +kernel) (by decide +kernel) (zsh_at hF rfl).1 (by decide +kernel) rfl (zrf_at hF (i := 17) rfl) ?_
  refine e_iload_n zd84_88 rfl ?_
  refine e_iald zd84_89 (i := i1) (zsh_at hF rfl) e1 h1 (by omega) ?_
  exact e_goto zd84_90 (tg := 101) rfl k
theorem b84_93 {x : zXs} {F : zF} (hF : zSh F) {d : Nat} {V : Nat → Nat → Int32} {T : Nat → Nat → Int64} {Q : Option Value → zG → Prop} {o1 : Option Value} {l2 : Int32} {o3 : Option Value} {o4 : Option Value} {o5 : Option Value}   (k : E x F d 13 0 [some (.ref 7), some (.int l2)] [] (V, T) (fun r G' => E x F (d + 1) 84 101 [some (.ref 0), o1, some (.int l2), o3, o4, o5] (r.toList ++ []) G' Q)) : E x F (d + 1) 84 93 [some (.ref 0), o1, some (.int l2), o3, o4, o5] [] (V, T) Q := by
  refine e_aload_n zd84_93 rfl rfl ?_
  refine e_getO zd84_94 (own := 7) (ci := 7) (kf := 1) (w := 298) (by decide +kernel) (by decide +kernel) (zsh_at hF rfl).1 (by decide +kernel) rfl (zrf_at hF (i := 1) rfl) ?_
  refine e_iload_n zd84_97 rfl ?_
  exact e_callV zd84_98 (own := 7) (nest := false) (w := 335) (by decide +kernel) (by decide +kernel) zs13 (as := [.int l2]) (rest := []) rfl rfl (zsh_at hF rfl).1 (by omega) (Nat.le_of_ble_eq_true rfl) rfl rfl rfl (by omega) k
theorem b84_101 {x : zXs} {F : zF} (hF : zSh F) {d : Nat} {V : Nat → Nat → Int32} {T : Nat → Nat → Int64} {Q : Option Value → zG → Prop} {o0 : Option Value} {o1 : Option Value} {o2 : Option Value} {o3 : Option Value} {o4 : Option Value} {o5 : Option Value} {s0 : Int32}   (k : Q (some (.int s0)) (V, T)) : E x F d 84 101 [o0, o1, o2, o3, o4, o5] [.int s0] (V, T) Q := by
  exact e_ireti zd84_101 zs84 k
theorem zd85_0 : zop 85 0 = some (.aload_n 0, 1) := by decide +kernel
theorem zd85_1 : zop 85 1 = some (.getfield 37, 3) := by decide +kernel
theorem zd85_4 : zop 85 4 = some (.aload_n 0, 1) := by decide +kernel
theorem zd85_5 : zop 85 5 = some (.getfield 16, 3) := by decide +kernel
theorem zd85_8 : zop 85 8 = some (.getfield 160, 3) := by decide +kernel
theorem zd85_11 : zop 85 11 = some (.invokevirtual 184, 3) := by decide +kernel
theorem zd85_14 : zop 85 14 = some (.aload_n 0, 1) := by decide +kernel
theorem zd85_15 : zop 85 15 = some (.getfield 25, 3) := by decide +kernel
theorem zd85_18 : zop 85 18 = some (.aload_n 0, 1) := by decide +kernel
theorem zd85_19 : zop 85 19 = some (.getfield 16, 3) := by decide +kernel
theorem zd85_22 : zop 85 22 = some (.iload_n 1, 1) := by decide +kernel
theorem zd85_23 : zop 85 23 = some (.aload_n 0, 1) := by decide +kernel
theorem zd85_24 : zop 85 24 = some (.getfield 37, 3) := by decide +kernel
theorem zd85_27 : zop 85 27 = some (.iconst (-1), 1) := by decide +kernel
theorem zd85_28 : zop 85 28 = some (.invokevirtual 167, 3) := by decide +kernel
theorem zd85_31 : zop 85 31 = some (.pop, 1) := by decide +kernel
theorem zd85_32 : zop 85 32 = some (.aload_n 0, 1) := by decide +kernel
theorem zd85_33 : zop 85 33 = some (.getfield 25, 3) := by decide +kernel
theorem zd85_36 : zop 85 36 = some (.aload_n 0, 1) := by decide +kernel
theorem zd85_37 : zop 85 37 = some (.getfield 16, 3) := by decide +kernel
theorem zd85_40 : zop 85 40 = some (.invokevirtual 171, 3) := by decide +kernel
theorem zd85_43 : zop 85 43 = some (.return_, 1) := by decide +kernel
theorem b85_0 {x : zXs} {F : zF} (hF : zSh F) {d : Nat} {V : Nat → Nat → Int32} {T : Nat → Nat → Int64} {Q : Option Value → zG → Prop} {o1 : Option Value}   (k : E x F d 86 0 [some (.ref 43), some (.int (V 7 5)), none] [] (V, T) (fun r G' => E x F (d + 1) 85 14 [some (.ref 0), o1] (r.toList ++ []) G' Q)) : E x F (d + 1) 85 0 [some (.ref 0), o1] [] (V, T) Q := by
  refine e_aload_n zd85_0 rfl rfl ?_
  refine e_getO zd85_1 (own := 7) (ci := 7) (kf := 5) (w := 302) (by decide +kernel) (by decide +kernel) (zsh_at hF rfl).1 (by decide +kernel) rfl (zrf_at hF (i := 5) rfl) ?_
  refine e_aload_n zd85_4 rfl rfl ?_
  refine e_getO zd85_5 (own := 7) (ci := 7) (kf := 1) (w := 298) (by decide +kernel) (by decide +kernel) (zsh_at hF rfl).1 (by decide +kernel) rfl (zrf_at hF (i := 1) rfl) ?_
  refine e_getI zd85_8 (own := 7) (ci := 4) (kf := 5) (w := 129) (by decide +kernel) (by decide +kernel) (zsh_at hF rfl).1 (by decide +kernel) rfl ?_
  exact e_callV zd85_11 (own := 7) (nest := false) (w := 679) (by decide +kernel) (by decide +kernel) zs86 (as := [.int (V 7 5)]) (rest := []) rfl rfl (zsh_at hF rfl).1 (by omega) (Nat.le_of_ble_eq_true rfl) rfl rfl rfl (by omega) k
theorem b85_14 {x : zXs} {F : zF} (hF : zSh F) {d : Nat} {V : Nat → Nat → Int32} {T : Nat → Nat → Int64} {Q : Option Value → zG → Prop} {l1 : Int32}   (k : E x F d 78 0 [some (.ref 19), some (.ref 7), some (.int l1), some (.ref 43), some (.int (Int32.ofInt (-1))), none, none, none, none] [] (V, T) (fun r G' => E x F (d + 1) 85 31 [some (.ref 0), some (.int l1)] (r.toList ++ []) G' Q)) : E x F (d + 1) 85 14 [some (.ref 0), some (.int l1)] [] (V, T) Q := by
  refine e_aload_n zd85_14 rfl rfl ?_
  refine e_getO zd85_15 (own := 7) (ci := 7) (kf := 3) (w := 300) (by decide +kernel) (by decide +kernel) (zsh_at hF rfl).1 (by decide +kernel) rfl (zrf_at hF (i := 3) rfl) ?_
  refine e_aload_n zd85_18 rfl rfl ?_
  refine e_getO zd85_19 (own := 7) (ci := 7) (kf := 1) (w := 298) (by decide +kernel) (by decide +kernel) (zsh_at hF rfl).1 (by decide +kernel) rfl (zrf_at hF (i := 1) rfl) ?_
  refine e_iload_n zd85_22 rfl ?_
  refine e_aload_n zd85_23 rfl rfl ?_
  refine e_getO zd85_24 (own := 7) (ci := 7) (kf := 5) (w := 302) (by decide +kernel) (by decide +kernel) (zsh_at hF rfl).1 (by decide +kernel) rfl (zrf_at hF (i := 5) rfl) ?_
  refine e_iconst zd85_27 ?_
  exact e_callV zd85_28 (own := 7) (nest := false) (w := 639) (by decide +kernel) (by decide +kernel) zs78 (as := [.ref 7, .int l1, .ref 43, .int (Int32.ofInt (-1))]) (rest := []) rfl rfl (zsh_at hF rfl).1 (by omega) (Nat.le_of_ble_eq_true rfl) rfl rfl rfl (by omega) k
theorem b85_31 {x : zXs} {F : zF} (hF : zSh F) {d : Nat} {V : Nat → Nat → Int32} {T : Nat → Nat → Int64} {Q : Option Value → zG → Prop} {o1 : Option Value} {s0 : Int32}   (k : E x F d 80 0 [some (.ref 19), some (.ref 7), none, none] [] (V, T) (fun r G' => E x F (d + 1) 85 43 [some (.ref 0), o1] (r.toList ++ []) G' Q)) : E x F (d + 1) 85 31 [some (.ref 0), o1] [.int s0] (V, T) Q := by
  refine e_pop zd85_31 rfl ?_
  refine e_aload_n zd85_32 rfl rfl ?_
  refine e_getO zd85_33 (own := 7) (ci := 7) (kf := 3) (w := 300) (by decide +kernel) (by decide +kernel) (zsh_at hF rfl).1 (by decide +kernel) rfl (zrf_at hF (i := 3) rfl) ?_
  refine e_aload_n zd85_36 rfl rfl ?_
  refine e_getO zd85_37 (own := 7) (ci := 7) (kf := 1) (w := 298) (by decide +kernel) (by decide +kernel) (zsh_at hF rfl).1 (by decide +kernel) rfl (zrf_at hF (i := 1) rfl) ?_
  exact e_callV zd85_40 (own := 7) (nest := false) (w := 648) (by decide +kernel) (by decide +kernel) zs80 (as := [.ref 7]) (rest := []) rfl rfl (zsh_at hF rfl).1 (by omega) (Nat.le_of_ble_eq_true rfl) rfl rfl rfl (by omega) k
theorem b85_43 {x : zXs} {F : zF} (hF : zSh F) {d : Nat} {V : Nat → Nat → Int32} {T : Nat → Nat → Int64} {Q : Option Value → zG → Prop} {o0 : Option Value} {o1 : Option Value}   (k : Q none (V, T)) : E x F d 85 43 [o0, o1] [] (V, T) Q := by
  exact e_vret zd85_43 zs85 k
theorem zd86_0 : zop 86 0 = some (.aload_n 0, 1) := by decide +kernel
theorem zd86_1 : zop 86 1 = some (.iload_n 1, 1) := by decide +kernel
theorem zd86_2 : zop 86 2 = some (.iconst 0, 1) := by decide +kernel
theorem zd86_3 : zop 86 3 = some (.iconst 5, 1) := by decide +kernel
theorem zd86_4 : zop 86 4 = some (.invokestatic 15, 3) := by decide +kernel
theorem zd86_7 : zop 86 7 = some (.putfield 19, 3) := by decide +kernel
theorem zd86_10 : zop 86 10 = some (.iconst 0, 1) := by decide +kernel
theorem zd86_11 : zop 86 11 = some (.istore_n 2, 1) := by decide +kernel
theorem zd86_12 : zop 86 12 = some (.iload_n 2, 1) := by decide +kernel
theorem zd86_13 : zop 86 13 = some (.aload_n 0, 1) := by decide +kernel
theorem zd86_14 : zop 86 14 = some (.getfield 19, 3) := by decide +kernel
theorem zd86_17 : zop 86 17 = some (.if_icmp .ge 16, 3) := by decide +kernel
theorem zd86_20 : zop 86 20 = some (.aload_n 0, 1) := by decide +kernel
theorem zd86_21 : zop 86 21 = some (.getfield 9, 3) := by decide +kernel
theorem zd86_24 : zop 86 24 = some (.iload_n 2, 1) := by decide +kernel
theorem zd86_25 : zop 86 25 = some (.iload_n 2, 1) := by decide +kernel
theorem zd86_26 : zop 86 26 = some (.iastore, 1) := by decide +kernel
theorem zd86_27 : zop 86 27 = some (.iinc 2 1, 3) := by decide +kernel
theorem zd86_30 : zop 86 30 = some (.goto (-18), 3) := by decide +kernel
theorem zd86_33 : zop 86 33 = some (.return_, 1) := by decide +kernel
theorem b86_0 {x : zXs} {F : zF} (hF : zSh F) {d : Nat} {V : Nat → Nat → Int32} {T : Nat → Nat → Int64} {Q : Option Value → zG → Prop} {l1 : Int32} {o2 : Option Value}   (k : E x F d 30 0 [some (.int l1), some (.int (Int32.ofInt 0)), some (.int (Int32.ofInt 5))] [] (V, T) (fun r G' => E x F (d + 1) 86 7 [some (.ref 43), some (.int l1), o2] (r.toList ++ [.ref 43]) G' Q)) : E x F (d + 1) 86 0 [some (.ref 43), some (.int l1), o2] [] (V, T) Q := by
  refine e_aload_n zd86_0 rfl rfl ?_
  refine e_iload_n zd86_1 rfl ?_
  refine e_iconst zd86_2 ?_
  refine e_iconst zd86_3 ?_
  exact e_callS zd86_4 (own := 1) (nest := true) (w := 637) (by decide +kernel) (by decide +kernel) zs30 (as := [.int l1, .int (Int32.ofInt 0), .int (Int32.ofInt 5)]) (rest := [.ref 43]) rfl rfl (Nat.le_of_ble_eq_true rfl) rfl rfl rfl (by omega) k
theorem b86_7 {x : zXs} {F : zF} (hF : zSh F) {d : Nat} {V : Nat → Nat → Int32} {T : Nat → Nat → Int64} {Q : Option Value → zG → Prop} {o0 : Option Value} {o1 : Option Value} {o2 : Option Value} {s1 : Int32}   (k : E x F d 86 12 [o0, o1, some (.int (Int32.ofInt 0))] [] (zu V 43 1 s1, T) Q) : E x F d 86 7 [o0, o1, o2] [.int s1, .ref 43] (V, T) Q := by
  refine e_putI zd86_7 (own := 1) (ci := 1) (kf := 1) (w := 232) (by decide +kernel) (by decide +kernel) (zsh_at hF rfl).1 (by decide +kernel) rfl ?_
  refine e_iconst zd86_10 ?_
  refine e_istore_n zd86_11 (by decide +kernel) (Nat.le_of_ble_eq_true rfl) ?_
  exact k
theorem b86_12 {x : zXs} {F : zF} (hF : zSh F) {d : Nat} {V : Nat → Nat → Int32} {T : Nat → Nat → Int64} {Q : Option Value → zG → Prop} {o1 : Option Value} {l2 : Int32}   (kt : (V 43 1) ≤ l2 → E x F d 86 33 [some (.ref 43), o1, some (.int l2)] [] (V, T) Q) (kf : ¬ ((V 43 1) ≤ l2) → E x F d 86 20 [some (.ref 43), o1, some (.int l2)] [] (V, T) Q) : E x F d 86 12 [some (.ref 43), o1, some (.int l2)] [] (V, T) Q := by
  refine e_iload_n zd86_12 rfl ?_
  refine e_aload_n zd86_13 rfl rfl ?_
  refine e_getI zd86_14 (own := 1) (ci := 1) (kf := 1) (w := 232) (by decide +kernel) (by decide +kernel) (zsh_at hF rfl).1 (by decide +kernel) rfl ?_
  exact e_icmp_ge zd86_17 (tg := 33) rfl kt kf
theorem b86_20 {x : zXs} {F : zF} (hF : zSh F) {d : Nat} {V : Nat → Nat → Int32} {T : Nat → Nat → Int64} {Q : Option Value → zG → Prop} {o1 : Option Value} {l2 : Int32}  {i1 : Nat} (e1 : l2 = nI i1) (h1 : i1 < 5) (k : E x F d 86 12 [some (.ref 43), o1, some (.int (l2 + Int32.ofInt 1))] [] (zu V 44 i1 l2, T) Q) : E x F d 86 20 [some (.ref 43), o1, some (.int l2)] [] (V, T) Q := by
  refine e_aload_n zd86_20 rfl rfl ?_
  refine e_getA zd86_21 (own := 1) (ci := 1) (kf := 0) (w := 230) (by decide +kernel) (by decide +kernel) (zsh_at hF rfl).1 (by decide +kernel) rfl (zrf_at hF (i := 46) rfl) ?_
  refine e_iload_n zd86_24 rfl ?_
  refine e_iload_n zd86_25 rfl ?_
  refine e_iast zd86_26 (i := i1) (zsh_at hF rfl) e1 h1 (by omega) ?_
  refine e_iinc zd86_27 rfl (by decide +kernel) ?_
  exact e_goto zd86_30 (tg := 12) rfl k
theorem b86_33 {x : zXs} {F : zF} (hF : zSh F) {d : Nat} {V : Nat → Nat → Int32} {T : Nat → Nat → Int64} {Q : Option Value → zG → Prop} {o0 : Option Value} {o1 : Option Value} {o2 : Option Value}   (k : Q none (V, T)) : E x F d 86 33 [o0, o1, o2] [] (V, T) Q := by
  exact e_vret zd86_33 zs86 k
theorem zd87_0 : zop 87 0 = some (.aload_n 0, 1) := by decide +kernel
theorem zd87_1 : zop 87 1 = some (.getfield 10, 3) := by decide +kernel
theorem zd87_4 : zop 87 4 = some (.iload_n 1, 1) := by decide +kernel
theorem zd87_5 : zop 87 5 = some (.invokevirtual 91, 3) := by decide +kernel
theorem zd87_8 : zop 87 8 = some (.ifCond .eq 23, 3) := by decide +kernel
theorem zd87_11 : zop 87 11 = some (.aload_n 0, 1) := by decide +kernel
theorem zd87_12 : zop 87 12 = some (.getfield 10, 3) := by decide +kernel
theorem zd87_15 : zop 87 15 = some (.iload_n 2, 1) := by decide +kernel
theorem zd87_16 : zop 87 16 = some (.invokevirtual 55, 3) := by decide +kernel
theorem zd87_19 : zop 87 19 = some (.ifCond .eq 12, 3) := by decide +kernel
theorem zd87_22 : zop 87 22 = some (.iload_n 3, 1) := by decide +kernel
theorem zd87_23 : zop 87 23 = some (.iconst 0, 1) := by decide +kernel
theorem zd87_24 : zop 87 24 = some (.iconst 1, 1) := by decide +kernel
theorem zd87_25 : zop 87 25 = some (.invokestatic 59, 3) := by decide +kernel
theorem zd87_28 : zop 87 28 = some (.ifCond .ne 7, 3) := by decide +kernel
theorem zd87_31 : zop 87 31 = some (.sipush (-1000), 3) := by decide +kernel
theorem zd87_34 : zop 87 34 = some (.ireturn, 1) := by decide +kernel
theorem zd87_35 : zop 87 35 = some (.iconst 0, 1) := by decide +kernel
theorem zd87_36 : zop 87 36 = some (.istore 4, 2) := by decide +kernel
theorem zd87_38 : zop 87 38 = some (.iconst 0, 1) := by decide +kernel
theorem zd87_39 : zop 87 39 = some (.istore 5, 2) := by decide +kernel
theorem zd87_41 : zop 87 41 = some (.iconst 1, 1) := by decide +kernel
theorem zd87_42 : zop 87 42 = some (.istore 6, 2) := by decide +kernel
theorem zd87_44 : zop 87 44 = some (.aload_n 0, 1) := by decide +kernel
theorem zd87_45 : zop 87 45 = some (.getfield 37, 3) := by decide +kernel
theorem zd87_48 : zop 87 48 = some (.aload_n 0, 1) := by decide +kernel
theorem zd87_49 : zop 87 49 = some (.getfield 10, 3) := by decide +kernel
theorem zd87_52 : zop 87 52 = some (.getfield 160, 3) := by decide +kernel
theorem zd87_55 : zop 87 55 = some (.invokevirtual 184, 3) := by decide +kernel
theorem zd87_58 : zop 87 58 = some (.iconst 0, 1) := by decide +kernel
theorem zd87_59 : zop 87 59 = some (.istore 7, 2) := by decide +kernel
theorem zd87_61 : zop 87 61 = some (.iload 7, 2) := by decide +kernel
theorem zd87_63 : zop 87 63 = some (.bipush 120, 2) := by decide +kernel
theorem zd87_65 : zop 87 65 = some (.if_icmp .ge 78, 3) := by decide +kernel
theorem zd87_68 : zop 87 68 = some (.iload 6, 2) := by decide +kernel
theorem zd87_70 : zop 87 70 = some (.ifCond .eq 73, 3) := by decide +kernel
theorem zd87_73 : zop 87 73 = some (.aload_n 0, 1) := by decide +kernel
theorem zd87_74 : zop 87 74 = some (.getfield 16, 3) := by decide +kernel
theorem zd87_77 : zop 87 77 = some (.aload_n 0, 1) := by decide +kernel
theorem zd87_78 : zop 87 78 = some (.getfield 10, 3) := by decide +kernel
theorem zd87_81 : zop 87 81 = some (.invokevirtual 178, 3) := by decide +kernel
theorem zd87_84 : zop 87 84 = some (.aload_n 0, 1) := by decide +kernel
theorem zd87_85 : zop 87 85 = some (.getfield 25, 3) := by decide +kernel
theorem zd87_88 : zop 87 88 = some (.aload_n 0, 1) := by decide +kernel
theorem zd87_89 : zop 87 89 = some (.getfield 16, 3) := by decide +kernel
theorem zd87_92 : zop 87 92 = some (.iload_n 2, 1) := by decide +kernel
theorem zd87_93 : zop 87 93 = some (.aload_n 0, 1) := by decide +kernel
theorem zd87_94 : zop 87 94 = some (.getfield 37, 3) := by decide +kernel
theorem zd87_97 : zop 87 97 = some (.iload_n 1, 1) := by decide +kernel
theorem zd87_98 : zop 87 98 = some (.invokevirtual 167, 3) := by decide +kernel
theorem zd87_101 : zop 87 101 = some (.istore 8, 2) := by decide +kernel
theorem zd87_103 : zop 87 103 = some (.iload 7, 2) := by decide +kernel
theorem zd87_105 : zop 87 105 = some (.ifCond .eq 10, 3) := by decide +kernel
theorem zd87_108 : zop 87 108 = some (.iload 8, 2) := by decide +kernel
theorem zd87_110 : zop 87 110 = some (.iload 5, 2) := by decide +kernel
theorem zd87_112 : zop 87 112 = some (.if_icmp .le 16, 3) := by decide +kernel
theorem zd87_115 : zop 87 115 = some (.iload 8, 2) := by decide +kernel
theorem zd87_117 : zop 87 117 = some (.istore 5, 2) := by decide +kernel
theorem zd87_119 : zop 87 119 = some (.aload_n 0, 1) := by decide +kernel
theorem zd87_120 : zop 87 120 = some (.getfield 37, 3) := by decide +kernel
theorem zd87_123 : zop 87 123 = some (.invokevirtual 187, 3) := by decide +kernel
theorem zd87_126 : zop 87 126 = some (.istore 4, 2) := by decide +kernel
theorem zd87_128 : zop 87 128 = some (.aload_n 0, 1) := by decide +kernel
theorem zd87_129 : zop 87 129 = some (.getfield 37, 3) := by decide +kernel
theorem zd87_132 : zop 87 132 = some (.invokevirtual 190, 3) := by decide +kernel
theorem zd87_135 : zop 87 135 = some (.istore 6, 2) := by decide +kernel
theorem zd87_137 : zop 87 137 = some (.iinc 7 1, 3) := by decide +kernel
theorem zd87_140 : zop 87 140 = some (.goto (-79), 3) := by decide +kernel
theorem zd87_143 : zop 87 143 = some (.iload_n 3, 1) := by decide +kernel
theorem zd87_144 : zop 87 144 = some (.ifCond .ne 8, 3) := by decide +kernel
theorem zd87_147 : zop 87 147 = some (.iload 4, 2) := by decide +kernel
theorem zd87_149 : zop 87 149 = some (.goto 5, 3) := by decide +kernel
theorem zd87_152 : zop 87 152 = some (.iload 5, 2) := by decide +kernel
theorem zd87_154 : zop 87 154 = some (.ireturn, 1) := by decide +kernel
theorem b87_0 {x : zXs} {F : zF} (hF : zSh F) {d : Nat} {V : Nat → Nat → Int32} {T : Nat → Nat → Int64} {Q : Option Value → zG → Prop} {l1 : Int32} {o2 : Option Value} {o3 : Option Value} {o4 : Option Value} {o5 : Option Value} {o6 : Option Value} {o7 : Option Value} {o8 : Option Value}   (k : E x F d 19 0 [some (.ref 1), some (.int l1)] [] (V, T) (fun r G' => E x F (d + 1) 87 8 [some (.ref 0), some (.int l1), o2, o3, o4, o5, o6, o7, o8] (r.toList ++ []) G' Q)) : E x F (d + 1) 87 0 [some (.ref 0), some (.int l1), o2, o3, o4, o5, o6, o7, o8] [] (V, T) Q := by
  refine e_aload_n zd87_0 rfl rfl ?_
  refine e_getO zd87_1 (own := 7) (ci := 7) (kf := 0) (w := 297) (by decide +kernel) (by decide +kernel) (zsh_at hF rfl).1 (by decide +kernel) rfl (zrf_at hF (i := 0) rfl) ?_
  refine e_iload_n zd87_4 rfl ?_
  exact e_callV zd87_5 (own := 7) (nest := false) (w := 361) (by decide +kernel) (by decide +kernel) zs19 (as := [.int l1]) (rest := []) rfl rfl (zsh_at hF rfl).1 (by omega) (Nat.le_of_ble_eq_true rfl) rfl rfl rfl (by omega) k
theorem b87_8 {x : zXs} {F : zF} (hF : zSh F) {d : Nat} {V : Nat → Nat → Int32} {T : Nat → Nat → Int64} {Q : Option Value → zG → Prop} {o0 : Option Value} {o1 : Option Value} {o2 : Option Value} {o3 : Option Value} {o4 : Option Value} {o5 : Option Value} {o6 : Option Value} {o7 : Option Value} {o8 : Option Value} {s0 : Int32}   (kt : s0 = 0 → E x F d 87 31 [o0, o1, o2, o3, o4, o5, o6, o7, o8] [] (V, T) Q) (kf : ¬ (s0 = 0) → E x F d 87 11 [o0, o1, o2, o3, o4, o5, o6, o7, o8] [] (V, T) Q) : E x F d 87 8 [o0, o1, o2, o3, o4, o5, o6, o7, o8] [.int s0] (V, T) Q := by
  exact e_if_eq zd87_8 (tg := 31) rfl kt kf
theorem b87_11 {x : zXs} {F : zF} (hF : zSh F) {d : Nat} {V : Nat → Nat → Int32} {T : Nat → Nat → Int64} {Q : Option Value → zG → Prop} {o1 : Option Value} {l2 : Int32} {o3 : Option Value} {o4 : Option Value} {o5 : Option Value} {o6 : Option Value} {o7 : Option Value} {o8 : Option Value}   (k : E x F d 12 0 [some (.ref 1), some (.int l2)] [] (V, T) (fun r G' => E x F (d + 1) 87 19 [some (.ref 0), o1, some (.int l2), o3, o4, o5, o6, o7, o8] (r.toList ++ []) G' Q)) : E x F (d + 1) 87 11 [some (.ref 0), o1, some (.int l2), o3, o4, o5, o6, o7, o8] [] (V, T) Q := by
  refine e_aload_n zd87_11 rfl rfl ?_
  refine e_getO zd87_12 (own := 7) (ci := 7) (kf := 0) (w := 297) (by decide +kernel) (by decide +kernel) (zsh_at hF rfl).1 (by decide +kernel) rfl (zrf_at hF (i := 0) rfl) ?_
  refine e_iload_n zd87_15 rfl ?_
  exact e_callV zd87_16 (own := 7) (nest := false) (w := 329) (by decide +kernel) (by decide +kernel) zs12 (as := [.int l2]) (rest := []) rfl rfl (zsh_at hF rfl).1 (by omega) (Nat.le_of_ble_eq_true rfl) rfl rfl rfl (by omega) k
theorem b87_19 {x : zXs} {F : zF} (hF : zSh F) {d : Nat} {V : Nat → Nat → Int32} {T : Nat → Nat → Int64} {Q : Option Value → zG → Prop} {o0 : Option Value} {o1 : Option Value} {o2 : Option Value} {o3 : Option Value} {o4 : Option Value} {o5 : Option Value} {o6 : Option Value} {o7 : Option Value} {o8 : Option Value} {s0 : Int32}   (kt : s0 = 0 → E x F d 87 31 [o0, o1, o2, o3, o4, o5, o6, o7, o8] [] (V, T) Q) (kf : ¬ (s0 = 0) → E x F d 87 22 [o0, o1, o2, o3, o4, o5, o6, o7, o8] [] (V, T) Q) : E x F d 87 19 [o0, o1, o2, o3, o4, o5, o6, o7, o8] [.int s0] (V, T) Q := by
  exact e_if_eq zd87_19 (tg := 31) rfl kt kf
theorem b87_22 {x : zXs} {F : zF} (hF : zSh F) {d : Nat} {V : Nat → Nat → Int32} {T : Nat → Nat → Int64} {Q : Option Value → zG → Prop} {o0 : Option Value} {o1 : Option Value} {o2 : Option Value} {l3 : Int32} {o4 : Option Value} {o5 : Option Value} {o6 : Option Value} {o7 : Option Value} {o8 : Option Value}   (k : E x F d 7 0 [some (.int l3), some (.int (Int32.ofInt 0)), some (.int (Int32.ofInt 1))] [] (V, T) (fun r G' => E x F (d + 1) 87 28 [o0, o1, o2, some (.int l3), o4, o5, o6, o7, o8] (r.toList ++ []) G' Q)) : E x F (d + 1) 87 22 [o0, o1, o2, some (.int l3), o4, o5, o6, o7, o8] [] (V, T) Q := by
  refine e_iload_n zd87_22 rfl ?_
  refine e_iconst zd87_23 ?_
  refine e_iconst zd87_24 ?_
  exact e_callS zd87_25 (own := 7) (nest := false) (w := 334) (by decide +kernel) (by decide +kernel) zs7 (as := [.int l3, .int (Int32.ofInt 0), .int (Int32.ofInt 1)]) (rest := []) rfl rfl (Nat.le_of_ble_eq_true rfl) rfl rfl rfl (by omega) k
theorem b87_28 {x : zXs} {F : zF} (hF : zSh F) {d : Nat} {V : Nat → Nat → Int32} {T : Nat → Nat → Int64} {Q : Option Value → zG → Prop} {o0 : Option Value} {o1 : Option Value} {o2 : Option Value} {o3 : Option Value} {o4 : Option Value} {o5 : Option Value} {o6 : Option Value} {o7 : Option Value} {o8 : Option Value} {s0 : Int32}   (kt : ¬ s0 = 0 → E x F d 87 35 [o0, o1, o2, o3, o4, o5, o6, o7, o8] [] (V, T) Q) (kf : ¬ (¬ s0 = 0) → E x F d 87 31 [o0, o1, o2, o3, o4, o5, o6, o7, o8] [] (V, T) Q) : E x F d 87 28 [o0, o1, o2, o3, o4, o5, o6, o7, o8] [.int s0] (V, T) Q := by
  exact e_if_ne zd87_28 (tg := 35) rfl kt kf
theorem b87_31 {x : zXs} {F : zF} (hF : zSh F) {d : Nat} {V : Nat → Nat → Int32} {T : Nat → Nat → Int64} {Q : Option Value → zG → Prop} {o0 : Option Value} {o1 : Option Value} {o2 : Option Value} {o3 : Option Value} {o4 : Option Value} {o5 : Option Value} {o6 : Option Value} {o7 : Option Value} {o8 : Option Value}   (k : Q (some (.int (Int32.ofInt (-1000)))) (V, T)) : E x F d 87 31 [o0, o1, o2, o3, o4, o5, o6, o7, o8] [] (V, T) Q := by
  refine e_sipush zd87_31 (v := Int32.ofInt (-1000)) (by decide +kernel) ?_
  exact e_ireti zd87_34 zs87 k
theorem b87_35 {x : zXs} {F : zF} (hF : zSh F) {d : Nat} {V : Nat → Nat → Int32} {T : Nat → Nat → Int64} {Q : Option Value → zG → Prop} {o1 : Option Value} {o2 : Option Value} {o3 : Option Value} {o4 : Option Value} {o5 : Option Value} {o6 : Option Value} {o7 : Option Value} {o8 : Option Value}   (k : E x F d 86 0 [some (.ref 43), some (.int (V 1 5)), none] [] (V, T) (fun r G' => E x F (d + 1) 87 58 [some (.ref 0), o1, o2, o3, some (.int (Int32.ofInt 0)), some (.int (Int32.ofInt 0)), some (.int (Int32.ofInt 1)), o7, o8] (r.toList ++ []) G' Q)) : E x F (d + 1) 87 35 [some (.ref 0), o1, o2, o3, o4, o5, o6, o7, o8] [] (V, T) Q := by
  refine e_iconst zd87_35 ?_
  refine e_istore zd87_36 (by decide +kernel) (Nat.le_of_ble_eq_true rfl) ?_
  refine e_iconst zd87_38 ?_
  refine e_istore zd87_39 (by decide +kernel) (Nat.le_of_ble_eq_true rfl) ?_
  refine e_iconst zd87_41 ?_
  refine e_istore zd87_42 (by decide +kernel) (Nat.le_of_ble_eq_true rfl) ?_
  refine e_aload_n zd87_44 rfl rfl ?_
  refine e_getO zd87_45 (own := 7) (ci := 7) (kf := 5) (w := 302) (by decide +kernel) (by decide +kernel) (zsh_at hF rfl).1 (by decide +kernel) rfl (zrf_at hF (i := 5) rfl) ?_
  refine e_aload_n zd87_48 rfl rfl ?_
  refine e_getO zd87_49 (own := 7) (ci := 7) (kf := 0) (w := 297) (by decide +kernel) (by decide +kernel) (zsh_at hF rfl).1 (by decide +kernel) rfl (zrf_at hF (i := 0) rfl) ?_
  refine e_getI zd87_52 (own := 7) (ci := 4) (kf := 5) (w := 129) (by decide +kernel) (by decide +kernel) (zsh_at hF rfl).1 (by decide +kernel) rfl ?_
  exact e_callV zd87_55 (own := 7) (nest := false) (w := 679) (by decide +kernel) (by decide +kernel) zs86 (as := [.int (V 1 5)]) (rest := []) rfl rfl (zsh_at hF rfl).1 (by omega) (Nat.le_of_ble_eq_true rfl) rfl rfl rfl (by omega) k
theorem b87_58 {x : zXs} {F : zF} (hF : zSh F) {d : Nat} {V : Nat → Nat → Int32} {T : Nat → Nat → Int64} {Q : Option Value → zG → Prop} {o0 : Option Value} {o1 : Option Value} {o2 : Option Value} {o3 : Option Value} {o4 : Option Value} {o5 : Option Value} {o6 : Option Value} {o7 : Option Value} {o8 : Option Value}   (k : E x F d 87 61 [o0, o1, o2, o3, o4, o5, o6, some (.int (Int32.ofInt 0)), o8] [] (V, T) Q) : E x F d 87 58 [o0, o1, o2, o3, o4, o5, o6, o7, o8] [] (V, T) Q := by
  refine e_iconst zd87_58 ?_
  refine e_istore zd87_59 (by decide +kernel) (Nat.le_of_ble_eq_true rfl) ?_
  exact k
theorem b87_61 {x : zXs} {F : zF} (hF : zSh F) {d : Nat} {V : Nat → Nat → Int32} {T : Nat → Nat → Int64} {Q : Option Value → zG → Prop} {o0 : Option Value} {o1 : Option Value} {o2 : Option Value} {o3 : Option Value} {o4 : Option Value} {o5 : Option Value} {o6 : Option Value} {l7 : Int32} {o8 : Option Value}   (kt : (Int32.ofInt 120) ≤ l7 → E x F d 87 143 [o0, o1, o2, o3, o4, o5, o6, some (.int l7), o8] [] (V, T) Q) (kf : ¬ ((Int32.ofInt 120) ≤ l7) → E x F d 87 68 [o0, o1, o2, o3, o4, o5, o6, some (.int l7), o8] [] (V, T) Q) : E x F d 87 61 [o0, o1, o2, o3, o4, o5, o6, some (.int l7), o8] [] (V, T) Q := by
  refine e_iload zd87_61 rfl ?_
  refine e_bipush zd87_63 (v := Int32.ofInt 120) (by decide +kernel) ?_
  exact e_icmp_ge zd87_65 (tg := 143) rfl kt kf
theorem b87_68 {x : zXs} {F : zF} (hF : zSh F) {d : Nat} {V : Nat → Nat → Int32} {T : Nat → Nat → Int64} {Q : Option Value → zG → Prop} {o0 : Option Value} {o1 : Option Value} {o2 : Option Value} {o3 : Option Value} {o4 : Option Value} {o5 : Option Value} {l6 : Int32} {o7 : Option Value} {o8 : Option Value}   (kt : l6 = 0 → E x F d 87 143 [o0, o1, o2, o3, o4, o5, some (.int l6), o7, o8] [] (V, T) Q) (kf : ¬ (l6 = 0) → E x F d 87 73 [o0, o1, o2, o3, o4, o5, some (.int l6), o7, o8] [] (V, T) Q) : E x F d 87 68 [o0, o1, o2, o3, o4, o5, some (.int l6), o7, o8] [] (V, T) Q := by
  refine e_iload zd87_68 rfl ?_
  exact e_if_eq zd87_70 (tg := 143) rfl kt kf
theorem b87_73 {x : zXs} {F : zF} (hF : zSh F) {d : Nat} {V : Nat → Nat → Int32} {T : Nat → Nat → Int64} {Q : Option Value → zG → Prop} {o1 : Option Value} {o2 : Option Value} {o3 : Option Value} {o4 : Option Value} {o5 : Option Value} {o6 : Option Value} {o7 : Option Value} {o8 : Option Value}   (k : E x F d 83 0 [some (.ref 7), some (.ref 1)] [] (V, T) (fun r G' => E x F (d + 1) 87 84 [some (.ref 0), o1, o2, o3, o4, o5, o6, o7, o8] (r.toList ++ []) G' Q)) : E x F (d + 1) 87 73 [some (.ref 0), o1, o2, o3, o4, o5, o6, o7, o8] [] (V, T) Q := by
  refine e_aload_n zd87_73 rfl rfl ?_
  refine e_getO zd87_74 (own := 7) (ci := 7) (kf := 1) (w := 298) (by decide +kernel) (by decide +kernel) (zsh_at hF rfl).1 (by decide +kernel) rfl (zrf_at hF (i := 1) rfl) ?_
  refine e_aload_n zd87_77 rfl rfl ?_
  refine e_getO zd87_78 (own := 7) (ci := 7) (kf := 0) (w := 297) (by decide +kernel) (by decide +kernel) (zsh_at hF rfl).1 (by decide +kernel) rfl (zrf_at hF (i := 0) rfl) ?_
  exact e_callV zd87_81 (own := 7) (nest := false) (w := 666) (by decide +kernel) (by decide +kernel) zs83 (as := [.ref 1]) (rest := []) rfl rfl (zsh_at hF rfl).1 (by omega) (Nat.le_of_ble_eq_true rfl) rfl rfl rfl (by omega) k
theorem b87_84 {x : zXs} {F : zF} (hF : zSh F) {d : Nat} {V : Nat → Nat → Int32} {T : Nat → Nat → Int64} {Q : Option Value → zG → Prop} {l1 : Int32} {l2 : Int32} {o3 : Option Value} {o4 : Option Value} {o5 : Option Value} {o6 : Option Value} {o7 : Option Value} {o8 : Option Value}   (k : E x F d 78 0 [some (.ref 19), some (.ref 7), some (.int l2), some (.ref 43), some (.int l1), none, none, none, none] [] (V, T) (fun r G' => E x F (d + 1) 87 101 [some (.ref 0), some (.int l1), some (.int l2), o3, o4, o5, o6, o7, o8] (r.toList ++ []) G' Q)) : E x F (d + 1) 87 84 [some (.ref 0), some (.int l1), some (.int l2), o3, o4, o5, o6, o7, o8] [] (V, T) Q := by
  refine e_aload_n zd87_84 rfl rfl ?_
  refine e_getO zd87_85 (own := 7) (ci := 7) (kf := 3) (w := 300) (by decide +kernel) (by decide +kernel) (zsh_at hF rfl).1 (by decide +kernel) rfl (zrf_at hF (i := 3) rfl) ?_
  refine e_aload_n zd87_88 rfl rfl ?_
  refine e_getO zd87_89 (own := 7) (ci := 7) (kf := 1) (w := 298) (by decide +kernel) (by decide +kernel) (zsh_at hF rfl).1 (by decide +kernel) rfl (zrf_at hF (i := 1) rfl) ?_
  refine e_iload_n zd87_92 rfl ?_
  refine e_aload_n zd87_93 rfl rfl ?_
  refine e_getO zd87_94 (own := 7) (ci := 7) (kf := 5) (w := 302) (by decide +kernel) (by decide +kernel) (zsh_at hF rfl).1 (by decide +kernel) rfl (zrf_at hF (i := 5) rfl) ?_
  refine e_iload_n zd87_97 rfl ?_
  exact e_callV zd87_98 (own := 7) (nest := false) (w := 639) (by decide +kernel) (by decide +kernel) zs78 (as := [.ref 7, .int l2, .ref 43, .int l1]) (rest := []) rfl rfl (zsh_at hF rfl).1 (by omega) (Nat.le_of_ble_eq_true rfl) rfl rfl rfl (by omega) k
theorem b87_101 {x : zXs} {F : zF} (hF : zSh F) {d : Nat} {V : Nat → Nat → Int32} {T : Nat → Nat → Int64} {Q : Option Value → zG → Prop} {o0 : Option Value} {o1 : Option Value} {o2 : Option Value} {o3 : Option Value} {o4 : Option Value} {o5 : Option Value} {o6 : Option Value} {l7 : Int32} {o8 : Option Value} {s0 : Int32}   (kt : l7 = 0 → E x F d 87 115 [o0, o1, o2, o3, o4, o5, o6, some (.int l7), some (.int s0)] [] (V, T) Q) (kf : ¬ (l7 = 0) → E x F d 87 108 [o0, o1, o2, o3, o4, o5, o6, some (.int l7), some (.int s0)] [] (V, T) Q) : E x F d 87 101 [o0, o1, o2, o3, o4, o5, o6, some (.int l7), o8] [.int s0] (V, T) Q := by
  refine e_istore zd87_101 (by decide +kernel) (Nat.le_of_ble_eq_true rfl) ?_
  refine e_iload zd87_103 rfl ?_
  exact e_if_eq zd87_105 (tg := 115) rfl kt kf
theorem b87_108 {x : zXs} {F : zF} (hF : zSh F) {d : Nat} {V : Nat → Nat → Int32} {T : Nat → Nat → Int64} {Q : Option Value → zG → Prop} {o0 : Option Value} {o1 : Option Value} {o2 : Option Value} {o3 : Option Value} {o4 : Option Value} {l5 : Int32} {o6 : Option Value} {o7 : Option Value} {l8 : Int32}   (kt : l8 ≤ l5 → E x F d 87 128 [o0, o1, o2, o3, o4, some (.int l5), o6, o7, some (.int l8)] [] (V, T) Q) (kf : ¬ (l8 ≤ l5) → E x F d 87 115 [o0, o1, o2, o3, o4, some (.int l5), o6, o7, some (.int l8)] [] (V, T) Q) : E x F d 87 108 [o0, o1, o2, o3, o4, some (.int l5), o6, o7, some (.int l8)] [] (V, T) Q := by
  refine e_iload zd87_108 rfl ?_
  refine e_iload zd87_110 rfl ?_
  exact e_icmp_le zd87_112 (tg := 128) rfl kt kf
theorem b87_115 {x : zXs} {F : zF} (hF : zSh F) {d : Nat} {V : Nat → Nat → Int32} {T : Nat → Nat → Int64} {Q : Option Value → zG → Prop} {o1 : Option Value} {o2 : Option Value} {o3 : Option Value} {o4 : Option Value} {o5 : Option Value} {o6 : Option Value} {o7 : Option Value} {l8 : Int32}   (k : E x F d 88 0 [some (.ref 43), none, none] [] (V, T) (fun r G' => E x F (d + 1) 87 126 [some (.ref 0), o1, o2, o3, o4, some (.int l8), o6, o7, some (.int l8)] (r.toList ++ []) G' Q)) : E x F (d + 1) 87 115 [some (.ref 0), o1, o2, o3, o4, o5, o6, o7, some (.int l8)] [] (V, T) Q := by
  refine e_iload zd87_115 rfl ?_
  refine e_istore zd87_117 (by decide +kernel) (Nat.le_of_ble_eq_true rfl) ?_
  refine e_aload_n zd87_119 rfl rfl ?_
  refine e_getO zd87_120 (own := 7) (ci := 7) (kf := 5) (w := 302) (by decide +kernel) (by decide +kernel) (zsh_at hF rfl).1 (by decide +kernel) rfl (zrf_at hF (i := 5) rfl) ?_
  exact e_callV zd87_123 (own := 7) (nest := false) (w := 687) (by decide +kernel) (by decide +kernel) zs88 (as := []) (rest := []) rfl rfl (zsh_at hF rfl).1 (by omega) (Nat.le_of_ble_eq_true rfl) rfl rfl rfl (by omega) k
theorem b87_126 {x : zXs} {F : zF} (hF : zSh F) {d : Nat} {V : Nat → Nat → Int32} {T : Nat → Nat → Int64} {Q : Option Value → zG → Prop} {o0 : Option Value} {o1 : Option Value} {o2 : Option Value} {o3 : Option Value} {o4 : Option Value} {o5 : Option Value} {o6 : Option Value} {o7 : Option Value} {o8 : Option Value} {s0 : Int32}   (k : E x F d 87 128 [o0, o1, o2, o3, some (.int s0), o5, o6, o7, o8] [] (V, T) Q) : E x F d 87 126 [o0, o1, o2, o3, o4, o5, o6, o7, o8] [.int s0] (V, T) Q := by
  refine e_istore zd87_126 (by decide +kernel) (Nat.le_of_ble_eq_true rfl) ?_
  exact k
theorem b87_128 {x : zXs} {F : zF} (hF : zSh F) {d : Nat} {V : Nat → Nat → Int32} {T : Nat → Nat → Int64} {Q : Option Value → zG → Prop} {o1 : Option Value} {o2 : Option Value} {o3 : Option Value} {o4 : Option Value} {o5 : Option Value} {o6 : Option Value} {o7 : Option Value} {o8 : Option Value}   (k : E x F d 89 0 [some (.ref 43), none, none, none, none] [] (V, T) (fun r G' => E x F (d + 1) 87 135 [some (.ref 0), o1, o2, o3, o4, o5, o6, o7, o8] (r.toList ++ []) G' Q)) : E x F (d + 1) 87 128 [some (.ref 0), o1, o2, o3, o4, o5, o6, o7, o8] [] (V, T) Q := by
  refine e_aload_n zd87_128 rfl rfl ?_
  refine e_getO zd87_129 (own := 7) (ci := 7) (kf := 5) (w := 302) (by decide +kernel) (by decide +kernel) (zsh_at hF rfl).1 (by decide +kernel) rfl (zrf_at hF (i := 5) rfl) ?_
  exact e_callV zd87_132 (own := 7) (nest := false) (w := 691) (by decide +kernel) (by decide +kernel) zs89 (as := []) (rest := []) rfl rfl (zsh_at hF rfl).1 (by omega) (Nat.le_of_ble_eq_true rfl) rfl rfl rfl (by omega) k
theorem b87_135 {x : zXs} {F : zF} (hF : zSh F) {d : Nat} {V : Nat → Nat → Int32} {T : Nat → Nat → Int64} {Q : Option Value → zG → Prop} {o0 : Option Value} {o1 : Option Value} {o2 : Option Value} {o3 : Option Value} {o4 : Option Value} {o5 : Option Value} {o6 : Option Value} {l7 : Int32} {o8 : Option Value} {s0 : Int32}   (k : E x F d 87 61 [o0, o1, o2, o3, o4, o5, some (.int s0), some (.int (l7 + Int32.ofInt 1)), o8] [] (V, T) Q) : E x F d 87 135 [o0, o1, o2, o3, o4, o5, o6, some (.int l7), o8] [.int s0] (V, T) Q := by
  refine e_istore zd87_135 (by decide +kernel) (Nat.le_of_ble_eq_true rfl) ?_
  refine e_iinc zd87_137 rfl (by decide +kernel) ?_
  exact e_goto zd87_140 (tg := 61) rfl k
theorem b87_143 {x : zXs} {F : zF} (hF : zSh F) {d : Nat} {V : Nat → Nat → Int32} {T : Nat → Nat → Int64} {Q : Option Value → zG → Prop} {o0 : Option Value} {o1 : Option Value} {o2 : Option Value} {l3 : Int32} {o4 : Option Value} {o5 : Option Value} {o6 : Option Value} {o7 : Option Value} {o8 : Option Value}   (kt : ¬ l3 = 0 → E x F d 87 152 [o0, o1, o2, some (.int l3), o4, o5, o6, o7, o8] [] (V, T) Q) (kf : ¬ (¬ l3 = 0) → E x F d 87 147 [o0, o1, o2, some (.int l3), o4, o5, o6, o7, o8] [] (V, T) Q) : E x F d 87 143 [o0, o1, o2, some (.int l3), o4, o5, o6, o7, o8] [] (V, T) Q := by
  refine e_iload_n zd87_143 rfl ?_
  exact e_if_ne zd87_144 (tg := 152) rfl kt kf
theorem b87_147 {x : zXs} {F : zF} (hF : zSh F) {d : Nat} {V : Nat → Nat → Int32} {T : Nat → Nat → Int64} {Q : Option Value → zG → Prop} {o0 : Option Value} {o1 : Option Value} {o2 : Option Value} {o3 : Option Value} {l4 : Int32} {o5 : Option Value} {o6 : Option Value} {o7 : Option Value} {o8 : Option Value}   (k : E x F d 87 154 [o0, o1, o2, o3, some (.int l4), o5, o6, o7, o8] [.int l4] (V, T) Q) : E x F d 87 147 [o0, o1, o2, o3, some (.int l4), o5, o6, o7, o8] [] (V, T) Q := by
  refine e_iload zd87_147 rfl ?_
  exact e_goto zd87_149 (tg := 154) rfl k
theorem b87_152 {x : zXs} {F : zF} (hF : zSh F) {d : Nat} {V : Nat → Nat → Int32} {T : Nat → Nat → Int64} {Q : Option Value → zG → Prop} {o0 : Option Value} {o1 : Option Value} {o2 : Option Value} {o3 : Option Value} {o4 : Option Value} {l5 : Int32} {o6 : Option Value} {o7 : Option Value} {o8 : Option Value}   (k : E x F d 87 154 [o0, o1, o2, o3, o4, some (.int l5), o6, o7, o8] [.int l5] (V, T) Q) : E x F d 87 152 [o0, o1, o2, o3, o4, some (.int l5), o6, o7, o8] [] (V, T) Q := by
  refine e_iload zd87_152 rfl ?_
  exact k
theorem b87_154 {x : zXs} {F : zF} (hF : zSh F) {d : Nat} {V : Nat → Nat → Int32} {T : Nat → Nat → Int64} {Q : Option Value → zG → Prop} {o0 : Option Value} {o1 : Option Value} {o2 : Option Value} {o3 : Option Value} {o4 : Option Value} {o5 : Option Value} {o6 : Option Value} {o7 : Option Value} {o8 : Option Value} {s0 : Int32}   (k : Q (some (.int s0)) (V, T)) : E x F d 87 154 [o0, o1, o2, o3, o4, o5, o6, o7, o8] [.int s0] (V, T) Q := by
  exact e_ireti zd87_154 zs87 k
theorem zd88_0 : zop 88 0 = some (.iconst 0, 1) := by decide +kernel
theorem zd88_1 : zop 88 1 = some (.istore_n 1, 1) := by decide +kernel
theorem zd88_2 : zop 88 2 = some (.iconst 0, 1) := by decide +kernel
theorem zd88_3 : zop 88 3 = some (.istore_n 2, 1) := by decide +kernel
theorem zd88_4 : zop 88 4 = some (.iload_n 2, 1) := by decide +kernel
theorem zd88_5 : zop 88 5 = some (.aload_n 0, 1) := by decide +kernel
theorem zd88_6 : zop 88 6 = some (.getfield 19, 3) := by decide +kernel
theorem zd88_9 : zop 88 9 = some (.if_icmp .ge 23, 3) := by decide +kernel
theorem zd88_12 : zop 88 12 = some (.iload_n 1, 1) := by decide +kernel
theorem zd88_13 : zop 88 13 = some (.bipush 10, 2) := by decide +kernel
theorem zd88_15 : zop 88 15 = some (.imul, 1) := by decide +kernel
theorem zd88_16 : zop 88 16 = some (.aload_n 0, 1) := by decide +kernel
theorem zd88_17 : zop 88 17 = some (.getfield 9, 3) := by decide +kernel
theorem zd88_20 : zop 88 20 = some (.iload_n 2, 1) := by decide +kernel
theorem zd88_21 : zop 88 21 = some (.iaload, 1) := by decide +kernel
theorem zd88_22 : zop 88 22 = some (.iadd, 1) := by decide +kernel
theorem zd88_23 : zop 88 23 = some (.iconst 1, 1) := by decide +kernel
theorem zd88_24 : zop 88 24 = some (.iadd, 1) := by decide +kernel
theorem zd88_25 : zop 88 25 = some (.istore_n 1, 1) := by decide +kernel
theorem zd88_26 : zop 88 26 = some (.iinc 2 1, 3) := by decide +kernel
theorem zd88_29 : zop 88 29 = some (.goto (-25), 3) := by decide +kernel
theorem zd88_32 : zop 88 32 = some (.iload_n 1, 1) := by decide +kernel
theorem zd88_33 : zop 88 33 = some (.ireturn, 1) := by decide +kernel
theorem b88_0 {x : zXs} {F : zF} (hF : zSh F) {d : Nat} {V : Nat → Nat → Int32} {T : Nat → Nat → Int64} {Q : Option Value → zG → Prop} {o0 : Option Value} {o1 : Option Value} {o2 : Option Value}   (k : E x F d 88 4 [o0, some (.int (Int32.ofInt 0)), some (.int (Int32.ofInt 0))] [] (V, T) Q) : E x F d 88 0 [o0, o1, o2] [] (V, T) Q := by
  refine e_iconst zd88_0 ?_
  refine e_istore_n zd88_1 (by decide +kernel) (Nat.le_of_ble_eq_true rfl) ?_
  refine e_iconst zd88_2 ?_
  refine e_istore_n zd88_3 (by decide +kernel) (Nat.le_of_ble_eq_true rfl) ?_
  exact k
theorem b88_4 {x : zXs} {F : zF} (hF : zSh F) {d : Nat} {V : Nat → Nat → Int32} {T : Nat → Nat → Int64} {Q : Option Value → zG → Prop} {o1 : Option Value} {l2 : Int32}   (kt : (V 43 1) ≤ l2 → E x F d 88 32 [some (.ref 43), o1, some (.int l2)] [] (V, T) Q) (kf : ¬ ((V 43 1) ≤ l2) → E x F d 88 12 [some (.ref 43), o1, some (.int l2)] [] (V, T) Q) : E x F d 88 4 [some (.ref 43), o1, some (.int l2)] [] (V, T) Q := by
  refine e_iload_n zd88_4 rfl ?_
  refine e_aload_n zd88_5 rfl rfl ?_
  refine e_getI zd88_6 (own := 1) (ci := 1) (kf := 1) (w := 232) (by decide +kernel) (by decide +kernel) (zsh_at hF rfl).1 (by decide +kernel) rfl ?_
  exact e_icmp_ge zd88_9 (tg := 32) rfl kt kf
theorem b88_12 {x : zXs} {F : zF} (hF : zSh F) {d : Nat} {V : Nat → Nat → Int32} {T : Nat → Nat → Int64} {Q : Option Value → zG → Prop} {l1 : Int32} {l2 : Int32}  {i1 : Nat} (e1 : l2 = nI i1) (h1 : i1 < 5) (k : E x F d 88 4 [some (.ref 43), some (.int (((l1 * (Int32.ofInt 10)) + (V 44 i1)) + (Int32.ofInt 1))), some (.int (l2 + Int32.ofInt 1))] [] (V, T) Q) : E x F d 88 12 [some (.ref 43), some (.int l1), some (.int l2)] [] (V, T) Q := by
  refine e_iload_n zd88_12 rfl ?_
  refine e_bipush zd88_13 (v := Int32.ofInt 10) (by decide +kernel) ?_
  refine e_imul zd88_15 ?_
  refine e_aload_n zd88_16 rfl rfl ?_
  refine e_getA zd88_17 (own := 1) (ci := 1) (kf := 0) (w := 230) (by decide +kernel) (by decide +kernel) (zsh_at hF rfl).1 (by decide +kernel) rfl (zrf_at hF (i := 46) rfl) ?_
  refine e_iload_n zd88_20 rfl ?_
  refine e_iald zd88_21 (i := i1) (zsh_at hF rfl) e1 h1 (by omega) ?_
  refine e_iadd zd88_22 ?_
  refine e_iconst zd88_23 ?_
  refine e_iadd zd88_24 ?_
  refine e_istore_n zd88_25 (by decide +kernel) (Nat.le_of_ble_eq_true rfl) ?_
  refine e_iinc zd88_26 rfl (by decide +kernel) ?_
  exact e_goto zd88_29 (tg := 4) rfl k
theorem b88_32 {x : zXs} {F : zF} (hF : zSh F) {d : Nat} {V : Nat → Nat → Int32} {T : Nat → Nat → Int64} {Q : Option Value → zG → Prop} {o0 : Option Value} {l1 : Int32} {o2 : Option Value}   (k : Q (some (.int l1)) (V, T)) : E x F d 88 32 [o0, some (.int l1), o2] [] (V, T) Q := by
  refine e_iload_n zd88_32 rfl ?_
  exact e_ireti zd88_33 zs88 k
theorem zd89_0 : zop 89 0 = some (.aload_n 0, 1) := by decide +kernel
theorem zd89_1 : zop 89 1 = some (.getfield 19, 3) := by decide +kernel
theorem zd89_4 : zop 89 4 = some (.iconst 2, 1) := by decide +kernel
theorem zd89_5 : zop 89 5 = some (.isub, 1) := by decide +kernel
theorem zd89_6 : zop 89 6 = some (.istore_n 1, 1) := by decide +kernel
theorem zd89_7 : zop 89 7 = some (.iload_n 1, 1) := by decide +kernel
theorem zd89_8 : zop 89 8 = some (.ifCond .lt 26, 3) := by decide +kernel
theorem zd89_11 : zop 89 11 = some (.aload_n 0, 1) := by decide +kernel
theorem zd89_12 : zop 89 12 = some (.getfield 9, 3) := by decide +kernel
theorem zd89_15 : zop 89 15 = some (.iload_n 1, 1) := by decide +kernel
theorem zd89_16 : zop 89 16 = some (.iaload, 1) := by decide +kernel
theorem zd89_17 : zop 89 17 = some (.aload_n 0, 1) := by decide +kernel
theorem zd89_18 : zop 89 18 = some (.getfield 9, 3) := by decide +kernel
theorem zd89_21 : zop 89 21 = some (.iload_n 1, 1) := by decide +kernel
theorem zd89_22 : zop 89 22 = some (.iconst 1, 1) := by decide +kernel
theorem zd89_23 : zop 89 23 = some (.iadd, 1) := by decide +kernel
theorem zd89_24 : zop 89 24 = some (.iaload, 1) := by decide +kernel
theorem zd89_25 : zop 89 25 = some (.if_icmp .le 9, 3) := by decide +kernel
theorem zd89_28 : zop 89 28 = some (.iinc 1 (-1), 3) := by decide +kernel
theorem zd89_31 : zop 89 31 = some (.goto (-24), 3) := by decide +kernel
theorem zd89_34 : zop 89 34 = some (.iload_n 1, 1) := by decide +kernel
theorem zd89_35 : zop 89 35 = some (.ifCond .ge 5, 3) := by decide +kernel
theorem zd89_38 : zop 89 38 = some (.iconst 0, 1) := by decide +kernel
theorem zd89_39 : zop 89 39 = some (.ireturn, 1) := by decide +kernel
theorem zd89_40 : zop 89 40 = some (.aload_n 0, 1) := by decide +kernel
theorem zd89_41 : zop 89 41 = some (.getfield 19, 3) := by decide +kernel
theorem zd89_44 : zop 89 44 = some (.iconst 1, 1) := by decide +kernel
theorem zd89_45 : zop 89 45 = some (.isub, 1) := by decide +kernel
theorem zd89_46 : zop 89 46 = some (.istore_n 2, 1) := by decide +kernel
theorem zd89_47 : zop 89 47 = some (.iload_n 2, 1) := by decide +kernel
theorem zd89_48 : zop 89 48 = some (.iload_n 1, 1) := by decide +kernel
theorem zd89_49 : zop 89 49 = some (.if_icmp .le 24, 3) := by decide +kernel
theorem zd89_52 : zop 89 52 = some (.aload_n 0, 1) := by decide +kernel
theorem zd89_53 : zop 89 53 = some (.getfield 9, 3) := by decide +kernel
theorem zd89_56 : zop 89 56 = some (.iload_n 2, 1) := by decide +kernel
theorem zd89_57 : zop 89 57 = some (.iaload, 1) := by decide +kernel
theorem zd89_58 : zop 89 58 = some (.aload_n 0, 1) := by decide +kernel
theorem zd89_59 : zop 89 59 = some (.getfield 9, 3) := by decide +kernel
theorem zd89_62 : zop 89 62 = some (.iload_n 1, 1) := by decide +kernel
theorem zd89_63 : zop 89 63 = some (.iaload, 1) := by decide +kernel
theorem zd89_64 : zop 89 64 = some (.if_icmp .ge 9, 3) := by decide +kernel
theorem zd89_67 : zop 89 67 = some (.iinc 2 (-1), 3) := by decide +kernel
theorem zd89_70 : zop 89 70 = some (.goto (-23), 3) := by decide +kernel
theorem zd89_73 : zop 89 73 = some (.aload_n 0, 1) := by decide +kernel
theorem zd89_74 : zop 89 74 = some (.iload_n 1, 1) := by decide +kernel
theorem zd89_75 : zop 89 75 = some (.iload_n 2, 1) := by decide +kernel
theorem zd89_76 : zop 89 76 = some (.invokevirtual 27, 3) := by decide +kernel
theorem zd89_79 : zop 89 79 = some (.iload_n 1, 1) := by decide +kernel
theorem zd89_80 : zop 89 80 = some (.iconst 1, 1) := by decide +kernel
theorem zd89_81 : zop 89 81 = some (.iadd, 1) := by decide +kernel
theorem zd89_82 : zop 89 82 = some (.istore_n 3, 1) := by decide +kernel
theorem zd89_83 : zop 89 83 = some (.aload_n 0, 1) := by decide +kernel
theorem zd89_84 : zop 89 84 = some (.getfield 19, 3) := by decide +kernel
theorem zd89_87 : zop 89 87 = some (.iconst 1, 1) := by decide +kernel
theorem zd89_88 : zop 89 88 = some (.isub, 1) := by decide +kernel
theorem zd89_89 : zop 89 89 = some (.istore 4, 2) := by decide +kernel
theorem zd89_91 : zop 89 91 = some (.iload_n 3, 1) := by decide +kernel
theorem zd89_92 : zop 89 92 = some (.iload 4, 2) := by decide +kernel
theorem zd89_94 : zop 89 94 = some (.if_icmp .ge 19, 3) := by decide +kernel
theorem zd89_97 : zop 89 97 = some (.aload_n 0, 1) := by decide +kernel
theorem zd89_98 : zop 89 98 = some (.iload_n 3, 1) := by decide +kernel
theorem zd89_99 : zop 89 99 = some (.iload 4, 2) := by decide +kernel
theorem zd89_101 : zop 89 101 = some (.invokevirtual 27, 3) := by decide +kernel
theorem zd89_104 : zop 89 104 = some (.iinc 3 1, 3) := by decide +kernel
theorem zd89_107 : zop 89 107 = some (.iinc 4 (-1), 3) := by decide +kernel
theorem zd89_110 : zop 89 110 = some (.goto (-19), 3) := by decide +kernel
theorem zd89_113 : zop 89 113 = some (.iconst 1, 1) := by decide +kernel
theorem zd89_114 : zop 89 114 = some (.ireturn, 1) := by decide +kernel
theorem b89_0 {x : zXs} {F : zF} (hF : zSh F) {d : Nat} {V : Nat → Nat → Int32} {T : Nat → Nat → Int64} {Q : Option Value → zG → Prop} {o1 : Option Value} {o2 : Option Value} {o3 : Option Value} {o4 : Option Value}   (k : E x F d 89 7 [some (.ref 43), some (.int ((V 43 1) - (Int32.ofInt 2))), o2, o3, o4] [] (V, T) Q) : E x F d 89 0 [some (.ref 43), o1, o2, o3, o4] [] (V, T) Q := by
  refine e_aload_n zd89_0 rfl rfl ?_
  refine e_getI zd89_1 (own := 1) (ci := 1) (kf := 1) (w := 232) (by decide +kernel) (by decide +kernel) (zsh_at hF rfl).1 (by decide +kernel) rfl ?_
  refine e_iconst zd89_4 ?_
  refine e_isub zd89_5 ?_
  refine e_istore_n zd89_6 (by decide +kernel) (Nat.le_of_ble_eq_true rfl) ?_
  exact k
theorem b89_7 {x : zXs} {F : zF} (hF : zSh F) {d : Nat} {V : Nat → Nat → Int32} {T : Nat → Nat → Int64} {Q : Option Value → zG → Prop} {o0 : Option Value} {l1 : Int32} {o2 : Option Value} {o3 : Option Value} {o4 : Option Value}   (kt : l1 < 0 → E x F d 89 34 [o0, some (.int l1), o2, o3, o4] [] (V, T) Q) (kf : ¬ (l1 < 0) → E x F d 89 11 [o0, some (.int l1), o2, o3, o4] [] (V, T) Q) : E x F d 89 7 [o0, some (.int l1), o2, o3, o4] [] (V, T) Q := by
  refine e_iload_n zd89_7 rfl ?_
  exact e_if_lt zd89_8 (tg := 34) rfl kt kf
theorem b89_11 {x : zXs} {F : zF} (hF : zSh F) {d : Nat} {V : Nat → Nat → Int32} {T : Nat → Nat → Int64} {Q : Option Value → zG → Prop} {l1 : Int32} {o2 : Option Value} {o3 : Option Value} {o4 : Option Value}  {i1 : Nat} (e1 : l1 = nI i1) (h1 : i1 < 5) {i2 : Nat} (e2 : l1 + (Int32.ofInt 1) = nI i2) (h2 : i2 < 5) (kt : (V 44 i1) ≤ (V 44 i2) → E x F d 89 34 [some (.ref 43), some (.int l1), o2, o3, o4] [] (V, T) Q) (kf : ¬ ((V 44 i1) ≤ (V 44 i2)) → E x F d 89 28 [some (.ref 43), some (.int l1), o2, o3, o4] [] (V, T) Q) : E x F d 89 11 [some (.ref 43), some (.int l1), o2, o3, o4] [] (V, T) Q := by
  refine e_aload_n zd89_11 rfl rfl ?_
  refine e_getA zd89_12 (own := 1) (ci := 1) (kf := 0) (w := 230) (by decide +kernel) (by decide +kernel) (zsh_at hF rfl).1 (by decide +kernel) rfl (zrf_at hF (i := 46) rfl) ?_
  refine e_iload_n zd89_15 rfl ?_
  refine e_iald zd89_16 (i := i1) (zsh_at hF rfl) e1 h1 (by omega) ?_
  refine e_aload_n zd89_17 rfl rfl ?_
  refine e_getA zd89_18 (own := 1) (ci := 1) (kf := 0) (w := 230) (by decide +kernel) (by decide +kernel) (zsh_at hF rfl).1 (by decide +kernel) rfl (zrf_at hF (i := 46) rfl) ?_
  refine e_iload_n zd89_21 rfl ?_
  refine e_iconst zd89_22 ?_
  refine e_iadd zd89_23 ?_
  refine e_iald zd89_24 (i := i2) (zsh_at hF rfl) e2 h2 (by omega) ?_
  exact e_icmp_le zd89_25 (tg := 34) rfl kt kf
theorem b89_28 {x : zXs} {F : zF} (hF : zSh F) {d : Nat} {V : Nat → Nat → Int32} {T : Nat → Nat → Int64} {Q : Option Value → zG → Prop} {o0 : Option Value} {l1 : Int32} {o2 : Option Value} {o3 : Option Value} {o4 : Option Value}   (k : E x F d 89 7 [o0, some (.int (l1 + Int32.ofInt (-1))), o2, o3, o4] [] (V, T) Q) : E x F d 89 28 [o0, some (.int l1), o2, o3, o4] [] (V, T) Q := by
  refine e_iinc zd89_28 rfl (by decide +kernel) ?_
  exact e_goto zd89_31 (tg := 7) rfl k
theorem b89_34 {x : zXs} {F : zF} (hF : zSh F) {d : Nat} {V : Nat → Nat → Int32} {T : Nat → Nat → Int64} {Q : Option Value → zG → Prop} {o0 : Option Value} {l1 : Int32} {o2 : Option Value} {o3 : Option Value} {o4 : Option Value}   (kt : 0 ≤ l1 → E x F d 89 40 [o0, some (.int l1), o2, o3, o4] [] (V, T) Q) (kf : ¬ (0 ≤ l1) → E x F d 89 38 [o0, some (.int l1), o2, o3, o4] [] (V, T) Q) : E x F d 89 34 [o0, some (.int l1), o2, o3, o4] [] (V, T) Q := by
  refine e_iload_n zd89_34 rfl ?_
  exact e_if_ge zd89_35 (tg := 40) rfl kt kf
theorem b89_38 {x : zXs} {F : zF} (hF : zSh F) {d : Nat} {V : Nat → Nat → Int32} {T : Nat → Nat → Int64} {Q : Option Value → zG → Prop} {o0 : Option Value} {o1 : Option Value} {o2 : Option Value} {o3 : Option Value} {o4 : Option Value}   (k : Q (some (.int (Int32.ofInt 0))) (V, T)) : E x F d 89 38 [o0, o1, o2, o3, o4] [] (V, T) Q := by
  refine e_iconst zd89_38 ?_
  exact e_iretz zd89_39 zs89 (by decide +kernel) k
theorem b89_40 {x : zXs} {F : zF} (hF : zSh F) {d : Nat} {V : Nat → Nat → Int32} {T : Nat → Nat → Int64} {Q : Option Value → zG → Prop} {o1 : Option Value} {o2 : Option Value} {o3 : Option Value} {o4 : Option Value}   (k : E x F d 89 47 [some (.ref 43), o1, some (.int ((V 43 1) - (Int32.ofInt 1))), o3, o4] [] (V, T) Q) : E x F d 89 40 [some (.ref 43), o1, o2, o3, o4] [] (V, T) Q := by
  refine e_aload_n zd89_40 rfl rfl ?_
  refine e_getI zd89_41 (own := 1) (ci := 1) (kf := 1) (w := 232) (by decide +kernel) (by decide +kernel) (zsh_at hF rfl).1 (by decide +kernel) rfl ?_
  refine e_iconst zd89_44 ?_
  refine e_isub zd89_45 ?_
  refine e_istore_n zd89_46 (by decide +kernel) (Nat.le_of_ble_eq_true rfl) ?_
  exact k
theorem b89_47 {x : zXs} {F : zF} (hF : zSh F) {d : Nat} {V : Nat → Nat → Int32} {T : Nat → Nat → Int64} {Q : Option Value → zG → Prop} {o0 : Option Value} {l1 : Int32} {l2 : Int32} {o3 : Option Value} {o4 : Option Value}   (kt : l2 ≤ l1 → E x F d 89 73 [o0, some (.int l1), some (.int l2), o3, o4] [] (V, T) Q) (kf : ¬ (l2 ≤ l1) → E x F d 89 52 [o0, some (.int l1), some (.int l2), o3, o4] [] (V, T) Q) : E x F d 89 47 [o0, some (.int l1), some (.int l2), o3, o4] [] (V, T) Q := by
  refine e_iload_n zd89_47 rfl ?_
  refine e_iload_n zd89_48 rfl ?_
  exact e_icmp_le zd89_49 (tg := 73) rfl kt kf
theorem b89_52 {x : zXs} {F : zF} (hF : zSh F) {d : Nat} {V : Nat → Nat → Int32} {T : Nat → Nat → Int64} {Q : Option Value → zG → Prop} {l1 : Int32} {l2 : Int32} {o3 : Option Value} {o4 : Option Value}  {i1 : Nat} (e1 : l2 = nI i1) (h1 : i1 < 5) {i2 : Nat} (e2 : l1 = nI i2) (h2 : i2 < 5) (kt : (V 44 i2) ≤ (V 44 i1) → E x F d 89 73 [some (.ref 43), some (.int l1), some (.int l2), o3, o4] [] (V, T) Q) (kf : ¬ ((V 44 i2) ≤ (V 44 i1)) → E x F d 89 67 [some (.ref 43), some (.int l1), some (.int l2), o3, o4] [] (V, T) Q) : E x F d 89 52 [some (.ref 43), some (.int l1), some (.int l2), o3, o4] [] (V, T) Q := by
  refine e_aload_n zd89_52 rfl rfl ?_
  refine e_getA zd89_53 (own := 1) (ci := 1) (kf := 0) (w := 230) (by decide +kernel) (by decide +kernel) (zsh_at hF rfl).1 (by decide +kernel) rfl (zrf_at hF (i := 46) rfl) ?_
  refine e_iload_n zd89_56 rfl ?_
  refine e_iald zd89_57 (i := i1) (zsh_at hF rfl) e1 h1 (by omega) ?_
  refine e_aload_n zd89_58 rfl rfl ?_
  refine e_getA zd89_59 (own := 1) (ci := 1) (kf := 0) (w := 230) (by decide +kernel) (by decide +kernel) (zsh_at hF rfl).1 (by decide +kernel) rfl (zrf_at hF (i := 46) rfl) ?_
  refine e_iload_n zd89_62 rfl ?_
  refine e_iald zd89_63 (i := i2) (zsh_at hF rfl) e2 h2 (by omega) ?_
  exact e_icmp_ge zd89_64 (tg := 73) rfl kt kf
theorem b89_67 {x : zXs} {F : zF} (hF : zSh F) {d : Nat} {V : Nat → Nat → Int32} {T : Nat → Nat → Int64} {Q : Option Value → zG → Prop} {o0 : Option Value} {o1 : Option Value} {l2 : Int32} {o3 : Option Value} {o4 : Option Value}   (k : E x F d 89 47 [o0, o1, some (.int (l2 + Int32.ofInt (-1))), o3, o4] [] (V, T) Q) : E x F d 89 67 [o0, o1, some (.int l2), o3, o4] [] (V, T) Q := by
  refine e_iinc zd89_67 rfl (by decide +kernel) ?_
  exact e_goto zd89_70 (tg := 47) rfl k
theorem b89_73 {x : zXs} {F : zF} (hF : zSh F) {d : Nat} {V : Nat → Nat → Int32} {T : Nat → Nat → Int64} {Q : Option Value → zG → Prop} {l1 : Int32} {l2 : Int32} {o3 : Option Value} {o4 : Option Value}   (k : E x F d 90 0 [some (.ref 43), some (.int l1), some (.int l2), none] [] (V, T) (fun r G' => E x F (d + 1) 89 79 [some (.ref 43), some (.int l1), some (.int l2), o3, o4] (r.toList ++ []) G' Q)) : E x F (d + 1) 89 73 [some (.ref 43), some (.int l1), some (.int l2), o3, o4] [] (V, T) Q := by
  refine e_aload_n zd89_73 rfl rfl ?_
  refine e_iload_n zd89_74 rfl ?_
  refine e_iload_n zd89_75 rfl ?_
  exact e_callV zd89_76 (own := 1) (nest := false) (w := 695) (by decide +kernel) (by decide +kernel) zs90 (as := [.int l1, .int l2]) (rest := []) rfl rfl (zsh_at hF rfl).1 (by omega) (Nat.le_of_ble_eq_true rfl) rfl rfl rfl (by omega) k
theorem b89_79 {x : zXs} {F : zF} (hF : zSh F) {d : Nat} {V : Nat → Nat → Int32} {T : Nat → Nat → Int64} {Q : Option Value → zG → Prop} {l1 : Int32} {o2 : Option Value} {o3 : Option Value} {o4 : Option Value}   (k : E x F d 89 91 [some (.ref 43), some (.int l1), o2, some (.int (l1 + (Int32.ofInt 1))), some (.int ((V 43 1) - (Int32.ofInt 1)))] [] (V, T) Q) : E x F d 89 79 [some (.ref 43), some (.int l1), o2, o3, o4] [] (V, T) Q := by
  refine e_iload_n zd89_79 rfl ?_
  refine e_iconst zd89_80 ?_
  refine e_iadd zd89_81 ?_
  refine e_istore_n zd89_82 (by decide +kernel) (Nat.le_of_ble_eq_true rfl) ?_
  refine e_aload_n zd89_83 rfl rfl ?_
  refine e_getI zd89_84 (own := 1) (ci := 1) (kf := 1) (w := 232) (by decide +kernel) (by decide +kernel) (zsh_at hF rfl).1 (by decide +kernel) rfl ?_
  refine e_iconst zd89_87 ?_
  refine e_isub zd89_88 ?_
  refine e_istore zd89_89 (by decide +kernel) (Nat.le_of_ble_eq_true rfl) ?_
  exact k
theorem b89_91 {x : zXs} {F : zF} (hF : zSh F) {d : Nat} {V : Nat → Nat → Int32} {T : Nat → Nat → Int64} {Q : Option Value → zG → Prop} {o0 : Option Value} {o1 : Option Value} {o2 : Option Value} {l3 : Int32} {l4 : Int32}   (kt : l4 ≤ l3 → E x F d 89 113 [o0, o1, o2, some (.int l3), some (.int l4)] [] (V, T) Q) (kf : ¬ (l4 ≤ l3) → E x F d 89 97 [o0, o1, o2, some (.int l3), some (.int l4)] [] (V, T) Q) : E x F d 89 91 [o0, o1, o2, some (.int l3), some (.int l4)] [] (V, T) Q := by
  refine e_iload_n zd89_91 rfl ?_
  refine e_iload zd89_92 rfl ?_
  exact e_icmp_ge zd89_94 (tg := 113) rfl kt kf
theorem b89_97 {x : zXs} {F : zF} (hF : zSh F) {d : Nat} {V : Nat → Nat → Int32} {T : Nat → Nat → Int64} {Q : Option Value → zG → Prop} {o1 : Option Value} {o2 : Option Value} {l3 : Int32} {l4 : Int32}   (k : E x F d 90 0 [some (.ref 43), some (.int l3), some (.int l4), none] [] (V, T) (fun r G' => E x F (d + 1) 89 104 [some (.ref 43), o1, o2, some (.int l3), some (.int l4)] (r.toList ++ []) G' Q)) : E x F (d + 1) 89 97 [some (.ref 43), o1, o2, some (.int l3), some (.int l4)] [] (V, T) Q := by
  refine e_aload_n zd89_97 rfl rfl ?_
  refine e_iload_n zd89_98 rfl ?_
  refine e_iload zd89_99 rfl ?_
  exact e_callV zd89_101 (own := 1) (nest := false) (w := 695) (by decide +kernel) (by decide +kernel) zs90 (as := [.int l3, .int l4]) (rest := []) rfl rfl (zsh_at hF rfl).1 (by omega) (Nat.le_of_ble_eq_true rfl) rfl rfl rfl (by omega) k
theorem b89_104 {x : zXs} {F : zF} (hF : zSh F) {d : Nat} {V : Nat → Nat → Int32} {T : Nat → Nat → Int64} {Q : Option Value → zG → Prop} {o0 : Option Value} {o1 : Option Value} {o2 : Option Value} {l3 : Int32} {l4 : Int32}   (k : E x F d 89 91 [o0, o1, o2, some (.int (l3 + Int32.ofInt 1)), some (.int (l4 + Int32.ofInt (-1)))] [] (V, T) Q) : E x F d 89 104 [o0, o1, o2, some (.int l3), some (.int l4)] [] (V, T) Q := by
  refine e_iinc zd89_104 rfl (by decide +kernel) ?_
  refine e_iinc zd89_107 rfl (by decide +kernel) ?_
  exact e_goto zd89_110 (tg := 91) rfl k
theorem b89_113 {x : zXs} {F : zF} (hF : zSh F) {d : Nat} {V : Nat → Nat → Int32} {T : Nat → Nat → Int64} {Q : Option Value → zG → Prop} {o0 : Option Value} {o1 : Option Value} {o2 : Option Value} {o3 : Option Value} {o4 : Option Value}   (k : Q (some (.int (Int32.ofInt 1))) (V, T)) : E x F d 89 113 [o0, o1, o2, o3, o4] [] (V, T) Q := by
  refine e_iconst zd89_113 ?_
  exact e_iretz zd89_114 zs89 (by decide +kernel) k
theorem zd90_0 : zop 90 0 = some (.aload_n 0, 1) := by decide +kernel
theorem zd90_1 : zop 90 1 = some (.getfield 9, 3) := by decide +kernel
theorem zd90_4 : zop 90 4 = some (.iload_n 1, 1) := by decide +kernel
theorem zd90_5 : zop 90 5 = some (.iaload, 1) := by decide +kernel
theorem zd90_6 : zop 90 6 = some (.istore_n 3, 1) := by decide +kernel
theorem zd90_7 : zop 90 7 = some (.aload_n 0, 1) := by decide +kernel
theorem zd90_8 : zop 90 8 = some (.getfield 9, 3) := by decide +kernel
theorem zd90_11 : zop 90 11 = some (.iload_n 1, 1) := by decide +kernel
theorem zd90_12 : zop 90 12 = some (.aload_n 0, 1) := by decide +kernel
theorem zd90_13 : zop 90 13 = some (.getfield 9, 3) := by decide +kernel
theorem zd90_16 : zop 90 16 = some (.iload_n 2, 1) := by decide +kernel
theorem zd90_17 : zop 90 17 = some (.iaload, 1) := by decide +kernel
theorem zd90_18 : zop 90 18 = some (.iastore, 1) := by decide +kernel
theorem zd90_19 : zop 90 19 = some (.aload_n 0, 1) := by decide +kernel
theorem zd90_20 : zop 90 20 = some (.getfield 9, 3) := by decide +kernel
theorem zd90_23 : zop 90 23 = some (.iload_n 2, 1) := by decide +kernel
theorem zd90_24 : zop 90 24 = some (.iload_n 3, 1) := by decide +kernel
theorem zd90_25 : zop 90 25 = some (.iastore, 1) := by decide +kernel
theorem zd90_26 : zop 90 26 = some (.return_, 1) := by decide +kernel
theorem b90_0 {x : zXs} {F : zF} (hF : zSh F) {d : Nat} {V : Nat → Nat → Int32} {T : Nat → Nat → Int64} {Q : Option Value → zG → Prop} {l1 : Int32} {l2 : Int32} {o3 : Option Value}  {i1 : Nat} (e1 : l1 = nI i1) (h1 : i1 < 5) {i2 : Nat} (e2 : l2 = nI i2) (h2 : i2 < 5) {i3 : Nat} (e3 : l1 = nI i3) (h3 : i3 < 5) {i4 : Nat} (e4 : l2 = nI i4) (h4 : i4 < 5) (k : Q none (zu (zu V 44 i3 (V 44 i2)) 44 i4 (V 44 i1), T)) : E x F d 90 0 [some (.ref 43), some (.int l1), some (.int l2), o3] [] (V, T) Q := by
  refine e_aload_n zd90_0 rfl rfl ?_
  refine e_getA zd90_1 (own := 1) (ci := 1) (kf := 0) (w := 230) (by decide +kernel) (by decide +kernel) (zsh_at hF rfl).1 (by decide +kernel) rfl (zrf_at hF (i := 46) rfl) ?_
  refine e_iload_n zd90_4 rfl ?_
  refine e_iald zd90_5 (i := i1) (zsh_at hF rfl) e1 h1 (by omega) ?_
  refine e_istore_n zd90_6 (by decide +kernel) (Nat.le_of_ble_eq_true rfl) ?_
  refine e_aload_n zd90_7 rfl rfl ?_
  refine e_getA zd90_8 (own := 1) (ci := 1) (kf := 0) (w := 230) (by decide +kernel) (by decide +kernel) (zsh_at hF rfl).1 (by decide +kernel) rfl (zrf_at hF (i := 46) rfl) ?_
  refine e_iload_n zd90_11 rfl ?_
  refine e_aload_n zd90_12 rfl rfl ?_
  refine e_getA zd90_13 (own := 1) (ci := 1) (kf := 0) (w := 230) (by decide +kernel) (by decide +kernel) (zsh_at hF rfl).1 (by decide +kernel) rfl (zrf_at hF (i := 46) rfl) ?_
  refine e_iload_n zd90_16 rfl ?_
  refine e_iald zd90_17 (i := i2) (zsh_at hF rfl) e2 h2 (by omega) ?_
  refine e_iast zd90_18 (i := i3) (zsh_at hF rfl) e3 h3 (by omega) ?_
  refine e_aload_n zd90_19 rfl rfl ?_
  refine e_getA zd90_20 (own := 1) (ci := 1) (kf := 0) (w := 230) (by decide +kernel) (by decide +kernel) (zsh_at hF rfl).1 (by decide +kernel) rfl (zrf_at hF (i := 46) rfl) ?_
  refine e_iload_n zd90_23 rfl ?_
  refine e_iload_n zd90_24 rfl ?_
  refine e_iast zd90_25 (i := i4) (zsh_at hF rfl) e4 h4 (by omega) ?_
  exact e_vret zd90_26 zs90 k
theorem zd91_0 : zop 91 0 = some (.aload_n 0, 1) := by decide +kernel
theorem zd91_1 : zop 91 1 = some (.getfield 10, 3) := by decide +kernel
theorem zd91_4 : zop 91 4 = some (.iload_n 1, 1) := by decide +kernel
theorem zd91_5 : zop 91 5 = some (.invokevirtual 55, 3) := by decide +kernel
theorem zd91_8 : zop 91 8 = some (.ifCond .ne 7, 3) := by decide +kernel
theorem zd91_11 : zop 91 11 = some (.sipush (-1000), 3) := by decide +kernel
theorem zd91_14 : zop 91 14 = some (.ireturn, 1) := by decide +kernel
theorem zd91_15 : zop 91 15 = some (.iload_n 2, 1) := by decide +kernel
theorem zd91_16 : zop 91 16 = some (.tableswitch 73 0 4 #[36, 36, 51, 51, 67], 36) := by decide +kernel
theorem zd91_52 : zop 91 52 = some (.aload_n 0, 1) := by decide +kernel
theorem zd91_53 : zop 91 53 = some (.iload_n 1, 1) := by decide +kernel
theorem zd91_54 : zop 91 54 = some (.iload_n 2, 1) := by decide +kernel
theorem zd91_55 : zop 91 55 = some (.ifCond .ne 7, 3) := by decide +kernel
theorem zd91_58 : zop 91 58 = some (.iconst 1, 1) := by decide +kernel
theorem zd91_59 : zop 91 59 = some (.goto 4, 3) := by decide +kernel
theorem zd91_62 : zop 91 62 = some (.iconst 0, 1) := by decide +kernel
theorem zd91_63 : zop 91 63 = some (.invokevirtual 194, 3) := by decide +kernel
theorem zd91_66 : zop 91 66 = some (.ireturn, 1) := by decide +kernel
theorem zd91_67 : zop 91 67 = some (.aload_n 0, 1) := by decide +kernel
theorem zd91_68 : zop 91 68 = some (.iload_n 1, 1) := by decide +kernel
theorem zd91_69 : zop 91 69 = some (.iload_n 2, 1) := by decide +kernel
theorem zd91_70 : zop 91 70 = some (.iconst 2, 1) := by decide +kernel
theorem zd91_71 : zop 91 71 = some (.if_icmp .ne 7, 3) := by decide +kernel
theorem zd91_74 : zop 91 74 = some (.iconst 1, 1) := by decide +kernel
theorem zd91_75 : zop 91 75 = some (.goto 4, 3) := by decide +kernel
theorem zd91_78 : zop 91 78 = some (.iconst 0, 1) := by decide +kernel
theorem zd91_79 : zop 91 79 = some (.invokevirtual 198, 3) := by decide +kernel
theorem zd91_82 : zop 91 82 = some (.ireturn, 1) := by decide +kernel
theorem zd91_83 : zop 91 83 = some (.aload_n 0, 1) := by decide +kernel
theorem zd91_84 : zop 91 84 = some (.iload_n 1, 1) := by decide +kernel
theorem zd91_85 : zop 91 85 = some (.invokevirtual 201, 3) := by decide +kernel
theorem zd91_88 : zop 91 88 = some (.ireturn, 1) := by decide +kernel
theorem zd91_89 : zop 91 89 = some (.sipush (-1000), 3) := by decide +kernel
theorem zd91_92 : zop 91 92 = some (.ireturn, 1) := by decide +kernel
theorem b91_0 {x : zXs} {F : zF} (hF : zSh F) {d : Nat} {V : Nat → Nat → Int32} {T : Nat → Nat → Int64} {Q : Option Value → zG → Prop} {l1 : Int32} {o2 : Option Value}   (k : E x F d 12 0 [some (.ref 1), some (.int l1)] [] (V, T) (fun r G' => E x F (d + 1) 91 8 [some (.ref 0), some (.int l1), o2] (r.toList ++ []) G' Q)) : E x F (d + 1) 91 0 [some (.ref 0), some (.int l1), o2] [] (V, T) Q := by
  refine e_aload_n zd91_0 rfl rfl ?_
  refine e_getO zd91_1 (own := 7) (ci := 7) (kf := 0) (w := 297) (by decide +kernel) (by decide +kernel) (zsh_at hF rfl).1 (by decide +kernel) rfl (zrf_at hF (i := 0) rfl) ?_
  refine e_iload_n zd91_4 rfl ?_
  exact e_callV zd91_5 (own := 7) (nest := false) (w := 329) (by decide +kernel) (by decide +kernel) zs12 (as := [.int l1]) (rest := []) rfl rfl (zsh_at hF rfl).1 (by omega) (Nat.le_of_ble_eq_true rfl) rfl rfl rfl (by omega) k
theorem b91_8 {x : zXs} {F : zF} (hF : zSh F) {d : Nat} {V : Nat → Nat → Int32} {T : Nat → Nat → Int64} {Q : Option Value → zG → Prop} {o0 : Option Value} {o1 : Option Value} {o2 : Option Value} {s0 : Int32}   (kt : ¬ s0 = 0 → E x F d 91 15 [o0, o1, o2] [] (V, T) Q) (kf : ¬ (¬ s0 = 0) → E x F d 91 11 [o0, o1, o2] [] (V, T) Q) : E x F d 91 8 [o0, o1, o2] [.int s0] (V, T) Q := by
  exact e_if_ne zd91_8 (tg := 15) rfl kt kf
theorem b91_11 {x : zXs} {F : zF} (hF : zSh F) {d : Nat} {V : Nat → Nat → Int32} {T : Nat → Nat → Int64} {Q : Option Value → zG → Prop} {o0 : Option Value} {o1 : Option Value} {o2 : Option Value}   (k : Q (some (.int (Int32.ofInt (-1000)))) (V, T)) : E x F d 91 11 [o0, o1, o2] [] (V, T) Q := by
  refine e_sipush zd91_11 (v := Int32.ofInt (-1000)) (by decide +kernel) ?_
  exact e_ireti zd91_14 zs91 k
theorem b91_15 {x : zXs} {F : zF} (hF : zSh F) {d : Nat} {V : Nat → Nat → Int32} {T : Nat → Nat → Int64} {Q : Option Value → zG → Prop} {o0 : Option Value} {o1 : Option Value} {l2 : Int32}   (k0 : l2 = Int32.ofInt 0 → E x F d 91 52 [o0, o1, some (.int l2)] [] (V, T) Q) (k1 : l2 = Int32.ofInt 1 → E x F d 91 52 [o0, o1, some (.int l2)] [] (V, T) Q) (k2 : l2 = Int32.ofInt 2 → E x F d 91 67 [o0, o1, some (.int l2)] [] (V, T) Q) (k3 : l2 = Int32.ofInt 3 → E x F d 91 67 [o0, o1, some (.int l2)] [] (V, T) Q) (k4 : l2 = Int32.ofInt 4 → E x F d 91 83 [o0, o1, some (.int l2)] [] (V, T) Q) (kd : ¬ l2 = Int32.ofInt 0 ∧ ¬ l2 = Int32.ofInt 1 ∧ ¬ l2 = Int32.ofInt 2 ∧ ¬ l2 = Int32.ofInt 3 ∧ ¬ l2 = Int32.ofInt 4 → E x F d 91 89 [o0, o1, some (.int l2)] [] (V, T) Q) : E x F d 91 15 [o0, o1, some (.int l2)] [] (V, T) Q := by
  refine e_iload_n zd91_15 rfl ?_
  by_cases c0 : l2 = Int32.ofInt 0
  · exact e_tableIn zd91_16 (off := 36) (by rw [c0]; decide +kernel) (by rw [c0]; decide +kernel) (tg := 52) rfl (k0 c0)
  by_cases c1 : l2 = Int32.ofInt 1
  · exact e_tableIn zd91_16 (off := 36) (by rw [c1]; decide +kernel) (by rw [c1]; decide +kernel) (tg := 52) rfl (k1 c1)
  by_cases c2 : l2 = Int32.ofInt 2
  · exact e_tableIn zd91_16 (off := 51) (by rw [c2]; decide +kernel) (by rw [c2]; decide +kernel) (tg := 67) rfl (k2 c2)
  by_cases c3 : l2 = Int32.ofInt 3
  · exact e_tableIn zd91_16 (off := 51) (by rw [c3]; decide +kernel) (by rw [c3]; decide +kernel) (tg := 67) rfl (k3 c3)
  by_cases c4 : l2 = Int32.ofInt 4
  · exact e_tableIn zd91_16 (off := 67) (by rw [c4]; decide +kernel) (by rw [c4]; decide +kernel) (tg := 83) rfl (k4 c4)
  exact e_tableOut zd91_16 (zsw_out (lo := 0) (hi := 4) (by decide) (by decide) (fun v h1 h2 h => by
    rcases (show v = 0 ∨ v = 1 ∨ v = 2 ∨ v = 3 ∨ v = 4 by omega) with rfl | rfl | rfl | rfl | rfl
    · exact c0 h
    · exact c1 h
    · exact c2 h
    · exact c3 h
    · exact c4 h)) (tg := 89) rfl (kd ⟨c0, c1, c2, c3, c4⟩)
theorem b91_52 {x : zXs} {F : zF} (hF : zSh F) {d : Nat} {V : Nat → Nat → Int32} {T : Nat → Nat → Int64} {Q : Option Value → zG → Prop} {l1 : Int32} {l2 : Int32}   (kt : ¬ l2 = 0 → E x F d 91 62 [some (.ref 0), some (.int l1), some (.int l2)] [.int l1, .ref 0] (V, T) Q) (kf : ¬ (¬ l2 = 0) → E x F d 91 58 [some (.ref 0), some (.int l1), some (.int l2)] [.int l1, .ref 0] (V, T) Q) : E x F d 91 52 [some (.ref 0), some (.int l1), some (.int l2)] [] (V, T) Q := by
  refine e_aload_n zd91_52 rfl rfl ?_
  refine e_iload_n zd91_53 rfl ?_
  refine e_iload_n zd91_54 rfl ?_
  exact e_if_ne zd91_55 (tg := 62) rfl kt kf
theorem b91_58 {x : zXs} {F : zF} (hF : zSh F) {d : Nat} {V : Nat → Nat → Int32} {T : Nat → Nat → Int64} {Q : Option Value → zG → Prop} {o0 : Option Value} {o1 : Option Value} {o2 : Option Value} {s1 : Int32}   (k : E x F d 91 63 [o0, o1, o2] [.int (Int32.ofInt 1), .int s1, .ref 0] (V, T) Q) : E x F d 91 58 [o0, o1, o2] [.int s1, .ref 0] (V, T) Q := by
  refine e_iconst zd91_58 ?_
  exact e_goto zd91_59 (tg := 63) rfl k
theorem b91_62 {x : zXs} {F : zF} (hF : zSh F) {d : Nat} {V : Nat → Nat → Int32} {T : Nat → Nat → Int64} {Q : Option Value → zG → Prop} {o0 : Option Value} {o1 : Option Value} {o2 : Option Value} {s1 : Int32}   (k : E x F d 91 63 [o0, o1, o2] [.int (Int32.ofInt 0), .int s1, .ref 0] (V, T) Q) : E x F d 91 62 [o0, o1, o2] [.int s1, .ref 0] (V, T) Q := by
  refine e_iconst zd91_62 ?_
  exact k
theorem b91_63 {x : zXs} {F : zF} (hF : zSh F) {d : Nat} {V : Nat → Nat → Int32} {T : Nat → Nat → Int64} {Q : Option Value → zG → Prop} {o0 : Option Value} {o1 : Option Value} {o2 : Option Value} {s1 : Int32} {s2 : Int32}   (k : E x F d 92 0 [some (.ref 0), some (.int s1), some (.int s2), none, none, none, none, none] [] (V, T) (fun r G' => E x F (d + 1) 91 66 [o0, o1, o2] (r.toList ++ []) G' Q)) : E x F (d + 1) 91 63 [o0, o1, o2] [.int s2, .int s1, .ref 0] (V, T) Q := by
  exact e_callV zd91_63 (own := 7) (nest := false) (w := 703) (by decide +kernel) (by decide +kernel) zs92 (as := [.int s1, .int s2]) (rest := []) rfl rfl (zsh_at hF rfl).1 (by omega) (Nat.le_of_ble_eq_true rfl) rfl rfl rfl (by omega) k
theorem b91_66 {x : zXs} {F : zF} (hF : zSh F) {d : Nat} {V : Nat → Nat → Int32} {T : Nat → Nat → Int64} {Q : Option Value → zG → Prop} {o0 : Option Value} {o1 : Option Value} {o2 : Option Value} {s0 : Int32}   (k : Q (some (.int s0)) (V, T)) : E x F d 91 66 [o0, o1, o2] [.int s0] (V, T) Q := by
  exact e_ireti zd91_66 zs91 k
theorem b91_67 {x : zXs} {F : zF} (hF : zSh F) {d : Nat} {V : Nat → Nat → Int32} {T : Nat → Nat → Int64} {Q : Option Value → zG → Prop} {l1 : Int32} {l2 : Int32}   (kt : ¬ l2 = (Int32.ofInt 2) → E x F d 91 78 [some (.ref 0), some (.int l1), some (.int l2)] [.int l1, .ref 0] (V, T) Q) (kf : ¬ (¬ l2 = (Int32.ofInt 2)) → E x F d 91 74 [some (.ref 0), some (.int l1), some (.int l2)] [.int l1, .ref 0] (V, T) Q) : E x F d 91 67 [some (.ref 0), some (.int l1), some (.int l2)] [] (V, T) Q := by
  refine e_aload_n zd91_67 rfl rfl ?_
  refine e_iload_n zd91_68 rfl ?_
  refine e_iload_n zd91_69 rfl ?_
  refine e_iconst zd91_70 ?_
  exact e_icmp_ne zd91_71 (tg := 78) rfl kt kf
theorem b91_74 {x : zXs} {F : zF} (hF : zSh F) {d : Nat} {V : Nat → Nat → Int32} {T : Nat → Nat → Int64} {Q : Option Value → zG → Prop} {o0 : Option Value} {o1 : Option Value} {o2 : Option Value} {s1 : Int32}   (k : E x F d 91 79 [o0, o1, o2] [.int (Int32.ofInt 1), .int s1, .ref 0] (V, T) Q) : E x F d 91 74 [o0, o1, o2] [.int s1, .ref 0] (V, T) Q := by
  refine e_iconst zd91_74 ?_
  exact e_goto zd91_75 (tg := 79) rfl k
theorem b91_78 {x : zXs} {F : zF} (hF : zSh F) {d : Nat} {V : Nat → Nat → Int32} {T : Nat → Nat → Int64} {Q : Option Value → zG → Prop} {o0 : Option Value} {o1 : Option Value} {o2 : Option Value} {s1 : Int32}   (k : E x F d 91 79 [o0, o1, o2] [.int (Int32.ofInt 0), .int s1, .ref 0] (V, T) Q) : E x F d 91 78 [o0, o1, o2] [.int s1, .ref 0] (V, T) Q := by
  refine e_iconst zd91_78 ?_
  exact k
theorem b91_79 {x : zXs} {F : zF} (hF : zSh F) {d : Nat} {V : Nat → Nat → Int32} {T : Nat → Nat → Int64} {Q : Option Value → zG → Prop} {o0 : Option Value} {o1 : Option Value} {o2 : Option Value} {s1 : Int32} {s2 : Int32}   (k : E x F d 93 0 [some (.ref 0), some (.int s1), some (.int s2), none, none, none, none] [] (V, T) (fun r G' => E x F (d + 1) 91 82 [o0, o1, o2] (r.toList ++ []) G' Q)) : E x F (d + 1) 91 79 [o0, o1, o2] [.int s2, .int s1, .ref 0] (V, T) Q := by
  exact e_callV zd91_79 (own := 7) (nest := false) (w := 707) (by decide +kernel) (by decide +kernel) zs93 (as := [.int s1, .int s2]) (rest := []) rfl rfl (zsh_at hF rfl).1 (by omega) (Nat.le_of_ble_eq_true rfl) rfl rfl rfl (by omega) k
theorem b91_82 {x : zXs} {F : zF} (hF : zSh F) {d : Nat} {V : Nat → Nat → Int32} {T : Nat → Nat → Int64} {Q : Option Value → zG → Prop} {o0 : Option Value} {o1 : Option Value} {o2 : Option Value} {s0 : Int32}   (k : Q (some (.int s0)) (V, T)) : E x F d 91 82 [o0, o1, o2] [.int s0] (V, T) Q := by
  exact e_ireti zd91_82 zs91 k
theorem b91_83 {x : zXs} {F : zF} (hF : zSh F) {d : Nat} {V : Nat → Nat → Int32} {T : Nat → Nat → Int64} {Q : Option Value → zG → Prop} {l1 : Int32} {o2 : Option Value}   (k : E x F d 94 0 [some (.ref 0), some (.int l1), none] [] (V, T) (fun r G' => E x F (d + 1) 91 88 [some (.ref 0), some (.int l1), o2] (r.toList ++ []) G' Q)) : E x F (d + 1) 91 83 [some (.ref 0), some (.int l1), o2] [] (V, T) Q := by
  refine e_aload_n zd91_83 rfl rfl ?_
  refine e_iload_n zd91_84 rfl ?_
  exact e_callV zd91_85 (own := 7) (nest := false) (w := 711) (by decide +kernel) (by decide +kernel) zs94 (as := [.int l1]) (rest := []) rfl rfl (zsh_at hF rfl).1 (by omega) (Nat.le_of_ble_eq_true rfl) rfl rfl rfl (by omega) k
theorem b91_88 {x : zXs} {F : zF} (hF : zSh F) {d : Nat} {V : Nat → Nat → Int32} {T : Nat → Nat → Int64} {Q : Option Value → zG → Prop} {o0 : Option Value} {o1 : Option Value} {o2 : Option Value} {s0 : Int32}   (k : Q (some (.int s0)) (V, T)) : E x F d 91 88 [o0, o1, o2] [.int s0] (V, T) Q := by
  exact e_ireti zd91_88 zs91 k
theorem b91_89 {x : zXs} {F : zF} (hF : zSh F) {d : Nat} {V : Nat → Nat → Int32} {T : Nat → Nat → Int64} {Q : Option Value → zG → Prop} {o0 : Option Value} {o1 : Option Value} {o2 : Option Value}   (k : Q (some (.int (Int32.ofInt (-1000)))) (V, T)) : E x F d 91 89 [o0, o1, o2] [] (V, T) Q := by
  refine e_sipush zd91_89 (v := Int32.ofInt (-1000)) (by decide +kernel) ?_
  exact e_ireti zd91_92 zs91 k
theorem zd92_0 : zop 92 0 = some (.iconst 0, 1) := by decide +kernel
theorem zd92_1 : zop 92 1 = some (.istore_n 3, 1) := by decide +kernel
theorem zd92_2 : zop 92 2 = some (.iconst 0, 1) := by decide +kernel
theorem zd92_3 : zop 92 3 = some (.istore 4, 2) := by decide +kernel
theorem zd92_5 : zop 92 5 = some (.iconst 1, 1) := by decide +kernel
theorem zd92_6 : zop 92 6 = some (.istore 5, 2) := by decide +kernel
theorem zd92_8 : zop 92 8 = some (.aload_n 0, 1) := by decide +kernel
theorem zd92_9 : zop 92 9 = some (.getfield 37, 3) := by decide +kernel
theorem zd92_12 : zop 92 12 = some (.aload_n 0, 1) := by decide +kernel
theorem zd92_13 : zop 92 13 = some (.getfield 10, 3) := by decide +kernel
theorem zd92_16 : zop 92 16 = some (.getfield 160, 3) := by decide +kernel
theorem zd92_19 : zop 92 19 = some (.invokevirtual 184, 3) := by decide +kernel
theorem zd92_22 : zop 92 22 = some (.iconst 0, 1) := by decide +kernel
theorem zd92_23 : zop 92 23 = some (.istore 6, 2) := by decide +kernel
theorem zd92_25 : zop 92 25 = some (.iload 6, 2) := by decide +kernel
theorem zd92_27 : zop 92 27 = some (.bipush 120, 2) := by decide +kernel
theorem zd92_29 : zop 92 29 = some (.if_icmp .ge 86, 3) := by decide +kernel
theorem zd92_32 : zop 92 32 = some (.iload 5, 2) := by decide +kernel
theorem zd92_34 : zop 92 34 = some (.ifCond .eq 81, 3) := by decide +kernel
theorem zd92_37 : zop 92 37 = some (.aload_n 0, 1) := by decide +kernel
theorem zd92_38 : zop 92 38 = some (.getfield 16, 3) := by decide +kernel
theorem zd92_41 : zop 92 41 = some (.aload_n 0, 1) := by decide +kernel
theorem zd92_42 : zop 92 42 = some (.getfield 10, 3) := by decide +kernel
theorem zd92_45 : zop 92 45 = some (.invokevirtual 178, 3) := by decide +kernel
theorem zd92_48 : zop 92 48 = some (.aload_n 0, 1) := by decide +kernel
theorem zd92_49 : zop 92 49 = some (.getfield 25, 3) := by decide +kernel
theorem zd92_52 : zop 92 52 = some (.aload_n 0, 1) := by decide +kernel
theorem zd92_53 : zop 92 53 = some (.getfield 16, 3) := by decide +kernel
theorem zd92_56 : zop 92 56 = some (.iload_n 1, 1) := by decide +kernel
theorem zd92_57 : zop 92 57 = some (.aload_n 0, 1) := by decide +kernel
theorem zd92_58 : zop 92 58 = some (.getfield 37, 3) := by decide +kernel
theorem zd92_61 : zop 92 61 = some (.iconst (-1), 1) := by decide +kernel
theorem zd92_62 : zop 92 62 = some (.invokevirtual 167, 3) := by decide +kernel
theorem zd92_65 : zop 92 65 = some (.pop, 1) := by decide +kernel
theorem zd92_66 : zop 92 66 = some (.aload_n 0, 1) := by decide +kernel
theorem zd92_67 : zop 92 67 = some (.getfield 16, 3) := by decide +kernel
theorem zd92_70 : zop 92 70 = some (.iload_n 1, 1) := by decide +kernel
theorem zd92_71 : zop 92 71 = some (.invokevirtual 70, 3) := by decide +kernel
theorem zd92_74 : zop 92 74 = some (.istore 7, 2) := by decide +kernel
theorem zd92_76 : zop 92 76 = some (.iload 6, 2) := by decide +kernel
theorem zd92_78 : zop 92 78 = some (.ifCond .eq 10, 3) := by decide +kernel
theorem zd92_81 : zop 92 81 = some (.iload 7, 2) := by decide +kernel
theorem zd92_83 : zop 92 83 = some (.iload 4, 2) := by decide +kernel
theorem zd92_85 : zop 92 85 = some (.if_icmp .ge 15, 3) := by decide +kernel
theorem zd92_88 : zop 92 88 = some (.iload 7, 2) := by decide +kernel
theorem zd92_90 : zop 92 90 = some (.istore 4, 2) := by decide +kernel
theorem zd92_92 : zop 92 92 = some (.aload_n 0, 1) := by decide +kernel
theorem zd92_93 : zop 92 93 = some (.getfield 37, 3) := by decide +kernel
theorem zd92_96 : zop 92 96 = some (.invokevirtual 187, 3) := by decide +kernel
theorem zd92_99 : zop 92 99 = some (.istore_n 3, 1) := by decide +kernel
theorem zd92_100 : zop 92 100 = some (.aload_n 0, 1) := by decide +kernel
theorem zd92_101 : zop 92 101 = some (.getfield 37, 3) := by decide +kernel
theorem zd92_104 : zop 92 104 = some (.invokevirtual 190, 3) := by decide +kernel
theorem zd92_107 : zop 92 107 = some (.istore 5, 2) := by decide +kernel
theorem zd92_109 : zop 92 109 = some (.iinc 6 1, 3) := by decide +kernel
theorem zd92_112 : zop 92 112 = some (.goto (-87), 3) := by decide +kernel
theorem zd92_115 : zop 92 115 = some (.iload_n 2, 1) := by decide +kernel
theorem zd92_116 : zop 92 116 = some (.ifCond .eq 7, 3) := by decide +kernel
theorem zd92_119 : zop 92 119 = some (.iload_n 3, 1) := by decide +kernel
theorem zd92_120 : zop 92 120 = some (.goto 5, 3) := by decide +kernel
theorem zd92_123 : zop 92 123 = some (.iload 4, 2) := by decide +kernel
theorem zd92_125 : zop 92 125 = some (.ireturn, 1) := by decide +kernel
theorem b92_0 {x : zXs} {F : zF} (hF : zSh F) {d : Nat} {V : Nat → Nat → Int32} {T : Nat → Nat → Int64} {Q : Option Value → zG → Prop} {o1 : Option Value} {o2 : Option Value} {o3 : Option Value} {o4 : Option Value} {o5 : Option Value} {o6 : Option Value} {o7 : Option Value}   (k : E x F d 86 0 [some (.ref 43), some (.int (V 1 5)), none] [] (V, T) (fun r G' => E x F (d + 1) 92 22 [some (.ref 0), o1, o2, some (.int (Int32.ofInt 0)), some (.int (Int32.ofInt 0)), some (.int (Int32.ofInt 1)), o6, o7] (r.toList ++ []) G' Q)) : E x F (d + 1) 92 0 [some (.ref 0), o1, o2, o3, o4, o5, o6, o7] [] (V, T) Q := by
  refine e_iconst zd92_0 ?_
  refine e_istore_n zd92_1 (by decide +kernel) (Nat.le_of_ble_eq_true rfl) ?_
  refine e_iconst zd92_2 ?_
  refine e_istore zd92_3 (by decide +kernel) (Nat.le_of_ble_eq_true rfl) ?_
  refine e_iconst zd92_5 ?_
  refine e_istore zd92_6 (by decide +kernel) (Nat.le_of_ble_eq_true rfl) ?_
  refine e_aload_n zd92_8 rfl rfl ?_
  refine e_getO zd92_9 (own := 7) (ci := 7) (kf := 5) (w := 302) (by decide +kernel) (by decide +kernel) (zsh_at hF rfl).1 (by decide +kernel) rfl (zrf_at hF (i := 5) rfl) ?_
  refine e_aload_n zd92_12 rfl rfl ?_
  refine e_getO zd92_13 (own := 7) (ci := 7) (kf := 0) (w := 297) (by decide +kernel) (by decide +kernel) (zsh_at hF rfl).1 (by decide +kernel) rfl (zrf_at hF (i := 0) rfl) ?_
  refine e_getI zd92_16 (own := 7) (ci := 4) (kf := 5) (w := 129) (by decide +kernel) (by decide +kernel) (zsh_at hF rfl).1 (by decide +kernel) rfl ?_
  exact e_callV zd92_19 (own := 7) (nest := false) (w := 679) (by decide +kernel) (by decide +kernel) zs86 (as := [.int (V 1 5)]) (rest := []) rfl rfl (zsh_at hF rfl).1 (by omega) (Nat.le_of_ble_eq_true rfl) rfl rfl rfl (by omega) k
theorem b92_22 {x : zXs} {F : zF} (hF : zSh F) {d : Nat} {V : Nat → Nat → Int32} {T : Nat → Nat → Int64} {Q : Option Value → zG → Prop} {o0 : Option Value} {o1 : Option Value} {o2 : Option Value} {o3 : Option Value} {o4 : Option Value} {o5 : Option Value} {o6 : Option Value} {o7 : Option Value}   (k : E x F d 92 25 [o0, o1, o2, o3, o4, o5, some (.int (Int32.ofInt 0)), o7] [] (V, T) Q) : E x F d 92 22 [o0, o1, o2, o3, o4, o5, o6, o7] [] (V, T) Q := by
  refine e_iconst zd92_22 ?_
  refine e_istore zd92_23 (by decide +kernel) (Nat.le_of_ble_eq_true rfl) ?_
  exact k
theorem b92_25 {x : zXs} {F : zF} (hF : zSh F) {d : Nat} {V : Nat → Nat → Int32} {T : Nat → Nat → Int64} {Q : Option Value → zG → Prop} {o0 : Option Value} {o1 : Option Value} {o2 : Option Value} {o3 : Option Value} {o4 : Option Value} {o5 : Option Value} {l6 : Int32} {o7 : Option Value}   (kt : (Int32.ofInt 120) ≤ l6 → E x F d 92 115 [o0, o1, o2, o3, o4, o5, some (.int l6), o7] [] (V, T) Q) (kf : ¬ ((Int32.ofInt 120) ≤ l6) → E x F d 92 32 [o0, o1, o2, o3, o4, o5, some (.int l6), o7] [] (V, T) Q) : E x F d 92 25 [o0, o1, o2, o3, o4, o5, some (.int l6), o7] [] (V, T) Q := by
  refine e_iload zd92_25 rfl ?_
  refine e_bipush zd92_27 (v := Int32.ofInt 120) (by decide +kernel) ?_
  exact e_icmp_ge zd92_29 (tg := 115) rfl kt kf
theorem b92_32 {x : zXs} {F : zF} (hF : zSh F) {d : Nat} {V : Nat → Nat → Int32} {T : Nat → Nat → Int64} {Q : Option Value → zG → Prop} {o0 : Option Value} {o1 : Option Value} {o2 : Option Value} {o3 : Option Value} {o4 : Option Value} {l5 : Int32} {o6 : Option Value} {o7 : Option Value}   (kt : l5 = 0 → E x F d 92 115 [o0, o1, o2, o3, o4, some (.int l5), o6, o7] [] (V, T) Q) (kf : ¬ (l5 = 0) → E x F d 92 37 [o0, o1, o2, o3, o4, some (.int l5), o6, o7] [] (V, T) Q) : E x F d 92 32 [o0, o1, o2, o3, o4, some (.int l5), o6, o7] [] (V, T) Q := by
  refine e_iload zd92_32 rfl ?_
  exact e_if_eq zd92_34 (tg := 115) rfl kt kf
theorem b92_37 {x : zXs} {F : zF} (hF : zSh F) {d : Nat} {V : Nat → Nat → Int32} {T : Nat → Nat → Int64} {Q : Option Value → zG → Prop} {o1 : Option Value} {o2 : Option Value} {o3 : Option Value} {o4 : Option Value} {o5 : Option Value} {o6 : Option Value} {o7 : Option Value}   (k : E x F d 83 0 [some (.ref 7), some (.ref 1)] [] (V, T) (fun r G' => E x F (d + 1) 92 48 [some (.ref 0), o1, o2, o3, o4, o5, o6, o7] (r.toList ++ []) G' Q)) : E x F (d + 1) 92 37 [some (.ref 0), o1, o2, o3, o4, o5, o6, o7] [] (V, T) Q := by
  refine e_aload_n zd92_37 rfl rfl ?_
  refine e_getO zd92_38 (own := 7) (ci := 7) (kf := 1) (w := 298) (by decide +kernel) (by decide +kernel) (zsh_at hF rfl).1 (by decide +kernel) rfl (zrf_at hF (i := 1) rfl) ?_
  refine e_aload_n zd92_41 rfl rfl ?_
  refine e_getO zd92_42 (own := 7) (ci := 7) (kf := 0) (w := 297) (by decide +kernel) (by decide +kernel) (zsh_at hF rfl).1 (by decide +kernel) rfl (zrf_at hF (i := 0) rfl) ?_
  exact e_callV zd92_45 (own := 7) (nest := false) (w := 666) (by decide +kernel) (by decide +kernel) zs83 (as := [.ref 1]) (rest := []) rfl rfl (zsh_at hF rfl).1 (by omega) (Nat.le_of_ble_eq_true rfl) rfl rfl rfl (by omega) k
theorem b92_48 {x : zXs} {F : zF} (hF : zSh F) {d : Nat} {V : Nat → Nat → Int32} {T : Nat → Nat → Int64} {Q : Option Value → zG → Prop} {l1 : Int32} {o2 : Option Value} {o3 : Option Value} {o4 : Option Value} {o5 : Option Value} {o6 : Option Value} {o7 : Option Value}   (k : E x F d 78 0 [some (.ref 19), some (.ref 7), some (.int l1), some (.ref 43), some (.int (Int32.ofInt (-1))), none, none, none, none] [] (V, T) (fun r G' => E x F (d + 1) 92 65 [some (.ref 0), some (.int l1), o2, o3, o4, o5, o6, o7] (r.toList ++ []) G' Q)) : E x F (d + 1) 92 48 [some (.ref 0), some (.int l1), o2, o3, o4, o5, o6, o7] [] (V, T) Q := by
  refine e_aload_n zd92_48 rfl rfl ?_
  refine e_getO zd92_49 (own := 7) (ci := 7) (kf := 3) (w := 300) (by decide +kernel) (by decide +kernel) (zsh_at hF rfl).1 (by decide +kernel) rfl (zrf_at hF (i := 3) rfl) ?_
  refine e_aload_n zd92_52 rfl rfl ?_
  refine e_getO zd92_53 (own := 7) (ci := 7) (kf := 1) (w := 298) (by decide +kernel) (by decide +kernel) (zsh_at hF rfl).1 (by decide +kernel) rfl (zrf_at hF (i := 1) rfl) ?_
  refine e_iload_n zd92_56 rfl ?_
  refine e_aload_n zd92_57 rfl rfl ?_
  refine e_getO zd92_58 (own := 7) (ci := 7) (kf := 5) (w := 302) (by decide +kernel) (by decide +kernel) (zsh_at hF rfl).1 (by decide +kernel) rfl (zrf_at hF (i := 5) rfl) ?_
  refine e_iconst zd92_61 ?_
  exact e_callV zd92_62 (own := 7) (nest := false) (w := 639) (by decide +kernel) (by decide +kernel) zs78 (as := [.ref 7, .int l1, .ref 43, .int (Int32.ofInt (-1))]) (rest := []) rfl rfl (zsh_at hF rfl).1 (by omega) (Nat.le_of_ble_eq_true rfl) rfl rfl rfl (by omega) k
theorem b92_65 {x : zXs} {F : zF} (hF : zSh F) {d : Nat} {V : Nat → Nat → Int32} {T : Nat → Nat → Int64} {Q : Option Value → zG → Prop} {l1 : Int32} {o2 : Option Value} {o3 : Option Value} {o4 : Option Value} {o5 : Option Value} {o6 : Option Value} {o7 : Option Value} {s0 : Int32}   (k : E x F d 13 0 [some (.ref 7), some (.int l1)] [] (V, T) (fun r G' => E x F (d + 1) 92 74 [some (.ref 0), some (.int l1), o2, o3, o4, o5, o6, o7] (r.toList ++ []) G' Q)) : E x F (d + 1) 92 65 [some (.ref 0), some (.int l1), o2, o3, o4, o5, o6, o7] [.int s0] (V, T) Q := by
  refine e_pop zd92_65 rfl ?_
  refine e_aload_n zd92_66 rfl rfl ?_
  refine e_getO zd92_67 (own := 7) (ci := 7) (kf := 1) (w := 298) (by decide +kernel) (by decide +kernel) (zsh_at hF rfl).1 (by decide +kernel) rfl (zrf_at hF (i := 1) rfl) ?_
  refine e_iload_n zd92_70 rfl ?_
  exact e_callV zd92_71 (own := 7) (nest := false) (w := 335) (by decide +kernel) (by decide +kernel) zs13 (as := [.int l1]) (rest := []) rfl rfl (zsh_at hF rfl).1 (by omega) (Nat.le_of_ble_eq_true rfl) rfl rfl rfl (by omega) k
theorem b92_74 {x : zXs} {F : zF} (hF : zSh F) {d : Nat} {V : Nat → Nat → Int32} {T : Nat → Nat → Int64} {Q : Option Value → zG → Prop} {o0 : Option Value} {o1 : Option Value} {o2 : Option Value} {o3 : Option Value} {o4 : Option Value} {o5 : Option Value} {l6 : Int32} {o7 : Option Value} {s0 : Int32}   (kt : l6 = 0 → E x F d 92 88 [o0, o1, o2, o3, o4, o5, some (.int l6), some (.int s0)] [] (V, T) Q) (kf : ¬ (l6 = 0) → E x F d 92 81 [o0, o1, o2, o3, o4, o5, some (.int l6), some (.int s0)] [] (V, T) Q) : E x F d 92 74 [o0, o1, o2, o3, o4, o5, some (.int l6), o7] [.int s0] (V, T) Q := by
  refine e_istore zd92_74 (by decide +kernel) (Nat.le_of_ble_eq_true rfl) ?_
  refine e_iload zd92_76 rfl ?_
  exact e_if_eq zd92_78 (tg := 88) rfl kt kf
theorem b92_81 {x : zXs} {F : zF} (hF : zSh F) {d : Nat} {V : Nat → Nat → Int32} {T : Nat → Nat → Int64} {Q : Option Value → zG → Prop} {o0 : Option Value} {o1 : Option Value} {o2 : Option Value} {o3 : Option Value} {l4 : Int32} {o5 : Option Value} {o6 : Option Value} {l7 : Int32}   (kt : l4 ≤ l7 → E x F d 92 100 [o0, o1, o2, o3, some (.int l4), o5, o6, some (.int l7)] [] (V, T) Q) (kf : ¬ (l4 ≤ l7) → E x F d 92 88 [o0, o1, o2, o3, some (.int l4), o5, o6, some (.int l7)] [] (V, T) Q) : E x F d 92 81 [o0, o1, o2, o3, some (.int l4), o5, o6, some (.int l7)] [] (V, T) Q := by
  refine e_iload zd92_81 rfl ?_
  refine e_iload zd92_83 rfl ?_
  exact e_icmp_ge zd92_85 (tg := 100) rfl kt kf
theorem b92_88 {x : zXs} {F : zF} (hF : zSh F) {d : Nat} {V : Nat → Nat → Int32} {T : Nat → Nat → Int64} {Q : Option Value → zG → Prop} {o1 : Option Value} {o2 : Option Value} {o3 : Option Value} {o4 : Option Value} {o5 : Option Value} {o6 : Option Value} {l7 : Int32}   (k : E x F d 88 0 [some (.ref 43), none, none] [] (V, T) (fun r G' => E x F (d + 1) 92 99 [some (.ref 0), o1, o2, o3, some (.int l7), o5, o6, some (.int l7)] (r.toList ++ []) G' Q)) : E x F (d + 1) 92 88 [some (.ref 0), o1, o2, o3, o4, o5, o6, some (.int l7)] [] (V, T) Q := by
  refine e_iload zd92_88 rfl ?_
  refine e_istore zd92_90 (by decide +kernel) (Nat.le_of_ble_eq_true rfl) ?_
  refine e_aload_n zd92_92 rfl rfl ?_
  refine e_getO zd92_93 (own := 7) (ci := 7) (kf := 5) (w := 302) (by decide +kernel) (by decide +kernel) (zsh_at hF rfl).1 (by decide +kernel) rfl (zrf_at hF (i := 5) rfl) ?_
  exact e_callV zd92_96 (own := 7) (nest := false) (w := 687) (by decide +kernel) (by decide +kernel) zs88 (as := []) (rest := []) rfl rfl (zsh_at hF rfl).1 (by omega) (Nat.le_of_ble_eq_true rfl) rfl rfl rfl (by omega) k
theorem b92_99 {x : zXs} {F : zF} (hF : zSh F) {d : Nat} {V : Nat → Nat → Int32} {T : Nat → Nat → Int64} {Q : Option Value → zG → Prop} {o0 : Option Value} {o1 : Option Value} {o2 : Option Value} {o3 : Option Value} {o4 : Option Value} {o5 : Option Value} {o6 : Option Value} {o7 : Option Value} {s0 : Int32}   (k : E x F d 92 100 [o0, o1, o2, some (.int s0), o4, o5, o6, o7] [] (V, T) Q) : E x F d 92 99 [o0, o1, o2, o3, o4, o5, o6, o7] [.int s0] (V, T) Q := by
  refine e_istore_n zd92_99 (by decide +kernel) (Nat.le_of_ble_eq_true rfl) ?_
  exact k
theorem b92_100 {x : zXs} {F : zF} (hF : zSh F) {d : Nat} {V : Nat → Nat → Int32} {T : Nat → Nat → Int64} {Q : Option Value → zG → Prop} {o1 : Option Value} {o2 : Option Value} {o3 : Option Value} {o4 : Option Value} {o5 : Option Value} {o6 : Option Value} {o7 : Option Value}   (k : E x F d 89 0 [some (.ref 43), none, none, none, none] [] (V, T) (fun r G' => E x F (d + 1) 92 107 [some (.ref 0), o1, o2, o3, o4, o5, o6, o7] (r.toList ++ []) G' Q)) : E x F (d + 1) 92 100 [some (.ref 0), o1, o2, o3, o4, o5, o6, o7] [] (V, T) Q := by
  refine e_aload_n zd92_100 rfl rfl ?_
  refine e_getO zd92_101 (own := 7) (ci := 7) (kf := 5) (w := 302) (by decide +kernel) (by decide +kernel) (zsh_at hF rfl).1 (by decide +kernel) rfl (zrf_at hF (i := 5) rfl) ?_
  exact e_callV zd92_104 (own := 7) (nest := false) (w := 691) (by decide +kernel) (by decide +kernel) zs89 (as := []) (rest := []) rfl rfl (zsh_at hF rfl).1 (by omega) (Nat.le_of_ble_eq_true rfl) rfl rfl rfl (by omega) k
theorem b92_107 {x : zXs} {F : zF} (hF : zSh F) {d : Nat} {V : Nat → Nat → Int32} {T : Nat → Nat → Int64} {Q : Option Value → zG → Prop} {o0 : Option Value} {o1 : Option Value} {o2 : Option Value} {o3 : Option Value} {o4 : Option Value} {o5 : Option Value} {l6 : Int32} {o7 : Option Value} {s0 : Int32}   (k : E x F d 92 25 [o0, o1, o2, o3, o4, some (.int s0), some (.int (l6 + Int32.ofInt 1)), o7] [] (V, T) Q) : E x F d 92 107 [o0, o1, o2, o3, o4, o5, some (.int l6), o7] [.int s0] (V, T) Q := by
  refine e_istore zd92_107 (by decide +kernel) (Nat.le_of_ble_eq_true rfl) ?_
  refine e_iinc zd92_109 rfl (by decide +kernel) ?_
  exact e_goto zd92_112 (tg := 25) rfl k
theorem b92_115 {x : zXs} {F : zF} (hF : zSh F) {d : Nat} {V : Nat → Nat → Int32} {T : Nat → Nat → Int64} {Q : Option Value → zG → Prop} {o0 : Option Value} {o1 : Option Value} {l2 : Int32} {o3 : Option Value} {o4 : Option Value} {o5 : Option Value} {o6 : Option Value} {o7 : Option Value}   (kt : l2 = 0 → E x F d 92 123 [o0, o1, some (.int l2), o3, o4, o5, o6, o7] [] (V, T) Q) (kf : ¬ (l2 = 0) → E x F d 92 119 [o0, o1, some (.int l2), o3, o4, o5, o6, o7] [] (V, T) Q) : E x F d 92 115 [o0, o1, some (.int l2), o3, o4, o5, o6, o7] [] (V, T) Q := by
  refine e_iload_n zd92_115 rfl ?_
  exact e_if_eq zd92_116 (tg := 123) rfl kt kf
theorem b92_119 {x : zXs} {F : zF} (hF : zSh F) {d : Nat} {V : Nat → Nat → Int32} {T : Nat → Nat → Int64} {Q : Option Value → zG → Prop} {o0 : Option Value} {o1 : Option Value} {o2 : Option Value} {l3 : Int32} {o4 : Option Value} {o5 : Option Value} {o6 : Option Value} {o7 : Option Value}   (k : E x F d 92 125 [o0, o1, o2, some (.int l3), o4, o5, o6, o7] [.int l3] (V, T) Q) : E x F d 92 119 [o0, o1, o2, some (.int l3), o4, o5, o6, o7] [] (V, T) Q := by
  refine e_iload_n zd92_119 rfl ?_
  exact e_goto zd92_120 (tg := 125) rfl k
theorem b92_123 {x : zXs} {F : zF} (hF : zSh F) {d : Nat} {V : Nat → Nat → Int32} {T : Nat → Nat → Int64} {Q : Option Value → zG → Prop} {o0 : Option Value} {o1 : Option Value} {o2 : Option Value} {o3 : Option Value} {l4 : Int32} {o5 : Option Value} {o6 : Option Value} {o7 : Option Value}   (k : E x F d 92 125 [o0, o1, o2, o3, some (.int l4), o5, o6, o7] [.int l4] (V, T) Q) : E x F d 92 123 [o0, o1, o2, o3, some (.int l4), o5, o6, o7] [] (V, T) Q := by
  refine e_iload zd92_123 rfl ?_
  exact k
theorem b92_125 {x : zXs} {F : zF} (hF : zSh F) {d : Nat} {V : Nat → Nat → Int32} {T : Nat → Nat → Int64} {Q : Option Value → zG → Prop} {o0 : Option Value} {o1 : Option Value} {o2 : Option Value} {o3 : Option Value} {o4 : Option Value} {o5 : Option Value} {o6 : Option Value} {o7 : Option Value} {s0 : Int32}   (k : Q (some (.int s0)) (V, T)) : E x F d 92 125 [o0, o1, o2, o3, o4, o5, o6, o7] [.int s0] (V, T) Q := by
  exact e_ireti zd92_125 zs92 k
theorem zd93_0 : zop 93 0 = some (.iconst (-1), 1) := by decide +kernel
theorem zd93_1 : zop 93 1 = some (.istore_n 3, 1) := by decide +kernel
theorem zd93_2 : zop 93 2 = some (.iconst (-1), 1) := by decide +kernel
theorem zd93_3 : zop 93 3 = some (.istore 4, 2) := by decide +kernel
theorem zd93_5 : zop 93 5 = some (.iconst 0, 1) := by decide +kernel
theorem zd93_6 : zop 93 6 = some (.istore 5, 2) := by decide +kernel
theorem zd93_8 : zop 93 8 = some (.iload 5, 2) := by decide +kernel
theorem zd93_10 : zop 93 10 = some (.aload_n 0, 1) := by decide +kernel
theorem zd93_11 : zop 93 11 = some (.getfield 10, 3) := by decide +kernel
theorem zd93_14 : zop 93 14 = some (.getfield 160, 3) := by decide +kernel
theorem zd93_17 : zop 93 17 = some (.if_icmp .ge 55, 3) := by decide +kernel
theorem zd93_20 : zop 93 20 = some (.aload_n 0, 1) := by decide +kernel
theorem zd93_21 : zop 93 21 = some (.getfield 16, 3) := by decide +kernel
theorem zd93_24 : zop 93 24 = some (.aload_n 0, 1) := by decide +kernel
theorem zd93_25 : zop 93 25 = some (.getfield 10, 3) := by decide +kernel
theorem zd93_28 : zop 93 28 = some (.invokevirtual 178, 3) := by decide +kernel
theorem zd93_31 : zop 93 31 = some (.aload_n 0, 1) := by decide +kernel
theorem zd93_32 : zop 93 32 = some (.getfield 25, 3) := by decide +kernel
theorem zd93_35 : zop 93 35 = some (.aload_n 0, 1) := by decide +kernel
theorem zd93_36 : zop 93 36 = some (.getfield 16, 3) := by decide +kernel
theorem zd93_39 : zop 93 39 = some (.iload 5, 2) := by decide +kernel
theorem zd93_41 : zop 93 41 = some (.iload_n 1, 1) := by decide +kernel
theorem zd93_42 : zop 93 42 = some (.invokevirtual 156, 3) := by decide +kernel
theorem zd93_45 : zop 93 45 = some (.istore 6, 2) := by decide +kernel
theorem zd93_47 : zop 93 47 = some (.iload_n 3, 1) := by decide +kernel
theorem zd93_48 : zop 93 48 = some (.iconst (-1), 1) := by decide +kernel
theorem zd93_49 : zop 93 49 = some (.if_icmp .eq 10, 3) := by decide +kernel
theorem zd93_52 : zop 93 52 = some (.iload 6, 2) := by decide +kernel
theorem zd93_54 : zop 93 54 = some (.iload 4, 2) := by decide +kernel
theorem zd93_56 : zop 93 56 = some (.if_icmp .le 10, 3) := by decide +kernel
theorem zd93_59 : zop 93 59 = some (.iload 5, 2) := by decide +kernel
theorem zd93_61 : zop 93 61 = some (.istore_n 3, 1) := by decide +kernel
theorem zd93_62 : zop 93 62 = some (.iload 6, 2) := by decide +kernel
theorem zd93_64 : zop 93 64 = some (.istore 4, 2) := by decide +kernel
theorem zd93_66 : zop 93 66 = some (.iinc 5 1, 3) := by decide +kernel
theorem zd93_69 : zop 93 69 = some (.goto (-61), 3) := by decide +kernel
theorem zd93_72 : zop 93 72 = some (.iload_n 2, 1) := by decide +kernel
theorem zd93_73 : zop 93 73 = some (.ifCond .eq 7, 3) := by decide +kernel
theorem zd93_76 : zop 93 76 = some (.iload_n 3, 1) := by decide +kernel
theorem zd93_77 : zop 93 77 = some (.goto 5, 3) := by decide +kernel
theorem zd93_80 : zop 93 80 = some (.iload 4, 2) := by decide +kernel
theorem zd93_82 : zop 93 82 = some (.ireturn, 1) := by decide +kernel
theorem b93_0 {x : zXs} {F : zF} (hF : zSh F) {d : Nat} {V : Nat → Nat → Int32} {T : Nat → Nat → Int64} {Q : Option Value → zG → Prop} {o0 : Option Value} {o1 : Option Value} {o2 : Option Value} {o3 : Option Value} {o4 : Option Value} {o5 : Option Value} {o6 : Option Value}   (k : E x F d 93 8 [o0, o1, o2, some (.int (Int32.ofInt (-1))), some (.int (Int32.ofInt (-1))), some (.int (Int32.ofInt 0)), o6] [] (V, T) Q) : E x F d 93 0 [o0, o1, o2, o3, o4, o5, o6] [] (V, T) Q := by
  refine e_iconst zd93_0 ?_
  refine e_istore_n zd93_1 (by decide +kernel) (Nat.le_of_ble_eq_true rfl) ?_
  refine e_iconst zd93_2 ?_
  refine e_istore zd93_3 (by decide +kernel) (Nat.le_of_ble_eq_true rfl) ?_
  refine e_iconst zd93_5 ?_
  refine e_istore zd93_6 (by decide +kernel) (Nat.le_of_ble_eq_true rfl) ?_
  exact k
theorem b93_8 {x : zXs} {F : zF} (hF : zSh F) {d : Nat} {V : Nat → Nat → Int32} {T : Nat → Nat → Int64} {Q : Option Value → zG → Prop} {o1 : Option Value} {o2 : Option Value} {o3 : Option Value} {o4 : Option Value} {l5 : Int32} {o6 : Option Value}   (kt : (V 1 5) ≤ l5 → E x F d 93 72 [some (.ref 0), o1, o2, o3, o4, some (.int l5), o6] [] (V, T) Q) (kf : ¬ ((V 1 5) ≤ l5) → E x F d 93 20 [some (.ref 0), o1, o2, o3, o4, some (.int l5), o6] [] (V, T) Q) : E x F d 93 8 [some (.ref 0), o1, o2, o3, o4, some (.int l5), o6] [] (V, T) Q := by
  refine e_iload zd93_8 rfl ?_
  refine e_aload_n zd93_10 rfl rfl ?_
  refine e_getO zd93_11 (own := 7) (ci := 7) (kf := 0) (w := 297) (by decide +kernel) (by decide +kernel) (zsh_at hF rfl).1 (by decide +kernel) rfl (zrf_at hF (i := 0) rfl) ?_
  refine e_getI zd93_14 (own := 7) (ci := 4) (kf := 5) (w := 129) (by decide +kernel) (by decide +kernel) (zsh_at hF rfl).1 (by decide +kernel) rfl ?_
  exact e_icmp_ge zd93_17 (tg := 72) rfl kt kf
theorem b93_20 {x : zXs} {F : zF} (hF : zSh F) {d : Nat} {V : Nat → Nat → Int32} {T : Nat → Nat → Int64} {Q : Option Value → zG → Prop} {o1 : Option Value} {o2 : Option Value} {o3 : Option Value} {o4 : Option Value} {o5 : Option Value} {o6 : Option Value}   (k : E x F d 83 0 [some (.ref 7), some (.ref 1)] [] (V, T) (fun r G' => E x F (d + 1) 93 31 [some (.ref 0), o1, o2, o3, o4, o5, o6] (r.toList ++ []) G' Q)) : E x F (d + 1) 93 20 [some (.ref 0), o1, o2, o3, o4, o5, o6] [] (V, T) Q := by
  refine e_aload_n zd93_20 rfl rfl ?_
  refine e_getO zd93_21 (own := 7) (ci := 7) (kf := 1) (w := 298) (by decide +kernel) (by decide +kernel) (zsh_at hF rfl).1 (by decide +kernel) rfl (zrf_at hF (i := 1) rfl) ?_
  refine e_aload_n zd93_24 rfl rfl ?_
  refine e_getO zd93_25 (own := 7) (ci := 7) (kf := 0) (w := 297) (by decide +kernel) (by decide +kernel) (zsh_at hF rfl).1 (by decide +kernel) rfl (zrf_at hF (i := 0) rfl) ?_
  exact e_callV zd93_28 (own := 7) (nest := false) (w := 666) (by decide +kernel) (by decide +kernel) zs83 (as := [.ref 1]) (rest := []) rfl rfl (zsh_at hF rfl).1 (by omega) (Nat.le_of_ble_eq_true rfl) rfl rfl rfl (by omega) k
theorem b93_31 {x : zXs} {F : zF} (hF : zSh F) {d : Nat} {V : Nat → Nat → Int32} {T : Nat → Nat → Int64} {Q : Option Value → zG → Prop} {l1 : Int32} {o2 : Option Value} {o3 : Option Value} {o4 : Option Value} {l5 : Int32} {o6 : Option Value}   (k : E x F d 74 0 [some (.ref 19), some (.ref 7), some (.int l5), some (.int l1), none, none, none, none, none, none, none, none, none, none] [] (V, T) (fun r G' => E x F (d + 1) 93 45 [some (.ref 0), some (.int l1), o2, o3, o4, some (.int l5), o6] (r.toList ++ []) G' Q)) : E x F (d + 1) 93 31 [some (.ref 0), some (.int l1), o2, o3, o4, some (.int l5), o6] [] (V, T) Q := by
  refine e_aload_n zd93_31 rfl rfl ?_
  refine e_getO zd93_32 (own := 7) (ci := 7) (kf := 3) (w := 300) (by decide +kernel) (by decide +kernel) (zsh_at hF rfl).1 (by decide +kernel) rfl (zrf_at hF (i := 3) rfl) ?_
  refine e_aload_n zd93_35 rfl rfl ?_
  refine e_getO zd93_36 (own := 7) (ci := 7) (kf := 1) (w := 298) (by decide +kernel) (by decide +kernel) (zsh_at hF rfl).1 (by decide +kernel) rfl (zrf_at hF (i := 1) rfl) ?_
  refine e_iload zd93_39 rfl ?_
  refine e_iload_n zd93_41 rfl ?_
  exact e_callV zd93_42 (own := 7) (nest := false) (w := 618) (by decide +kernel) (by decide +kernel) zs74 (as := [.ref 7, .int l5, .int l1]) (rest := []) rfl rfl (zsh_at hF rfl).1 (by omega) (Nat.le_of_ble_eq_true rfl) rfl rfl rfl (by omega) k
theorem b93_45 {x : zXs} {F : zF} (hF : zSh F) {d : Nat} {V : Nat → Nat → Int32} {T : Nat → Nat → Int64} {Q : Option Value → zG → Prop} {o0 : Option Value} {o1 : Option Value} {o2 : Option Value} {l3 : Int32} {o4 : Option Value} {o5 : Option Value} {o6 : Option Value} {s0 : Int32}   (kt : l3 = (Int32.ofInt (-1)) → E x F d 93 59 [o0, o1, o2, some (.int l3), o4, o5, some (.int s0)] [] (V, T) Q) (kf : ¬ (l3 = (Int32.ofInt (-1))) → E x F d 93 52 [o0, o1, o2, some (.int l3), o4, o5, some (.int s0)] [] (V, T) Q) : E x F d 93 45 [o0, o1, o2, some (.int l3), o4, o5, o6] [.int s0] (V, T) Q := by
  refine e_istore zd93_45 (by decide +kernel) (Nat.le_of_ble_eq_true rfl) ?_
  refine e_iload_n zd93_47 rfl ?_
  refine e_iconst zd93_48 ?_
  exact e_icmp_eq zd93_49 (tg := 59) rfl kt kf
theorem b93_52 {x : zXs} {F : zF} (hF : zSh F) {d : Nat} {V : Nat → Nat → Int32} {T : Nat → Nat → Int64} {Q : Option Value → zG → Prop} {o0 : Option Value} {o1 : Option Value} {o2 : Option Value} {o3 : Option Value} {l4 : Int32} {o5 : Option Value} {l6 : Int32}   (kt : l6 ≤ l4 → E x F d 93 66 [o0, o1, o2, o3, some (.int l4), o5, some (.int l6)] [] (V, T) Q) (kf : ¬ (l6 ≤ l4) → E x F d 93 59 [o0, o1, o2, o3, some (.int l4), o5, some (.int l6)] [] (V, T) Q) : E x F d 93 52 [o0, o1, o2, o3, some (.int l4), o5, some (.int l6)] [] (V, T) Q := by
  refine e_iload zd93_52 rfl ?_
  refine e_iload zd93_54 rfl ?_
  exact e_icmp_le zd93_56 (tg := 66) rfl kt kf
theorem b93_59 {x : zXs} {F : zF} (hF : zSh F) {d : Nat} {V : Nat → Nat → Int32} {T : Nat → Nat → Int64} {Q : Option Value → zG → Prop} {o0 : Option Value} {o1 : Option Value} {o2 : Option Value} {o3 : Option Value} {o4 : Option Value} {l5 : Int32} {l6 : Int32}   (k : E x F d 93 66 [o0, o1, o2, some (.int l5), some (.int l6), some (.int l5), some (.int l6)] [] (V, T) Q) : E x F d 93 59 [o0, o1, o2, o3, o4, some (.int l5), some (.int l6)] [] (V, T) Q := by
  refine e_iload zd93_59 rfl ?_
  refine e_istore_n zd93_61 (by decide +kernel) (Nat.le_of_ble_eq_true rfl) ?_
  refine e_iload zd93_62 rfl ?_
  refine e_istore zd93_64 (by decide +kernel) (Nat.le_of_ble_eq_true rfl) ?_
  exact k
theorem b93_66 {x : zXs} {F : zF} (hF : zSh F) {d : Nat} {V : Nat → Nat → Int32} {T : Nat → Nat → Int64} {Q : Option Value → zG → Prop} {o0 : Option Value} {o1 : Option Value} {o2 : Option Value} {o3 : Option Value} {o4 : Option Value} {l5 : Int32} {o6 : Option Value}   (k : E x F d 93 8 [o0, o1, o2, o3, o4, some (.int (l5 + Int32.ofInt 1)), o6] [] (V, T) Q) : E x F d 93 66 [o0, o1, o2, o3, o4, some (.int l5), o6] [] (V, T) Q := by
  refine e_iinc zd93_66 rfl (by decide +kernel) ?_
  exact e_goto zd93_69 (tg := 8) rfl k
theorem b93_72 {x : zXs} {F : zF} (hF : zSh F) {d : Nat} {V : Nat → Nat → Int32} {T : Nat → Nat → Int64} {Q : Option Value → zG → Prop} {o0 : Option Value} {o1 : Option Value} {l2 : Int32} {o3 : Option Value} {o4 : Option Value} {o5 : Option Value} {o6 : Option Value}   (kt : l2 = 0 → E x F d 93 80 [o0, o1, some (.int l2), o3, o4, o5, o6] [] (V, T) Q) (kf : ¬ (l2 = 0) → E x F d 93 76 [o0, o1, some (.int l2), o3, o4, o5, o6] [] (V, T) Q) : E x F d 93 72 [o0, o1, some (.int l2), o3, o4, o5, o6] [] (V, T) Q := by
  refine e_iload_n zd93_72 rfl ?_
  exact e_if_eq zd93_73 (tg := 80) rfl kt kf
theorem b93_76 {x : zXs} {F : zF} (hF : zSh F) {d : Nat} {V : Nat → Nat → Int32} {T : Nat → Nat → Int64} {Q : Option Value → zG → Prop} {o0 : Option Value} {o1 : Option Value} {o2 : Option Value} {l3 : Int32} {o4 : Option Value} {o5 : Option Value} {o6 : Option Value}   (k : E x F d 93 82 [o0, o1, o2, some (.int l3), o4, o5, o6] [.int l3] (V, T) Q) : E x F d 93 76 [o0, o1, o2, some (.int l3), o4, o5, o6] [] (V, T) Q := by
  refine e_iload_n zd93_76 rfl ?_
  exact e_goto zd93_77 (tg := 82) rfl k
theorem b93_80 {x : zXs} {F : zF} (hF : zSh F) {d : Nat} {V : Nat → Nat → Int32} {T : Nat → Nat → Int64} {Q : Option Value → zG → Prop} {o0 : Option Value} {o1 : Option Value} {o2 : Option Value} {o3 : Option Value} {l4 : Int32} {o5 : Option Value} {o6 : Option Value}   (k : E x F d 93 82 [o0, o1, o2, o3, some (.int l4), o5, o6] [.int l4] (V, T) Q) : E x F d 93 80 [o0, o1, o2, o3, some (.int l4), o5, o6] [] (V, T) Q := by
  refine e_iload zd93_80 rfl ?_
  exact k
theorem b93_82 {x : zXs} {F : zF} (hF : zSh F) {d : Nat} {V : Nat → Nat → Int32} {T : Nat → Nat → Int64} {Q : Option Value → zG → Prop} {o0 : Option Value} {o1 : Option Value} {o2 : Option Value} {o3 : Option Value} {o4 : Option Value} {o5 : Option Value} {o6 : Option Value} {s0 : Int32}   (k : Q (some (.int s0)) (V, T)) : E x F d 93 82 [o0, o1, o2, o3, o4, o5, o6] [.int s0] (V, T) Q := by
  exact e_ireti zd93_82 zs93 k
theorem zd94_0 : zop 94 0 = some (.aload_n 0, 1) := by decide +kernel
theorem zd94_1 : zop 94 1 = some (.getfield 16, 3) := by decide +kernel
theorem zd94_4 : zop 94 4 = some (.aload_n 0, 1) := by decide +kernel
theorem zd94_5 : zop 94 5 = some (.getfield 10, 3) := by decide +kernel
theorem zd94_8 : zop 94 8 = some (.invokevirtual 178, 3) := by decide +kernel
theorem zd94_11 : zop 94 11 = some (.iconst 0, 1) := by decide +kernel
theorem zd94_12 : zop 94 12 = some (.istore_n 2, 1) := by decide +kernel
theorem zd94_13 : zop 94 13 = some (.iload_n 2, 1) := by decide +kernel
theorem zd94_14 : zop 94 14 = some (.bipush 20, 2) := by decide +kernel
theorem zd94_16 : zop 94 16 = some (.if_icmp .ge 27, 3) := by decide +kernel
theorem zd94_19 : zop 94 19 = some (.aload_n 0, 1) := by decide +kernel
theorem zd94_20 : zop 94 20 = some (.getfield 16, 3) := by decide +kernel
theorem zd94_23 : zop 94 23 = some (.iload_n 1, 1) := by decide +kernel
theorem zd94_24 : zop 94 24 = some (.invokevirtual 70, 3) := by decide +kernel
theorem zd94_27 : zop 94 27 = some (.ifCond .ne 5, 3) := by decide +kernel
theorem zd94_30 : zop 94 30 = some (.iload_n 2, 1) := by decide +kernel
theorem zd94_31 : zop 94 31 = some (.ireturn, 1) := by decide +kernel
theorem zd94_32 : zop 94 32 = some (.aload_n 0, 1) := by decide +kernel
theorem zd94_33 : zop 94 33 = some (.iload_n 1, 1) := by decide +kernel
theorem zd94_34 : zop 94 34 = some (.invokevirtual 180, 3) := by decide +kernel
theorem zd94_37 : zop 94 37 = some (.iinc 2 1, 3) := by decide +kernel
theorem zd94_40 : zop 94 40 = some (.goto (-27), 3) := by decide +kernel
theorem zd94_43 : zop 94 43 = some (.aload_n 0, 1) := by decide +kernel
theorem zd94_44 : zop 94 44 = some (.getfield 16, 3) := by decide +kernel
theorem zd94_47 : zop 94 47 = some (.iload_n 1, 1) := by decide +kernel
theorem zd94_48 : zop 94 48 = some (.invokevirtual 70, 3) := by decide +kernel
theorem zd94_51 : zop 94 51 = some (.ifCond .ne 8, 3) := by decide +kernel
theorem zd94_54 : zop 94 54 = some (.bipush 20, 2) := by decide +kernel
theorem zd94_56 : zop 94 56 = some (.goto 4, 3) := by decide +kernel
theorem zd94_59 : zop 94 59 = some (.iconst (-1), 1) := by decide +kernel
theorem zd94_60 : zop 94 60 = some (.ireturn, 1) := by decide +kernel
theorem b94_0 {x : zXs} {F : zF} (hF : zSh F) {d : Nat} {V : Nat → Nat → Int32} {T : Nat → Nat → Int64} {Q : Option Value → zG → Prop} {o1 : Option Value} {o2 : Option Value}   (k : E x F d 83 0 [some (.ref 7), some (.ref 1)] [] (V, T) (fun r G' => E x F (d + 1) 94 11 [some (.ref 0), o1, o2] (r.toList ++ []) G' Q)) : E x F (d + 1) 94 0 [some (.ref 0), o1, o2] [] (V, T) Q := by
  refine e_aload_n zd94_0 rfl rfl ?_
  refine e_getO zd94_1 (own := 7) (ci := 7) (kf := 1) (w := 298) (by decide +kernel) (by decide +kernel) (zsh_at hF rfl).1 (by decide +kernel) rfl (zrf_at hF (i := 1) rfl) ?_
  refine e_aload_n zd94_4 rfl rfl ?_
  refine e_getO zd94_5 (own := 7) (ci := 7) (kf := 0) (w := 297) (by decide +kernel) (by decide +kernel) (zsh_at hF rfl).1 (by decide +kernel) rfl (zrf_at hF (i := 0) rfl) ?_
  exact e_callV zd94_8 (own := 7) (nest := false) (w := 666) (by decide +kernel) (by decide +kernel) zs83 (as := [.ref 1]) (rest := []) rfl rfl (zsh_at hF rfl).1 (by omega) (Nat.le_of_ble_eq_true rfl) rfl rfl rfl (by omega) k
theorem b94_11 {x : zXs} {F : zF} (hF : zSh F) {d : Nat} {V : Nat → Nat → Int32} {T : Nat → Nat → Int64} {Q : Option Value → zG → Prop} {o0 : Option Value} {o1 : Option Value} {o2 : Option Value}   (k : E x F d 94 13 [o0, o1, some (.int (Int32.ofInt 0))] [] (V, T) Q) : E x F d 94 11 [o0, o1, o2] [] (V, T) Q := by
  refine e_iconst zd94_11 ?_
  refine e_istore_n zd94_12 (by decide +kernel) (Nat.le_of_ble_eq_true rfl) ?_
  exact k
theorem b94_13 {x : zXs} {F : zF} (hF : zSh F) {d : Nat} {V : Nat → Nat → Int32} {T : Nat → Nat → Int64} {Q : Option Value → zG → Prop} {o0 : Option Value} {o1 : Option Value} {l2 : Int32}   (kt : (Int32.ofInt 20) ≤ l2 → E x F d 94 43 [o0, o1, some (.int l2)] [] (V, T) Q) (kf : ¬ ((Int32.ofInt 20) ≤ l2) → E x F d 94 19 [o0, o1, some (.int l2)] [] (V, T) Q) : E x F d 94 13 [o0, o1, some (.int l2)] [] (V, T) Q := by
  refine e_iload_n zd94_13 rfl ?_
  refine e_bipush zd94_14 (v := Int32.ofInt 20) (by decide +kernel) ?_
  exact e_icmp_ge zd94_16 (tg := 43) rfl kt kf
theorem b94_19 {x : zXs} {F : zF} (hF : zSh F) {d : Nat} {V : Nat → Nat → Int32} {T : Nat → Nat → Int64} {Q : Option Value → zG → Prop} {l1 : Int32} {o2 : Option Value}   (k : E x F d 13 0 [some (.ref 7), some (.int l1)] [] (V, T) (fun r G' => E x F (d + 1) 94 27 [some (.ref 0), some (.int l1), o2] (r.toList ++ []) G' Q)) : E x F (d + 1) 94 19 [some (.ref 0), some (.int l1), o2] [] (V, T) Q := by
  refine e_aload_n zd94_19 rfl rfl ?_
  refine e_getO zd94_20 (own := 7) (ci := 7) (kf := 1) (w := 298) (by decide +kernel) (by decide +kernel) (zsh_at hF rfl).1 (by decide +kernel) rfl (zrf_at hF (i := 1) rfl) ?_
  refine e_iload_n zd94_23 rfl ?_
  exact e_callV zd94_24 (own := 7) (nest := false) (w := 335) (by decide +kernel) (by decide +kernel) zs13 (as := [.int l1]) (rest := []) rfl rfl (zsh_at hF rfl).1 (by omega) (Nat.le_of_ble_eq_true rfl) rfl rfl rfl (by omega) k
theorem b94_27 {x : zXs} {F : zF} (hF : zSh F) {d : Nat} {V : Nat → Nat → Int32} {T : Nat → Nat → Int64} {Q : Option Value → zG → Prop} {o0 : Option Value} {o1 : Option Value} {o2 : Option Value} {s0 : Int32}   (kt : ¬ s0 = 0 → E x F d 94 32 [o0, o1, o2] [] (V, T) Q) (kf : ¬ (¬ s0 = 0) → E x F d 94 30 [o0, o1, o2] [] (V, T) Q) : E x F d 94 27 [o0, o1, o2] [.int s0] (V, T) Q := by
  exact e_if_ne zd94_27 (tg := 32) rfl kt kf
theorem b94_30 {x : zXs} {F : zF} (hF : zSh F) {d : Nat} {V : Nat → Nat → Int32} {T : Nat → Nat → Int64} {Q : Option Value → zG → Prop} {o0 : Option Value} {o1 : Option Value} {l2 : Int32}   (k : Q (some (.int l2)) (V, T)) : E x F d 94 30 [o0, o1, some (.int l2)] [] (V, T) Q := by
  refine e_iload_n zd94_30 rfl ?_
  exact e_ireti zd94_31 zs94 k
theorem b94_32 {x : zXs} {F : zF} (hF : zSh F) {d : Nat} {V : Nat → Nat → Int32} {T : Nat → Nat → Int64} {Q : Option Value → zG → Prop} {l1 : Int32} {o2 : Option Value}   (k : E x F d 85 0 [some (.ref 0), some (.int l1)] [] (V, T) (fun r G' => E x F (d + 1) 94 37 [some (.ref 0), some (.int l1), o2] (r.toList ++ []) G' Q)) : E x F (d + 1) 94 32 [some (.ref 0), some (.int l1), o2] [] (V, T) Q := by
  refine e_aload_n zd94_32 rfl rfl ?_
  refine e_iload_n zd94_33 rfl ?_
  exact e_callV zd94_34 (own := 7) (nest := false) (w := 675) (by decide +kernel) (by decide +kernel) zs85 (as := [.int l1]) (rest := []) rfl rfl (zsh_at hF rfl).1 (by omega) (Nat.le_of_ble_eq_true rfl) rfl rfl rfl (by omega) k
theorem b94_37 {x : zXs} {F : zF} (hF : zSh F) {d : Nat} {V : Nat → Nat → Int32} {T : Nat → Nat → Int64} {Q : Option Value → zG → Prop} {o0 : Option Value} {o1 : Option Value} {l2 : Int32}   (k : E x F d 94 13 [o0, o1, some (.int (l2 + Int32.ofInt 1))] [] (V, T) Q) : E x F d 94 37 [o0, o1, some (.int l2)] [] (V, T) Q := by
  refine e_iinc zd94_37 rfl (by decide +kernel) ?_
  exact e_goto zd94_40 (tg := 13) rfl k
theorem b94_43 {x : zXs} {F : zF} (hF : zSh F) {d : Nat} {V : Nat → Nat → Int32} {T : Nat → Nat → Int64} {Q : Option Value → zG → Prop} {l1 : Int32} {o2 : Option Value}   (k : E x F d 13 0 [some (.ref 7), some (.int l1)] [] (V, T) (fun r G' => E x F (d + 1) 94 51 [some (.ref 0), some (.int l1), o2] (r.toList ++ []) G' Q)) : E x F (d + 1) 94 43 [some (.ref 0), some (.int l1), o2] [] (V, T) Q := by
  refine e_aload_n zd94_43 rfl rfl ?_
  refine e_getO zd94_44 (own := 7) (ci := 7) (kf := 1) (w := 298) (by decide +kernel) (by decide +kernel) (zsh_at hF rfl).1 (by decide +kernel) rfl (zrf_at hF (i := 1) rfl) ?_
  refine e_iload_n zd94_47 rfl ?_
  exact e_callV zd94_48 (own := 7) (nest := false) (w := 335) (by decide +kernel) (by decide +kernel) zs13 (as := [.int l1]) (rest := []) rfl rfl (zsh_at hF rfl).1 (by omega) (Nat.le_of_ble_eq_true rfl) rfl rfl rfl (by omega) k
theorem b94_51 {x : zXs} {F : zF} (hF : zSh F) {d : Nat} {V : Nat → Nat → Int32} {T : Nat → Nat → Int64} {Q : Option Value → zG → Prop} {o0 : Option Value} {o1 : Option Value} {o2 : Option Value} {s0 : Int32}   (kt : ¬ s0 = 0 → E x F d 94 59 [o0, o1, o2] [] (V, T) Q) (kf : ¬ (¬ s0 = 0) → E x F d 94 54 [o0, o1, o2] [] (V, T) Q) : E x F d 94 51 [o0, o1, o2] [.int s0] (V, T) Q := by
  exact e_if_ne zd94_51 (tg := 59) rfl kt kf
theorem b94_54 {x : zXs} {F : zF} (hF : zSh F) {d : Nat} {V : Nat → Nat → Int32} {T : Nat → Nat → Int64} {Q : Option Value → zG → Prop} {o0 : Option Value} {o1 : Option Value} {o2 : Option Value}   (k : E x F d 94 60 [o0, o1, o2] [.int (Int32.ofInt 20)] (V, T) Q) : E x F d 94 54 [o0, o1, o2] [] (V, T) Q := by
  refine e_bipush zd94_54 (v := Int32.ofInt 20) (by decide +kernel) ?_
  exact e_goto zd94_56 (tg := 60) rfl k
theorem b94_59 {x : zXs} {F : zF} (hF : zSh F) {d : Nat} {V : Nat → Nat → Int32} {T : Nat → Nat → Int64} {Q : Option Value → zG → Prop} {o0 : Option Value} {o1 : Option Value} {o2 : Option Value}   (k : E x F d 94 60 [o0, o1, o2] [.int (Int32.ofInt (-1))] (V, T) Q) : E x F d 94 59 [o0, o1, o2] [] (V, T) Q := by
  refine e_iconst zd94_59 ?_
  exact k
theorem b94_60 {x : zXs} {F : zF} (hF : zSh F) {d : Nat} {V : Nat → Nat → Int32} {T : Nat → Nat → Int64} {Q : Option Value → zG → Prop} {o0 : Option Value} {o1 : Option Value} {o2 : Option Value} {s0 : Int32}   (k : Q (some (.int s0)) (V, T)) : E x F d 94 60 [o0, o1, o2] [.int s0] (V, T) Q := by
  exact e_ireti zd94_60 zs94 k
theorem zd95_0 : zop 95 0 = some (.aload_n 0, 1) := by decide +kernel
theorem zd95_1 : zop 95 1 = some (.getfield 10, 3) := by decide +kernel
theorem zd95_4 : zop 95 4 = some (.iload_n 1, 1) := by decide +kernel
theorem zd95_5 : zop 95 5 = some (.invokevirtual 91, 3) := by decide +kernel
theorem zd95_8 : zop 95 8 = some (.ifCond .eq 12, 3) := by decide +kernel
theorem zd95_11 : zop 95 11 = some (.iload_n 2, 1) := by decide +kernel
theorem zd95_12 : zop 95 12 = some (.iconst 0, 1) := by decide +kernel
theorem zd95_13 : zop 95 13 = some (.iconst 1, 1) := by decide +kernel
theorem zd95_14 : zop 95 14 = some (.invokestatic 59, 3) := by decide +kernel
theorem zd95_17 : zop 95 17 = some (.ifCond .ne 7, 3) := by decide +kernel
theorem zd95_20 : zop 95 20 = some (.sipush (-1000), 3) := by decide +kernel
theorem zd95_23 : zop 95 23 = some (.ireturn, 1) := by decide +kernel
theorem zd95_24 : zop 95 24 = some (.iconst (-1), 1) := by decide +kernel
theorem zd95_25 : zop 95 25 = some (.istore_n 3, 1) := by decide +kernel
theorem zd95_26 : zop 95 26 = some (.iconst 0, 1) := by decide +kernel
theorem zd95_27 : zop 95 27 = some (.istore 4, 2) := by decide +kernel
theorem zd95_29 : zop 95 29 = some (.iconst 0, 1) := by decide +kernel
theorem zd95_30 : zop 95 30 = some (.istore 5, 2) := by decide +kernel
theorem zd95_32 : zop 95 32 = some (.iload 5, 2) := by decide +kernel
theorem zd95_34 : zop 95 34 = some (.iconst 4, 1) := by decide +kernel
theorem zd95_35 : zop 95 35 = some (.if_icmp .ge 55, 3) := by decide +kernel
theorem zd95_38 : zop 95 38 = some (.aload_n 0, 1) := by decide +kernel
theorem zd95_39 : zop 95 39 = some (.getfield 16, 3) := by decide +kernel
theorem zd95_42 : zop 95 42 = some (.aload_n 0, 1) := by decide +kernel
theorem zd95_43 : zop 95 43 = some (.getfield 10, 3) := by decide +kernel
theorem zd95_46 : zop 95 46 = some (.invokevirtual 178, 3) := by decide +kernel
theorem zd95_49 : zop 95 49 = some (.aload_n 0, 1) := by decide +kernel
theorem zd95_50 : zop 95 50 = some (.getfield 25, 3) := by decide +kernel
theorem zd95_53 : zop 95 53 = some (.aload_n 0, 1) := by decide +kernel
theorem zd95_54 : zop 95 54 = some (.getfield 16, 3) := by decide +kernel
theorem zd95_57 : zop 95 57 = some (.iload_n 1, 1) := by decide +kernel
theorem zd95_58 : zop 95 58 = some (.iload 5, 2) := by decide +kernel
theorem zd95_60 : zop 95 60 = some (.invokevirtual 156, 3) := by decide +kernel
theorem zd95_63 : zop 95 63 = some (.istore 6, 2) := by decide +kernel
theorem zd95_65 : zop 95 65 = some (.iload_n 3, 1) := by decide +kernel
theorem zd95_66 : zop 95 66 = some (.iconst (-1), 1) := by decide +kernel
theorem zd95_67 : zop 95 67 = some (.if_icmp .eq 10, 3) := by decide +kernel
theorem zd95_70 : zop 95 70 = some (.iload 6, 2) := by decide +kernel
theorem zd95_72 : zop 95 72 = some (.iload 4, 2) := by decide +kernel
theorem zd95_74 : zop 95 74 = some (.if_icmp .le 10, 3) := by decide +kernel
theorem zd95_77 : zop 95 77 = some (.iload 5, 2) := by decide +kernel
theorem zd95_79 : zop 95 79 = some (.istore_n 3, 1) := by decide +kernel
theorem zd95_80 : zop 95 80 = some (.iload 6, 2) := by decide +kernel
theorem zd95_82 : zop 95 82 = some (.istore 4, 2) := by decide +kernel
theorem zd95_84 : zop 95 84 = some (.iinc 5 1, 3) := by decide +kernel
theorem zd95_87 : zop 95 87 = some (.goto (-55), 3) := by decide +kernel
theorem zd95_90 : zop 95 90 = some (.iload_n 2, 1) := by decide +kernel
theorem zd95_91 : zop 95 91 = some (.ifCond .ne 7, 3) := by decide +kernel
theorem zd95_94 : zop 95 94 = some (.iload_n 3, 1) := by decide +kernel
theorem zd95_95 : zop 95 95 = some (.goto 5, 3) := by decide +kernel
theorem zd95_98 : zop 95 98 = some (.iload 4, 2) := by decide +kernel
theorem zd95_100 : zop 95 100 = some (.ireturn, 1) := by decide +kernel
theorem b95_0 {x : zXs} {F : zF} (hF : zSh F) {d : Nat} {V : Nat → Nat → Int32} {T : Nat → Nat → Int64} {Q : Option Value → zG → Prop} {l1 : Int32} {o2 : Option Value} {o3 : Option Value} {o4 : Option Value} {o5 : Option Value} {o6 : Option Value}   (k : E x F d 19 0 [some (.ref 1), some (.int l1)] [] (V, T) (fun r G' => E x F (d + 1) 95 8 [some (.ref 0), some (.int l1), o2, o3, o4, o5, o6] (r.toList ++ []) G' Q)) : E x F (d + 1) 95 0 [some (.ref 0), some (.int l1), o2, o3, o4, o5, o6] [] (V, T) Q := by
  refine e_aload_n zd95_0 rfl rfl ?_
  refine e_getO zd95_1 (own := 7) (ci := 7) (kf := 0) (w := 297) (by decide +kernel) (by decide +kernel) (zsh_at hF rfl).1 (by decide +kernel) rfl (zrf_at hF (i := 0) rfl) ?_
  refine e_iload_n zd95_4 rfl ?_
  exact e_callV zd95_5 (own := 7) (nest := false) (w := 361) (by decide +kernel) (by decide +kernel) zs19 (as := [.int l1]) (rest := []) rfl rfl (zsh_at hF rfl).1 (by omega) (Nat.le_of_ble_eq_true rfl) rfl rfl rfl (by omega) k
theorem b95_8 {x : zXs} {F : zF} (hF : zSh F) {d : Nat} {V : Nat → Nat → Int32} {T : Nat → Nat → Int64} {Q : Option Value → zG → Prop} {o0 : Option Value} {o1 : Option Value} {o2 : Option Value} {o3 : Option Value} {o4 : Option Value} {o5 : Option Value} {o6 : Option Value} {s0 : Int32}   (kt : s0 = 0 → E x F d 95 20 [o0, o1, o2, o3, o4, o5, o6] [] (V, T) Q) (kf : ¬ (s0 = 0) → E x F d 95 11 [o0, o1, o2, o3, o4, o5, o6] [] (V, T) Q) : E x F d 95 8 [o0, o1, o2, o3, o4, o5, o6] [.int s0] (V, T) Q := by
  exact e_if_eq zd95_8 (tg := 20) rfl kt kf
theorem b95_11 {x : zXs} {F : zF} (hF : zSh F) {d : Nat} {V : Nat → Nat → Int32} {T : Nat → Nat → Int64} {Q : Option Value → zG → Prop} {o0 : Option Value} {o1 : Option Value} {l2 : Int32} {o3 : Option Value} {o4 : Option Value} {o5 : Option Value} {o6 : Option Value}   (k : E x F d 7 0 [some (.int l2), some (.int (Int32.ofInt 0)), some (.int (Int32.ofInt 1))] [] (V, T) (fun r G' => E x F (d + 1) 95 17 [o0, o1, some (.int l2), o3, o4, o5, o6] (r.toList ++ []) G' Q)) : E x F (d + 1) 95 11 [o0, o1, some (.int l2), o3, o4, o5, o6] [] (V, T) Q := by
  refine e_iload_n zd95_11 rfl ?_
  refine e_iconst zd95_12 ?_
  refine e_iconst zd95_13 ?_
  exact e_callS zd95_14 (own := 7) (nest := false) (w := 334) (by decide +kernel) (by decide +kernel) zs7 (as := [.int l2, .int (Int32.ofInt 0), .int (Int32.ofInt 1)]) (rest := []) rfl rfl (Nat.le_of_ble_eq_true rfl) rfl rfl rfl (by omega) k
theorem b95_17 {x : zXs} {F : zF} (hF : zSh F) {d : Nat} {V : Nat → Nat → Int32} {T : Nat → Nat → Int64} {Q : Option Value → zG → Prop} {o0 : Option Value} {o1 : Option Value} {o2 : Option Value} {o3 : Option Value} {o4 : Option Value} {o5 : Option Value} {o6 : Option Value} {s0 : Int32}   (kt : ¬ s0 = 0 → E x F d 95 24 [o0, o1, o2, o3, o4, o5, o6] [] (V, T) Q) (kf : ¬ (¬ s0 = 0) → E x F d 95 20 [o0, o1, o2, o3, o4, o5, o6] [] (V, T) Q) : E x F d 95 17 [o0, o1, o2, o3, o4, o5, o6] [.int s0] (V, T) Q := by
  exact e_if_ne zd95_17 (tg := 24) rfl kt kf
theorem b95_20 {x : zXs} {F : zF} (hF : zSh F) {d : Nat} {V : Nat → Nat → Int32} {T : Nat → Nat → Int64} {Q : Option Value → zG → Prop} {o0 : Option Value} {o1 : Option Value} {o2 : Option Value} {o3 : Option Value} {o4 : Option Value} {o5 : Option Value} {o6 : Option Value}   (k : Q (some (.int (Int32.ofInt (-1000)))) (V, T)) : E x F d 95 20 [o0, o1, o2, o3, o4, o5, o6] [] (V, T) Q := by
  refine e_sipush zd95_20 (v := Int32.ofInt (-1000)) (by decide +kernel) ?_
  exact e_ireti zd95_23 zs95 k
theorem b95_24 {x : zXs} {F : zF} (hF : zSh F) {d : Nat} {V : Nat → Nat → Int32} {T : Nat → Nat → Int64} {Q : Option Value → zG → Prop} {o0 : Option Value} {o1 : Option Value} {o2 : Option Value} {o3 : Option Value} {o4 : Option Value} {o5 : Option Value} {o6 : Option Value}   (k : E x F d 95 32 [o0, o1, o2, some (.int (Int32.ofInt (-1))), some (.int (Int32.ofInt 0)), some (.int (Int32.ofInt 0)), o6] [] (V, T) Q) : E x F d 95 24 [o0, o1, o2, o3, o4, o5, o6] [] (V, T) Q := by
  refine e_iconst zd95_24 ?_
  refine e_istore_n zd95_25 (by decide +kernel) (Nat.le_of_ble_eq_true rfl) ?_
  refine e_iconst zd95_26 ?_
  refine e_istore zd95_27 (by decide +kernel) (Nat.le_of_ble_eq_true rfl) ?_
  refine e_iconst zd95_29 ?_
  refine e_istore zd95_30 (by decide +kernel) (Nat.le_of_ble_eq_true rfl) ?_
  exact k
theorem b95_32 {x : zXs} {F : zF} (hF : zSh F) {d : Nat} {V : Nat → Nat → Int32} {T : Nat → Nat → Int64} {Q : Option Value → zG → Prop} {o0 : Option Value} {o1 : Option Value} {o2 : Option Value} {o3 : Option Value} {o4 : Option Value} {l5 : Int32} {o6 : Option Value}   (kt : (Int32.ofInt 4) ≤ l5 → E x F d 95 90 [o0, o1, o2, o3, o4, some (.int l5), o6] [] (V, T) Q) (kf : ¬ ((Int32.ofInt 4) ≤ l5) → E x F d 95 38 [o0, o1, o2, o3, o4, some (.int l5), o6] [] (V, T) Q) : E x F d 95 32 [o0, o1, o2, o3, o4, some (.int l5), o6] [] (V, T) Q := by
  refine e_iload zd95_32 rfl ?_
  refine e_iconst zd95_34 ?_
  exact e_icmp_ge zd95_35 (tg := 90) rfl kt kf
theorem b95_38 {x : zXs} {F : zF} (hF : zSh F) {d : Nat} {V : Nat → Nat → Int32} {T : Nat → Nat → Int64} {Q : Option Value → zG → Prop} {o1 : Option Value} {o2 : Option Value} {o3 : Option Value} {o4 : Option Value} {o5 : Option Value} {o6 : Option Value}   (k : E x F d 83 0 [some (.ref 7), some (.ref 1)] [] (V, T) (fun r G' => E x F (d + 1) 95 49 [some (.ref 0), o1, o2, o3, o4, o5, o6] (r.toList ++ []) G' Q)) : E x F (d + 1) 95 38 [some (.ref 0), o1, o2, o3, o4, o5, o6] [] (V, T) Q := by
  refine e_aload_n zd95_38 rfl rfl ?_
  refine e_getO zd95_39 (own := 7) (ci := 7) (kf := 1) (w := 298) (by decide +kernel) (by decide +kernel) (zsh_at hF rfl).1 (by decide +kernel) rfl (zrf_at hF (i := 1) rfl) ?_
  refine e_aload_n zd95_42 rfl rfl ?_
  refine e_getO zd95_43 (own := 7) (ci := 7) (kf := 0) (w := 297) (by decide +kernel) (by decide +kernel) (zsh_at hF rfl).1 (by decide +kernel) rfl (zrf_at hF (i := 0) rfl) ?_
  exact e_callV zd95_46 (own := 7) (nest := false) (w := 666) (by decide +kernel) (by decide +kernel) zs83 (as := [.ref 1]) (rest := []) rfl rfl (zsh_at hF rfl).1 (by omega) (Nat.le_of_ble_eq_true rfl) rfl rfl rfl (by omega) k
theorem b95_49 {x : zXs} {F : zF} (hF : zSh F) {d : Nat} {V : Nat → Nat → Int32} {T : Nat → Nat → Int64} {Q : Option Value → zG → Prop} {l1 : Int32} {o2 : Option Value} {o3 : Option Value} {o4 : Option Value} {l5 : Int32} {o6 : Option Value}   (k : E x F d 74 0 [some (.ref 19), some (.ref 7), some (.int l1), some (.int l5), none, none, none, none, none, none, none, none, none, none] [] (V, T) (fun r G' => E x F (d + 1) 95 63 [some (.ref 0), some (.int l1), o2, o3, o4, some (.int l5), o6] (r.toList ++ []) G' Q)) : E x F (d + 1) 95 49 [some (.ref 0), some (.int l1), o2, o3, o4, some (.int l5), o6] [] (V, T) Q := by
  refine e_aload_n zd95_49 rfl rfl ?_
  refine e_getO zd95_50 (own := 7) (ci := 7) (kf := 3) (w := 300) (by decide +kernel) (by decide +kernel) (zsh_at hF rfl).1 (by decide +kernel) rfl (zrf_at hF (i := 3) rfl) ?_
  refine e_aload_n zd95_53 rfl rfl ?_
  refine e_getO zd95_54 (own := 7) (ci := 7) (kf := 1) (w := 298) (by decide +kernel) (by decide +kernel) (zsh_at hF rfl).1 (by decide +kernel) rfl (zrf_at hF (i := 1) rfl) ?_
  refine e_iload_n zd95_57 rfl ?_
  refine e_iload zd95_58 rfl ?_
  exact e_callV zd95_60 (own := 7) (nest := false) (w := 618) (by decide +kernel) (by decide +kernel) zs74 (as := [.ref 7, .int l1, .int l5]) (rest := []) rfl rfl (zsh_at hF rfl).1 (by omega) (Nat.le_of_ble_eq_true rfl) rfl rfl rfl (by omega) k
theorem b95_63 {x : zXs} {F : zF} (hF : zSh F) {d : Nat} {V : Nat → Nat → Int32} {T : Nat → Nat → Int64} {Q : Option Value → zG → Prop} {o0 : Option Value} {o1 : Option Value} {o2 : Option Value} {l3 : Int32} {o4 : Option Value} {o5 : Option Value} {o6 : Option Value} {s0 : Int32}   (kt : l3 = (Int32.ofInt (-1)) → E x F d 95 77 [o0, o1, o2, some (.int l3), o4, o5, some (.int s0)] [] (V, T) Q) (kf : ¬ (l3 = (Int32.ofInt (-1))) → E x F d 95 70 [o0, o1, o2, some (.int l3), o4, o5, some (.int s0)] [] (V, T) Q) : E x F d 95 63 [o0, o1, o2, some (.int l3), o4, o5, o6] [.int s0] (V, T) Q := by
  refine e_istore zd95_63 (by decide +kernel) (Nat.le_of_ble_eq_true rfl) ?_
  refine e_iload_n zd95_65 rfl ?_
  refine e_iconst zd95_66 ?_
  exact e_icmp_eq zd95_67 (tg := 77) rfl kt kf
theorem b95_70 {x : zXs} {F : zF} (hF : zSh F) {d : Nat} {V : Nat → Nat → Int32} {T : Nat → Nat → Int64} {Q : Option Value → zG → Prop} {o0 : Option Value} {o1 : Option Value} {o2 : Option Value} {o3 : Option Value} {l4 : Int32} {o5 : Option Value} {l6 : Int32}   (kt : l6 ≤ l4 → E x F d 95 84 [o0, o1, o2, o3, some (.int l4), o5, some (.int l6)] [] (V, T) Q) (kf : ¬ (l6 ≤ l4) → E x F d 95 77 [o0, o1, o2, o3, some (.int l4), o5, some (.int l6)] [] (V, T) Q) : E x F d 95 70 [o0, o1, o2, o3, some (.int l4), o5, some (.int l6)] [] (V, T) Q := by
  refine e_iload zd95_70 rfl ?_
  refine e_iload zd95_72 rfl ?_
  exact e_icmp_le zd95_74 (tg := 84) rfl kt kf
theorem b95_77 {x : zXs} {F : zF} (hF : zSh F) {d : Nat} {V : Nat → Nat → Int32} {T : Nat → Nat → Int64} {Q : Option Value → zG → Prop} {o0 : Option Value} {o1 : Option Value} {o2 : Option Value} {o3 : Option Value} {o4 : Option Value} {l5 : Int32} {l6 : Int32}   (k : E x F d 95 84 [o0, o1, o2, some (.int l5), some (.int l6), some (.int l5), some (.int l6)] [] (V, T) Q) : E x F d 95 77 [o0, o1, o2, o3, o4, some (.int l5), some (.int l6)] [] (V, T) Q := by
  refine e_iload zd95_77 rfl ?_
  refine e_istore_n zd95_79 (by decide +kernel) (Nat.le_of_ble_eq_true rfl) ?_
  refine e_iload zd95_80 rfl ?_
  refine e_istore zd95_82 (by decide +kernel) (Nat.le_of_ble_eq_true rfl) ?_
  exact k
theorem b95_84 {x : zXs} {F : zF} (hF : zSh F) {d : Nat} {V : Nat → Nat → Int32} {T : Nat → Nat → Int64} {Q : Option Value → zG → Prop} {o0 : Option Value} {o1 : Option Value} {o2 : Option Value} {o3 : Option Value} {o4 : Option Value} {l5 : Int32} {o6 : Option Value}   (k : E x F d 95 32 [o0, o1, o2, o3, o4, some (.int (l5 + Int32.ofInt 1)), o6] [] (V, T) Q) : E x F d 95 84 [o0, o1, o2, o3, o4, some (.int l5), o6] [] (V, T) Q := by
  refine e_iinc zd95_84 rfl (by decide +kernel) ?_
  exact e_goto zd95_87 (tg := 32) rfl k
theorem b95_90 {x : zXs} {F : zF} (hF : zSh F) {d : Nat} {V : Nat → Nat → Int32} {T : Nat → Nat → Int64} {Q : Option Value → zG → Prop} {o0 : Option Value} {o1 : Option Value} {l2 : Int32} {o3 : Option Value} {o4 : Option Value} {o5 : Option Value} {o6 : Option Value}   (kt : ¬ l2 = 0 → E x F d 95 98 [o0, o1, some (.int l2), o3, o4, o5, o6] [] (V, T) Q) (kf : ¬ (¬ l2 = 0) → E x F d 95 94 [o0, o1, some (.int l2), o3, o4, o5, o6] [] (V, T) Q) : E x F d 95 90 [o0, o1, some (.int l2), o3, o4, o5, o6] [] (V, T) Q := by
  refine e_iload_n zd95_90 rfl ?_
  exact e_if_ne zd95_91 (tg := 98) rfl kt kf
theorem b95_94 {x : zXs} {F : zF} (hF : zSh F) {d : Nat} {V : Nat → Nat → Int32} {T : Nat → Nat → Int64} {Q : Option Value → zG → Prop} {o0 : Option Value} {o1 : Option Value} {o2 : Option Value} {l3 : Int32} {o4 : Option Value} {o5 : Option Value} {o6 : Option Value}   (k : E x F d 95 100 [o0, o1, o2, some (.int l3), o4, o5, o6] [.int l3] (V, T) Q) : E x F d 95 94 [o0, o1, o2, some (.int l3), o4, o5, o6] [] (V, T) Q := by
  refine e_iload_n zd95_94 rfl ?_
  exact e_goto zd95_95 (tg := 100) rfl k
theorem b95_98 {x : zXs} {F : zF} (hF : zSh F) {d : Nat} {V : Nat → Nat → Int32} {T : Nat → Nat → Int64} {Q : Option Value → zG → Prop} {o0 : Option Value} {o1 : Option Value} {o2 : Option Value} {o3 : Option Value} {l4 : Int32} {o5 : Option Value} {o6 : Option Value}   (k : E x F d 95 100 [o0, o1, o2, o3, some (.int l4), o5, o6] [.int l4] (V, T) Q) : E x F d 95 98 [o0, o1, o2, o3, some (.int l4), o5, o6] [] (V, T) Q := by
  refine e_iload zd95_98 rfl ?_
  exact k
theorem b95_100 {x : zXs} {F : zF} (hF : zSh F) {d : Nat} {V : Nat → Nat → Int32} {T : Nat → Nat → Int64} {Q : Option Value → zG → Prop} {o0 : Option Value} {o1 : Option Value} {o2 : Option Value} {o3 : Option Value} {o4 : Option Value} {o5 : Option Value} {o6 : Option Value} {s0 : Int32}   (k : Q (some (.int s0)) (V, T)) : E x F d 95 100 [o0, o1, o2, o3, o4, o5, o6] [.int s0] (V, T) Q := by
  exact e_ireti zd95_100 zs95 k
theorem zd96_0 : zop 96 0 = some (.iconst (-1), 1) := by decide +kernel
theorem zd96_1 : zop 96 1 = some (.istore_n 1, 1) := by decide +kernel
theorem zd96_2 : zop 96 2 = some (.iconst 0, 1) := by decide +kernel
theorem zd96_3 : zop 96 3 = some (.istore_n 2, 1) := by decide +kernel
theorem zd96_4 : zop 96 4 = some (.iconst 0, 1) := by decide +kernel
theorem zd96_5 : zop 96 5 = some (.istore_n 3, 1) := by decide +kernel
theorem zd96_6 : zop 96 6 = some (.iload_n 3, 1) := by decide +kernel
theorem zd96_7 : zop 96 7 = some (.iconst 4, 1) := by decide +kernel
theorem zd96_8 : zop 96 8 = some (.if_icmp .ge 64, 3) := by decide +kernel
theorem zd96_11 : zop 96 11 = some (.aload_n 0, 1) := by decide +kernel
theorem zd96_12 : zop 96 12 = some (.getfield 10, 3) := by decide +kernel
theorem zd96_15 : zop 96 15 = some (.iload_n 3, 1) := by decide +kernel
theorem zd96_16 : zop 96 16 = some (.invokevirtual 111, 3) := by decide +kernel
theorem zd96_19 : zop 96 19 = some (.istore 4, 2) := by decide +kernel
theorem zd96_21 : zop 96 21 = some (.iconst 0, 1) := by decide +kernel
theorem zd96_22 : zop 96 22 = some (.istore 5, 2) := by decide +kernel
theorem zd96_24 : zop 96 24 = some (.iload 5, 2) := by decide +kernel
theorem zd96_26 : zop 96 26 = some (.iload 4, 2) := by decide +kernel
theorem zd96_28 : zop 96 28 = some (.if_icmp .ge 38, 3) := by decide +kernel
theorem zd96_31 : zop 96 31 = some (.aload_n 0, 1) := by decide +kernel
theorem zd96_32 : zop 96 32 = some (.getfield 10, 3) := by decide +kernel
theorem zd96_35 : zop 96 35 = some (.iload_n 3, 1) := by decide +kernel
theorem zd96_36 : zop 96 36 = some (.iload 5, 2) := by decide +kernel
theorem zd96_38 : zop 96 38 = some (.invokevirtual 122, 3) := by decide +kernel
theorem zd96_41 : zop 96 41 = some (.istore 6, 2) := by decide +kernel
theorem zd96_43 : zop 96 43 = some (.iload 6, 2) := by decide +kernel
theorem zd96_45 : zop 96 45 = some (.iload_n 2, 1) := by decide +kernel
theorem zd96_46 : zop 96 46 = some (.if_icmp .le 14, 3) := by decide +kernel
theorem zd96_49 : zop 96 49 = some (.iload 6, 2) := by decide +kernel
theorem zd96_51 : zop 96 51 = some (.istore_n 2, 1) := by decide +kernel
theorem zd96_52 : zop 96 52 = some (.bipush 100, 2) := by decide +kernel
theorem zd96_54 : zop 96 54 = some (.iload_n 3, 1) := by decide +kernel
theorem zd96_55 : zop 96 55 = some (.imul, 1) := by decide +kernel
theorem zd96_56 : zop 96 56 = some (.iload 5, 2) := by decide +kernel
theorem zd96_58 : zop 96 58 = some (.iadd, 1) := by decide +kernel
theorem zd96_59 : zop 96 59 = some (.istore_n 1, 1) := by decide +kernel
theorem zd96_60 : zop 96 60 = some (.iinc 5 1, 3) := by decide +kernel
theorem zd96_63 : zop 96 63 = some (.goto (-39), 3) := by decide +kernel
theorem zd96_66 : zop 96 66 = some (.iinc 3 1, 3) := by decide +kernel
theorem zd96_69 : zop 96 69 = some (.goto (-63), 3) := by decide +kernel
theorem zd96_72 : zop 96 72 = some (.iload_n 1, 1) := by decide +kernel
theorem zd96_73 : zop 96 73 = some (.ireturn, 1) := by decide +kernel
theorem b96_0 {x : zXs} {F : zF} (hF : zSh F) {d : Nat} {V : Nat → Nat → Int32} {T : Nat → Nat → Int64} {Q : Option Value → zG → Prop} {o0 : Option Value} {o1 : Option Value} {o2 : Option Value} {o3 : Option Value} {o4 : Option Value} {o5 : Option Value} {o6 : Option Value}   (k : E x F d 96 6 [o0, some (.int (Int32.ofInt (-1))), some (.int (Int32.ofInt 0)), some (.int (Int32.ofInt 0)), o4, o5, o6] [] (V, T) Q) : E x F d 96 0 [o0, o1, o2, o3, o4, o5, o6] [] (V, T) Q := by
  refine e_iconst zd96_0 ?_
  refine e_istore_n zd96_1 (by decide +kernel) (Nat.le_of_ble_eq_true rfl) ?_
  refine e_iconst zd96_2 ?_
  refine e_istore_n zd96_3 (by decide +kernel) (Nat.le_of_ble_eq_true rfl) ?_
  refine e_iconst zd96_4 ?_
  refine e_istore_n zd96_5 (by decide +kernel) (Nat.le_of_ble_eq_true rfl) ?_
  exact k
theorem b96_6 {x : zXs} {F : zF} (hF : zSh F) {d : Nat} {V : Nat → Nat → Int32} {T : Nat → Nat → Int64} {Q : Option Value → zG → Prop} {o0 : Option Value} {o1 : Option Value} {o2 : Option Value} {l3 : Int32} {o4 : Option Value} {o5 : Option Value} {o6 : Option Value}   (kt : (Int32.ofInt 4) ≤ l3 → E x F d 96 72 [o0, o1, o2, some (.int l3), o4, o5, o6] [] (V, T) Q) (kf : ¬ ((Int32.ofInt 4) ≤ l3) → E x F d 96 11 [o0, o1, o2, some (.int l3), o4, o5, o6] [] (V, T) Q) : E x F d 96 6 [o0, o1, o2, some (.int l3), o4, o5, o6] [] (V, T) Q := by
  refine e_iload_n zd96_6 rfl ?_
  refine e_iconst zd96_7 ?_
  exact e_icmp_ge zd96_8 (tg := 72) rfl kt kf
theorem b96_11 {x : zXs} {F : zF} (hF : zSh F) {d : Nat} {V : Nat → Nat → Int32} {T : Nat → Nat → Int64} {Q : Option Value → zG → Prop} {o1 : Option Value} {o2 : Option Value} {l3 : Int32} {o4 : Option Value} {o5 : Option Value} {o6 : Option Value}   (k : E x F d 32 0 [some (.ref 1), some (.int l3), none, none] [] (V, T) (fun r G' => E x F (d + 1) 96 19 [some (.ref 0), o1, o2, some (.int l3), o4, o5, o6] (r.toList ++ []) G' Q)) : E x F (d + 1) 96 11 [some (.ref 0), o1, o2, some (.int l3), o4, o5, o6] [] (V, T) Q := by
  refine e_aload_n zd96_11 rfl rfl ?_
  refine e_getO zd96_12 (own := 7) (ci := 7) (kf := 0) (w := 297) (by decide +kernel) (by decide +kernel) (zsh_at hF rfl).1 (by decide +kernel) rfl (zrf_at hF (i := 0) rfl) ?_
  refine e_iload_n zd96_15 rfl ?_
  exact e_callV zd96_16 (own := 7) (nest := false) (w := 411) (by decide +kernel) (by decide +kernel) zs32 (as := [.int l3]) (rest := []) rfl rfl (zsh_at hF rfl).1 (by omega) (Nat.le_of_ble_eq_true rfl) rfl rfl rfl (by omega) k
theorem b96_19 {x : zXs} {F : zF} (hF : zSh F) {d : Nat} {V : Nat → Nat → Int32} {T : Nat → Nat → Int64} {Q : Option Value → zG → Prop} {o0 : Option Value} {o1 : Option Value} {o2 : Option Value} {o3 : Option Value} {o4 : Option Value} {o5 : Option Value} {o6 : Option Value} {s0 : Int32}   (k : E x F d 96 24 [o0, o1, o2, o3, some (.int s0), some (.int (Int32.ofInt 0)), o6] [] (V, T) Q) : E x F d 96 19 [o0, o1, o2, o3, o4, o5, o6] [.int s0] (V, T) Q := by
  refine e_istore zd96_19 (by decide +kernel) (Nat.le_of_ble_eq_true rfl) ?_
  refine e_iconst zd96_21 ?_
  refine e_istore zd96_22 (by decide +kernel) (Nat.le_of_ble_eq_true rfl) ?_
  exact k
theorem b96_24 {x : zXs} {F : zF} (hF : zSh F) {d : Nat} {V : Nat → Nat → Int32} {T : Nat → Nat → Int64} {Q : Option Value → zG → Prop} {o0 : Option Value} {o1 : Option Value} {o2 : Option Value} {o3 : Option Value} {l4 : Int32} {l5 : Int32} {o6 : Option Value}   (kt : l4 ≤ l5 → E x F d 96 66 [o0, o1, o2, o3, some (.int l4), some (.int l5), o6] [] (V, T) Q) (kf : ¬ (l4 ≤ l5) → E x F d 96 31 [o0, o1, o2, o3, some (.int l4), some (.int l5), o6] [] (V, T) Q) : E x F d 96 24 [o0, o1, o2, o3, some (.int l4), some (.int l5), o6] [] (V, T) Q := by
  refine e_iload zd96_24 rfl ?_
  refine e_iload zd96_26 rfl ?_
  exact e_icmp_ge zd96_28 (tg := 66) rfl kt kf
theorem b96_31 {x : zXs} {F : zF} (hF : zSh F) {d : Nat} {V : Nat → Nat → Int32} {T : Nat → Nat → Int64} {Q : Option Value → zG → Prop} {o1 : Option Value} {o2 : Option Value} {l3 : Int32} {o4 : Option Value} {l5 : Int32} {o6 : Option Value}   (k : E x F d 34 0 [some (.ref 1), some (.int l3), some (.int l5), none, none, none, none, none, none] [] (V, T) (fun r G' => E x F (d + 1) 96 41 [some (.ref 0), o1, o2, some (.int l3), o4, some (.int l5), o6] (r.toList ++ []) G' Q)) : E x F (d + 1) 96 31 [some (.ref 0), o1, o2, some (.int l3), o4, some (.int l5), o6] [] (V, T) Q := by
  refine e_aload_n zd96_31 rfl rfl ?_
  refine e_getO zd96_32 (own := 7) (ci := 7) (kf := 0) (w := 297) (by decide +kernel) (by decide +kernel) (zsh_at hF rfl).1 (by decide +kernel) rfl (zrf_at hF (i := 0) rfl) ?_
  refine e_iload_n zd96_35 rfl ?_
  refine e_iload zd96_36 rfl ?_
  exact e_callV zd96_38 (own := 7) (nest := false) (w := 436) (by decide +kernel) (by decide +kernel) zs34 (as := [.int l3, .int l5]) (rest := []) rfl rfl (zsh_at hF rfl).1 (by omega) (Nat.le_of_ble_eq_true rfl) rfl rfl rfl (by omega) k
theorem b96_41 {x : zXs} {F : zF} (hF : zSh F) {d : Nat} {V : Nat → Nat → Int32} {T : Nat → Nat → Int64} {Q : Option Value → zG → Prop} {o0 : Option Value} {o1 : Option Value} {l2 : Int32} {o3 : Option Value} {o4 : Option Value} {o5 : Option Value} {o6 : Option Value} {s0 : Int32}   (kt : s0 ≤ l2 → E x F d 96 60 [o0, o1, some (.int l2), o3, o4, o5, some (.int s0)] [] (V, T) Q) (kf : ¬ (s0 ≤ l2) → E x F d 96 49 [o0, o1, some (.int l2), o3, o4, o5, some (.int s0)] [] (V, T) Q) : E x F d 96 41 [o0, o1, some (.int l2), o3, o4, o5, o6] [.int s0] (V, T) Q := by
  refine e_istore zd96_41 (by decide +kernel) (Nat.le_of_ble_eq_true rfl) ?_
  refine e_iload zd96_43 rfl ?_
  refine e_iload_n zd96_45 rfl ?_
  exact e_icmp_le zd96_46 (tg := 60) rfl kt kf
theorem b96_49 {x : zXs} {F : zF} (hF : zSh F) {d : Nat} {V : Nat → Nat → Int32} {T : Nat → Nat → Int64} {Q : Option Value → zG → Prop} {o0 : Option Value} {o1 : Option Value} {o2 : Option Value} {l3 : Int32} {o4 : Option Value} {l5 : Int32} {l6 : Int32}   (k : E x F d 96 60 [o0, some (.int (((Int32.ofInt 100) * l3) + l5)), some (.int l6), some (.int l3), o4, some (.int l5), some (.int l6)] [] (V, T) Q) : E x F d 96 49 [o0, o1, o2, some (.int l3), o4, some (.int l5), some (.int l6)] [] (V, T) Q := by
  refine e_iload zd96_49 rfl ?_
  refine e_istore_n zd96_51 (by decide +kernel) (Nat.le_of_ble_eq_true rfl) ?_
  refine e_bipush zd96_52 (v := Int32.ofInt 100) (by decide +kernel) ?_
  refine e_iload_n zd96_54 rfl ?_
  refine e_imul zd96_55 ?_
  refine e_iload zd96_56 rfl ?_
  refine e_iadd zd96_58 ?_
  refine e_istore_n zd96_59 (by decide +kernel) (Nat.le_of_ble_eq_true rfl) ?_
  exact k
theorem b96_60 {x : zXs} {F : zF} (hF : zSh F) {d : Nat} {V : Nat → Nat → Int32} {T : Nat → Nat → Int64} {Q : Option Value → zG → Prop} {o0 : Option Value} {o1 : Option Value} {o2 : Option Value} {o3 : Option Value} {o4 : Option Value} {l5 : Int32} {o6 : Option Value}   (k : E x F d 96 24 [o0, o1, o2, o3, o4, some (.int (l5 + Int32.ofInt 1)), o6] [] (V, T) Q) : E x F d 96 60 [o0, o1, o2, o3, o4, some (.int l5), o6] [] (V, T) Q := by
  refine e_iinc zd96_60 rfl (by decide +kernel) ?_
  exact e_goto zd96_63 (tg := 24) rfl k
theorem b96_66 {x : zXs} {F : zF} (hF : zSh F) {d : Nat} {V : Nat → Nat → Int32} {T : Nat → Nat → Int64} {Q : Option Value → zG → Prop} {o0 : Option Value} {o1 : Option Value} {o2 : Option Value} {l3 : Int32} {o4 : Option Value} {o5 : Option Value} {o6 : Option Value}   (k : E x F d 96 6 [o0, o1, o2, some (.int (l3 + Int32.ofInt 1)), o4, o5, o6] [] (V, T) Q) : E x F d 96 66 [o0, o1, o2, some (.int l3), o4, o5, o6] [] (V, T) Q := by
  refine e_iinc zd96_66 rfl (by decide +kernel) ?_
  exact e_goto zd96_69 (tg := 6) rfl k
theorem b96_72 {x : zXs} {F : zF} (hF : zSh F) {d : Nat} {V : Nat → Nat → Int32} {T : Nat → Nat → Int64} {Q : Option Value → zG → Prop} {o0 : Option Value} {l1 : Int32} {o2 : Option Value} {o3 : Option Value} {o4 : Option Value} {o5 : Option Value} {o6 : Option Value}   (k : Q (some (.int l1)) (V, T)) : E x F d 96 72 [o0, some (.int l1), o2, o3, o4, o5, o6] [] (V, T) Q := by
  refine e_iload_n zd96_72 rfl ?_
  exact e_ireti zd96_73 zs96 k
theorem zd97_0 : zop 97 0 = some (.iconst 0, 1) := by decide +kernel
theorem zd97_1 : zop 97 1 = some (.istore_n 2, 1) := by decide +kernel
theorem zd97_2 : zop 97 2 = some (.iconst 0, 1) := by decide +kernel
theorem zd97_3 : zop 97 3 = some (.istore_n 3, 1) := by decide +kernel
theorem zd97_4 : zop 97 4 = some (.iload_n 3, 1) := by decide +kernel
theorem zd97_5 : zop 97 5 = some (.iconst 4, 1) := by decide +kernel
theorem zd97_6 : zop 97 6 = some (.if_icmp .ge 21, 3) := by decide +kernel
theorem zd97_9 : zop 97 9 = some (.iload_n 2, 1) := by decide +kernel
theorem zd97_10 : zop 97 10 = some (.aload_n 0, 1) := by decide +kernel
theorem zd97_11 : zop 97 11 = some (.getfield 10, 3) := by decide +kernel
theorem zd97_14 : zop 97 14 = some (.getfield 63, 3) := by decide +kernel
theorem zd97_17 : zop 97 17 = some (.iload_n 3, 1) := by decide +kernel
theorem zd97_18 : zop 97 18 = some (.iaload, 1) := by decide +kernel
theorem zd97_19 : zop 97 19 = some (.iadd, 1) := by decide +kernel
theorem zd97_20 : zop 97 20 = some (.istore_n 2, 1) := by decide +kernel
theorem zd97_21 : zop 97 21 = some (.iinc 3 1, 3) := by decide +kernel
theorem zd97_24 : zop 97 24 = some (.goto (-20), 3) := by decide +kernel
theorem zd97_27 : zop 97 27 = some (.iload_n 1, 1) := by decide +kernel
theorem zd97_28 : zop 97 28 = some (.iconst 0, 1) := by decide +kernel
theorem zd97_29 : zop 97 29 = some (.iconst 1, 1) := by decide +kernel
theorem zd97_30 : zop 97 30 = some (.invokestatic 59, 3) := by decide +kernel
theorem zd97_33 : zop 97 33 = some (.ifCond .eq 7, 3) := by decide +kernel
theorem zd97_36 : zop 97 36 = some (.iload_n 2, 1) := by decide +kernel
theorem zd97_37 : zop 97 37 = some (.ifCond .ne 7, 3) := by decide +kernel
theorem zd97_40 : zop 97 40 = some (.ldc2_w 204, 3) := by decide +kernel
theorem zd97_43 : zop 97 43 = some (.lreturn, 1) := by decide +kernel
theorem zd97_44 : zop 97 44 = some (.iload_n 2, 1) := by decide +kernel
theorem zd97_45 : zop 97 45 = some (.aload_n 0, 1) := by decide +kernel
theorem zd97_46 : zop 97 46 = some (.getfield 10, 3) := by decide +kernel
theorem zd97_49 : zop 97 49 = some (.invokevirtual 175, 3) := by decide +kernel
theorem zd97_52 : zop 97 52 = some (.isub, 1) := by decide +kernel
theorem zd97_53 : zop 97 53 = some (.iload_n 2, 1) := by decide +kernel
theorem zd97_54 : zop 97 54 = some (.iload_n 1, 1) := by decide +kernel
theorem zd97_55 : zop 97 55 = some (.invokestatic 206, 3) := by decide +kernel
theorem zd97_58 : zop 97 58 = some (.lreturn, 1) := by decide +kernel
theorem b97_0 {x : zXs} {F : zF} (hF : zSh F) {d : Nat} {V : Nat → Nat → Int32} {T : Nat → Nat → Int64} {Q : Option Value → zG → Prop} {o0 : Option Value} {o1 : Option Value} {o2 : Option Value} {o3 : Option Value}   (k : E x F d 97 4 [o0, o1, some (.int (Int32.ofInt 0)), some (.int (Int32.ofInt 0))] [] (V, T) Q) : E x F d 97 0 [o0, o1, o2, o3] [] (V, T) Q := by
  refine e_iconst zd97_0 ?_
  refine e_istore_n zd97_1 (by decide +kernel) (Nat.le_of_ble_eq_true rfl) ?_
  refine e_iconst zd97_2 ?_
  refine e_istore_n zd97_3 (by decide +kernel) (Nat.le_of_ble_eq_true rfl) ?_
  exact k
theorem b97_4 {x : zXs} {F : zF} (hF : zSh F) {d : Nat} {V : Nat → Nat → Int32} {T : Nat → Nat → Int64} {Q : Option Value → zG → Prop} {o0 : Option Value} {o1 : Option Value} {o2 : Option Value} {l3 : Int32}   (kt : (Int32.ofInt 4) ≤ l3 → E x F d 97 27 [o0, o1, o2, some (.int l3)] [] (V, T) Q) (kf : ¬ ((Int32.ofInt 4) ≤ l3) → E x F d 97 9 [o0, o1, o2, some (.int l3)] [] (V, T) Q) : E x F d 97 4 [o0, o1, o2, some (.int l3)] [] (V, T) Q := by
  refine e_iload_n zd97_4 rfl ?_
  refine e_iconst zd97_5 ?_
  exact e_icmp_ge zd97_6 (tg := 27) rfl kt kf
theorem b97_9 {x : zXs} {F : zF} (hF : zSh F) {d : Nat} {V : Nat → Nat → Int32} {T : Nat → Nat → Int64} {Q : Option Value → zG → Prop} {o1 : Option Value} {l2 : Int32} {l3 : Int32}  {i1 : Nat} (e1 : l3 = nI i1) (h1 : i1 < 4) (k : E x F d 97 4 [some (.ref 0), o1, some (.int (l2 + (V 2 i1))), some (.int (l3 + Int32.ofInt 1))] [] (V, T) Q) : E x F d 97 9 [some (.ref 0), o1, some (.int l2), some (.int l3)] [] (V, T) Q := by
  refine e_iload_n zd97_9 rfl ?_
  refine e_aload_n zd97_10 rfl rfl ?_
  refine e_getO zd97_11 (own := 7) (ci := 7) (kf := 0) (w := 297) (by decide +kernel) (by decide +kernel) (zsh_at hF rfl).1 (by decide +kernel) rfl (zrf_at hF (i := 0) rfl) ?_
  refine e_getA zd97_14 (own := 7) (ci := 4) (kf := 0) (w := 111) (by decide +kernel) (by decide +kernel) (zsh_at hF rfl).1 (by decide +kernel) rfl (zrf_at hF (i := 8) rfl) ?_
  refine e_iload_n zd97_17 rfl ?_
  refine e_iald zd97_18 (i := i1) (zsh_at hF rfl) e1 h1 (by omega) ?_
  refine e_iadd zd97_19 ?_
  refine e_istore_n zd97_20 (by decide +kernel) (Nat.le_of_ble_eq_true rfl) ?_
  refine e_iinc zd97_21 rfl (by decide +kernel) ?_
  exact e_goto zd97_24 (tg := 4) rfl k
theorem b97_27 {x : zXs} {F : zF} (hF : zSh F) {d : Nat} {V : Nat → Nat → Int32} {T : Nat → Nat → Int64} {Q : Option Value → zG → Prop} {o0 : Option Value} {l1 : Int32} {o2 : Option Value} {o3 : Option Value}   (k : E x F d 7 0 [some (.int l1), some (.int (Int32.ofInt 0)), some (.int (Int32.ofInt 1))] [] (V, T) (fun r G' => E x F (d + 1) 97 33 [o0, some (.int l1), o2, o3] (r.toList ++ []) G' Q)) : E x F (d + 1) 97 27 [o0, some (.int l1), o2, o3] [] (V, T) Q := by
  refine e_iload_n zd97_27 rfl ?_
  refine e_iconst zd97_28 ?_
  refine e_iconst zd97_29 ?_
  exact e_callS zd97_30 (own := 7) (nest := false) (w := 334) (by decide +kernel) (by decide +kernel) zs7 (as := [.int l1, .int (Int32.ofInt 0), .int (Int32.ofInt 1)]) (rest := []) rfl rfl (Nat.le_of_ble_eq_true rfl) rfl rfl rfl (by omega) k
theorem b97_33 {x : zXs} {F : zF} (hF : zSh F) {d : Nat} {V : Nat → Nat → Int32} {T : Nat → Nat → Int64} {Q : Option Value → zG → Prop} {o0 : Option Value} {o1 : Option Value} {o2 : Option Value} {o3 : Option Value} {s0 : Int32}   (kt : s0 = 0 → E x F d 97 40 [o0, o1, o2, o3] [] (V, T) Q) (kf : ¬ (s0 = 0) → E x F d 97 36 [o0, o1, o2, o3] [] (V, T) Q) : E x F d 97 33 [o0, o1, o2, o3] [.int s0] (V, T) Q := by
  exact e_if_eq zd97_33 (tg := 40) rfl kt kf
theorem b97_36 {x : zXs} {F : zF} (hF : zSh F) {d : Nat} {V : Nat → Nat → Int32} {T : Nat → Nat → Int64} {Q : Option Value → zG → Prop} {o0 : Option Value} {o1 : Option Value} {l2 : Int32} {o3 : Option Value}   (kt : ¬ l2 = 0 → E x F d 97 44 [o0, o1, some (.int l2), o3] [] (V, T) Q) (kf : ¬ (¬ l2 = 0) → E x F d 97 40 [o0, o1, some (.int l2), o3] [] (V, T) Q) : E x F d 97 36 [o0, o1, some (.int l2), o3] [] (V, T) Q := by
  refine e_iload_n zd97_36 rfl ?_
  exact e_if_ne zd97_37 (tg := 44) rfl kt kf
theorem b97_40 {x : zXs} {F : zF} (hF : zSh F) {d : Nat} {V : Nat → Nat → Int32} {T : Nat → Nat → Int64} {Q : Option Value → zG → Prop} {o0 : Option Value} {o1 : Option Value} {o2 : Option Value} {o3 : Option Value}   (k : Q (some (.long (-4611686018427387904 : Int64))) (V, T)) : E x F d 97 40 [o0, o1, o2, o3] [] (V, T) Q := by
  refine e_ldc2 zd97_40 (own := 7) (w := 727) (v := (-4611686018427387904)) (by decide +kernel) (by decide +kernel) ?_
  exact e_lret zd97_43 zs97 k
theorem b97_44 {x : zXs} {F : zF} (hF : zSh F) {d : Nat} {V : Nat → Nat → Int32} {T : Nat → Nat → Int64} {Q : Option Value → zG → Prop} {o1 : Option Value} {l2 : Int32} {o3 : Option Value}   (k : E x F d 81 0 [some (.ref 1), none, none] [] (V, T) (fun r G' => E x F (d + 1) 97 52 [some (.ref 0), o1, some (.int l2), o3] (r.toList ++ [.int l2]) G' Q)) : E x F (d + 1) 97 44 [some (.ref 0), o1, some (.int l2), o3] [] (V, T) Q := by
  refine e_iload_n zd97_44 rfl ?_
  refine e_aload_n zd97_45 rfl rfl ?_
  refine e_getO zd97_46 (own := 7) (ci := 7) (kf := 0) (w := 297) (by decide +kernel) (by decide +kernel) (zsh_at hF rfl).1 (by decide +kernel) rfl (zrf_at hF (i := 0) rfl) ?_
  exact e_callV zd97_49 (own := 7) (nest := false) (w := 657) (by decide +kernel) (by decide +kernel) zs81 (as := []) (rest := [.int l2]) rfl rfl (zsh_at hF rfl).1 (by omega) (Nat.le_of_ble_eq_true rfl) rfl rfl rfl (by omega) k
theorem b97_52 {x : zXs} {F : zF} (hF : zSh F) {d : Nat} {V : Nat → Nat → Int32} {T : Nat → Nat → Int64} {Q : Option Value → zG → Prop} {o0 : Option Value} {l1 : Int32} {l2 : Int32} {o3 : Option Value} {s0 : Int32} {s1 : Int32}   (k : E x F d 98 0 [some (.int (s0 - s1)), some (.int l2), some (.int l1), none] [] (V, T) (fun r G' => E x F (d + 1) 97 58 [o0, some (.int l1), some (.int l2), o3] (r.toList ++ []) G' Q)) : E x F (d + 1) 97 52 [o0, some (.int l1), some (.int l2), o3] [.int s1, .int s0] (V, T) Q := by
  refine e_isub zd97_52 ?_
  refine e_iload_n zd97_53 rfl ?_
  refine e_iload_n zd97_54 rfl ?_
  exact e_callS zd97_55 (own := 7) (nest := false) (w := 728) (by decide +kernel) (by decide +kernel) zs98 (as := [.int (s0 - s1), .int l2, .int l1]) (rest := []) rfl rfl (Nat.le_of_ble_eq_true rfl) rfl rfl rfl (by omega) k
theorem b97_58 {x : zXs} {F : zF} (hF : zSh F) {d : Nat} {V : Nat → Nat → Int32} {T : Nat → Nat → Int64} {Q : Option Value → zG → Prop} {o0 : Option Value} {o1 : Option Value} {o2 : Option Value} {o3 : Option Value} {s0 : Int64}   (k : Q (some (.long s0)) (V, T)) : E x F d 97 58 [o0, o1, o2, o3] [.long s0] (V, T) Q := by
  exact e_lret zd97_58 zs97 k
theorem zd98_0 : zop 98 0 = some (.iload_n 0, 1) := by decide +kernel
theorem zd98_1 : zop 98 1 = some (.iload_n 1, 1) := by decide +kernel
theorem zd98_2 : zop 98 2 = some (.invokestatic 285, 3) := by decide +kernel
theorem zd98_5 : zop 98 5 = some (.istore_n 3, 1) := by decide +kernel
theorem zd98_6 : zop 98 6 = some (.iload_n 3, 1) := by decide +kernel
theorem zd98_7 : zop 98 7 = some (.ifCond .ne 7, 3) := by decide +kernel
theorem zd98_10 : zop 98 10 = some (.ldc2_w 204, 3) := by decide +kernel
theorem zd98_13 : zop 98 13 = some (.lreturn, 1) := by decide +kernel
theorem zd98_14 : zop 98 14 = some (.iload_n 2, 1) := by decide +kernel
theorem zd98_15 : zop 98 15 = some (.ifCond .ne 10, 3) := by decide +kernel
theorem zd98_18 : zop 98 18 = some (.iload_n 0, 1) := by decide +kernel
theorem zd98_19 : zop 98 19 = some (.iload_n 3, 1) := by decide +kernel
theorem zd98_20 : zop 98 20 = some (.idiv, 1) := by decide +kernel
theorem zd98_21 : zop 98 21 = some (.i2l, 1) := by decide +kernel
theorem zd98_22 : zop 98 22 = some (.goto 7, 3) := by decide +kernel
theorem zd98_25 : zop 98 25 = some (.iload_n 1, 1) := by decide +kernel
theorem zd98_26 : zop 98 26 = some (.iload_n 3, 1) := by decide +kernel
theorem zd98_27 : zop 98 27 = some (.idiv, 1) := by decide +kernel
theorem zd98_28 : zop 98 28 = some (.i2l, 1) := by decide +kernel
theorem zd98_29 : zop 98 29 = some (.lreturn, 1) := by decide +kernel
theorem b98_0 {x : zXs} {F : zF} (hF : zSh F) {d : Nat} {V : Nat → Nat → Int32} {T : Nat → Nat → Int64} {Q : Option Value → zG → Prop} {l0 : Int32} {l1 : Int32} {o2 : Option Value} {o3 : Option Value}   (k : E x F d 99 0 [some (.int l0), some (.int l1), none, none, none, none] [] (V, T) (fun r G' => E x F (d + 1) 98 5 [some (.int l0), some (.int l1), o2, o3] (r.toList ++ []) G' Q)) : E x F (d + 1) 98 0 [some (.int l0), some (.int l1), o2, o3] [] (V, T) Q := by
  refine e_iload_n zd98_0 rfl ?_
  refine e_iload_n zd98_1 rfl ?_
  exact e_callS zd98_2 (own := 7) (nest := false) (w := 731) (by decide +kernel) (by decide +kernel) zs99 (as := [.int l0, .int l1]) (rest := []) rfl rfl (Nat.le_of_ble_eq_true rfl) rfl rfl rfl (by omega) k
theorem b98_5 {x : zXs} {F : zF} (hF : zSh F) {d : Nat} {V : Nat → Nat → Int32} {T : Nat → Nat → Int64} {Q : Option Value → zG → Prop} {o0 : Option Value} {o1 : Option Value} {o2 : Option Value} {o3 : Option Value} {s0 : Int32}   (kt : ¬ s0 = 0 → E x F d 98 14 [o0, o1, o2, some (.int s0)] [] (V, T) Q) (kf : ¬ (¬ s0 = 0) → E x F d 98 10 [o0, o1, o2, some (.int s0)] [] (V, T) Q) : E x F d 98 5 [o0, o1, o2, o3] [.int s0] (V, T) Q := by
  refine e_istore_n zd98_5 (by decide +kernel) (Nat.le_of_ble_eq_true rfl) ?_
  refine e_iload_n zd98_6 rfl ?_
  exact e_if_ne zd98_7 (tg := 14) rfl kt kf
theorem b98_10 {x : zXs} {F : zF} (hF : zSh F) {d : Nat} {V : Nat → Nat → Int32} {T : Nat → Nat → Int64} {Q : Option Value → zG → Prop} {o0 : Option Value} {o1 : Option Value} {o2 : Option Value} {o3 : Option Value}   (k : Q (some (.long (-4611686018427387904 : Int64))) (V, T)) : E x F d 98 10 [o0, o1, o2, o3] [] (V, T) Q := by
  refine e_ldc2 zd98_10 (own := 7) (w := 727) (v := (-4611686018427387904)) (by decide +kernel) (by decide +kernel) ?_
  exact e_lret zd98_13 zs98 k
theorem b98_14 {x : zXs} {F : zF} (hF : zSh F) {d : Nat} {V : Nat → Nat → Int32} {T : Nat → Nat → Int64} {Q : Option Value → zG → Prop} {o0 : Option Value} {o1 : Option Value} {l2 : Int32} {o3 : Option Value}   (kt : ¬ l2 = 0 → E x F d 98 25 [o0, o1, some (.int l2), o3] [] (V, T) Q) (kf : ¬ (¬ l2 = 0) → E x F d 98 18 [o0, o1, some (.int l2), o3] [] (V, T) Q) : E x F d 98 14 [o0, o1, some (.int l2), o3] [] (V, T) Q := by
  refine e_iload_n zd98_14 rfl ?_
  exact e_if_ne zd98_15 (tg := 25) rfl kt kf
theorem b98_18 {x : zXs} {F : zF} (hF : zSh F) {d : Nat} {V : Nat → Nat → Int32} {T : Nat → Nat → Int64} {Q : Option Value → zG → Prop} {l0 : Int32} {o1 : Option Value} {o2 : Option Value} {l3 : Int32}  (n1 : ¬ l3 = 0) (k : E x F d 98 29 [some (.int l0), o1, o2, some (.int l3)] [.long ((l0 / l3).toInt64)] (V, T) Q) : E x F d 98 18 [some (.int l0), o1, o2, some (.int l3)] [] (V, T) Q := by
  refine e_iload_n zd98_18 rfl ?_
  refine e_iload_n zd98_19 rfl ?_
  refine e_idiv zd98_20 n1 ?_
  refine e_i2l zd98_21 ?_
  exact e_goto zd98_22 (tg := 29) rfl k
theorem b98_25 {x : zXs} {F : zF} (hF : zSh F) {d : Nat} {V : Nat → Nat → Int32} {T : Nat → Nat → Int64} {Q : Option Value → zG → Prop} {o0 : Option Value} {l1 : Int32} {o2 : Option Value} {l3 : Int32}  (n1 : ¬ l3 = 0) (k : E x F d 98 29 [o0, some (.int l1), o2, some (.int l3)] [.long ((l1 / l3).toInt64)] (V, T) Q) : E x F d 98 25 [o0, some (.int l1), o2, some (.int l3)] [] (V, T) Q := by
  refine e_iload_n zd98_25 rfl ?_
  refine e_iload_n zd98_26 rfl ?_
  refine e_idiv zd98_27 n1 ?_
  refine e_i2l zd98_28 ?_
  exact k
theorem b98_29 {x : zXs} {F : zF} (hF : zSh F) {d : Nat} {V : Nat → Nat → Int32} {T : Nat → Nat → Int64} {Q : Option Value → zG → Prop} {o0 : Option Value} {o1 : Option Value} {o2 : Option Value} {o3 : Option Value} {s0 : Int64}   (k : Q (some (.long s0)) (V, T)) : E x F d 98 29 [o0, o1, o2, o3] [.long s0] (V, T) Q := by
  exact e_lret zd98_29 zs98 k
theorem zd99_0 : zop 99 0 = some (.iload_n 0, 1) := by decide +kernel
theorem zd99_1 : zop 99 1 = some (.istore_n 2, 1) := by decide +kernel
theorem zd99_2 : zop 99 2 = some (.iload_n 1, 1) := by decide +kernel
theorem zd99_3 : zop 99 3 = some (.istore_n 3, 1) := by decide +kernel
theorem zd99_4 : zop 99 4 = some (.iconst 0, 1) := by decide +kernel
theorem zd99_5 : zop 99 5 = some (.istore 4, 2) := by decide +kernel
theorem zd99_7 : zop 99 7 = some (.iload 4, 2) := by decide +kernel
theorem zd99_9 : zop 99 9 = some (.bipush 96, 2) := by decide +kernel
theorem zd99_11 : zop 99 11 = some (.if_icmp .ge 23, 3) := by decide +kernel
theorem zd99_14 : zop 99 14 = some (.iload_n 3, 1) := by decide +kernel
theorem zd99_15 : zop 99 15 = some (.ifCond .eq 19, 3) := by decide +kernel
theorem zd99_18 : zop 99 18 = some (.iload_n 2, 1) := by decide +kernel
theorem zd99_19 : zop 99 19 = some (.iload_n 3, 1) := by decide +kernel
theorem zd99_20 : zop 99 20 = some (.irem, 1) := by decide +kernel
theorem zd99_21 : zop 99 21 = some (.istore 5, 2) := by decide +kernel
theorem zd99_23 : zop 99 23 = some (.iload_n 3, 1) := by decide +kernel
theorem zd99_24 : zop 99 24 = some (.istore_n 2, 1) := by decide +kernel
theorem zd99_25 : zop 99 25 = some (.iload 5, 2) := by decide +kernel
theorem zd99_27 : zop 99 27 = some (.istore_n 3, 1) := by decide +kernel
theorem zd99_28 : zop 99 28 = some (.iinc 4 1, 3) := by decide +kernel
theorem zd99_31 : zop 99 31 = some (.goto (-24), 3) := by decide +kernel
theorem zd99_34 : zop 99 34 = some (.iload_n 2, 1) := by decide +kernel
theorem zd99_35 : zop 99 35 = some (.ireturn, 1) := by decide +kernel
theorem b99_0 {x : zXs} {F : zF} (hF : zSh F) {d : Nat} {V : Nat → Nat → Int32} {T : Nat → Nat → Int64} {Q : Option Value → zG → Prop} {l0 : Int32} {l1 : Int32} {o2 : Option Value} {o3 : Option Value} {o4 : Option Value} {o5 : Option Value}   (k : E x F d 99 7 [some (.int l0), some (.int l1), some (.int l0), some (.int l1), some (.int (Int32.ofInt 0)), o5] [] (V, T) Q) : E x F d 99 0 [some (.int l0), some (.int l1), o2, o3, o4, o5] [] (V, T) Q := by
  refine e_iload_n zd99_0 rfl ?_
  refine e_istore_n zd99_1 (by decide +kernel) (Nat.le_of_ble_eq_true rfl) ?_
  refine e_iload_n zd99_2 rfl ?_
  refine e_istore_n zd99_3 (by decide +kernel) (Nat.le_of_ble_eq_true rfl) ?_
  refine e_iconst zd99_4 ?_
  refine e_istore zd99_5 (by decide +kernel) (Nat.le_of_ble_eq_true rfl) ?_
  exact k
theorem b99_7 {x : zXs} {F : zF} (hF : zSh F) {d : Nat} {V : Nat → Nat → Int32} {T : Nat → Nat → Int64} {Q : Option Value → zG → Prop} {o0 : Option Value} {o1 : Option Value} {o2 : Option Value} {o3 : Option Value} {l4 : Int32} {o5 : Option Value}   (kt : (Int32.ofInt 96) ≤ l4 → E x F d 99 34 [o0, o1, o2, o3, some (.int l4), o5] [] (V, T) Q) (kf : ¬ ((Int32.ofInt 96) ≤ l4) → E x F d 99 14 [o0, o1, o2, o3, some (.int l4), o5] [] (V, T) Q) : E x F d 99 7 [o0, o1, o2, o3, some (.int l4), o5] [] (V, T) Q := by
  refine e_iload zd99_7 rfl ?_
  refine e_bipush zd99_9 (v := Int32.ofInt 96) (by decide +kernel) ?_
  exact e_icmp_ge zd99_11 (tg := 34) rfl kt kf
theorem b99_14 {x : zXs} {F : zF} (hF : zSh F) {d : Nat} {V : Nat → Nat → Int32} {T : Nat → Nat → Int64} {Q : Option Value → zG → Prop} {o0 : Option Value} {o1 : Option Value} {o2 : Option Value} {l3 : Int32} {o4 : Option Value} {o5 : Option Value}   (kt : l3 = 0 → E x F d 99 34 [o0, o1, o2, some (.int l3), o4, o5] [] (V, T) Q) (kf : ¬ (l3 = 0) → E x F d 99 18 [o0, o1, o2, some (.int l3), o4, o5] [] (V, T) Q) : E x F d 99 14 [o0, o1, o2, some (.int l3), o4, o5] [] (V, T) Q := by
  refine e_iload_n zd99_14 rfl ?_
  exact e_if_eq zd99_15 (tg := 34) rfl kt kf
theorem b99_18 {x : zXs} {F : zF} (hF : zSh F) {d : Nat} {V : Nat → Nat → Int32} {T : Nat → Nat → Int64} {Q : Option Value → zG → Prop} {o0 : Option Value} {o1 : Option Value} {l2 : Int32} {l3 : Int32} {l4 : Int32} {o5 : Option Value}  (n1 : ¬ l3 = 0) (k : E x F d 99 7 [o0, o1, some (.int l3), some (.int (l2 - l2 / l3 * l3)), some (.int (l4 + Int32.ofInt 1)), some (.int (l2 - l2 / l3 * l3))] [] (V, T) Q) : E x F d 99 18 [o0, o1, some (.int l2), some (.int l3), some (.int l4), o5] [] (V, T) Q := by
  refine e_iload_n zd99_18 rfl ?_
  refine e_iload_n zd99_19 rfl ?_
  refine e_irem zd99_20 n1 ?_
  refine e_istore zd99_21 (by decide +kernel) (Nat.le_of_ble_eq_true rfl) ?_
  refine e_iload_n zd99_23 rfl ?_
  refine e_istore_n zd99_24 (by decide +kernel) (Nat.le_of_ble_eq_true rfl) ?_
  refine e_iload zd99_25 rfl ?_
  refine e_istore_n zd99_27 (by decide +kernel) (Nat.le_of_ble_eq_true rfl) ?_
  refine e_iinc zd99_28 rfl (by decide +kernel) ?_
  exact e_goto zd99_31 (tg := 7) rfl k
theorem b99_34 {x : zXs} {F : zF} (hF : zSh F) {d : Nat} {V : Nat → Nat → Int32} {T : Nat → Nat → Int64} {Q : Option Value → zG → Prop} {o0 : Option Value} {o1 : Option Value} {l2 : Int32} {o3 : Option Value} {o4 : Option Value} {o5 : Option Value}   (k : Q (some (.int l2)) (V, T)) : E x F d 99 34 [o0, o1, some (.int l2), o3, o4, o5] [] (V, T) Q := by
  refine e_iload_n zd99_34 rfl ?_
  exact e_ireti zd99_35 zs99 k
theorem zd100_0 : zop 100 0 = some (.aload_n 0, 1) := by decide +kernel
theorem zd100_1 : zop 100 1 = some (.iload_n 1, 1) := by decide +kernel
theorem zd100_2 : zop 100 2 = some (.invokevirtual 210, 3) := by decide +kernel
theorem zd100_5 : zop 100 5 = some (.ifCond .eq 36, 3) := by decide +kernel
theorem zd100_8 : zop 100 8 = some (.aload_n 0, 1) := by decide +kernel
theorem zd100_9 : zop 100 9 = some (.getfield 10, 3) := by decide +kernel
theorem zd100_12 : zop 100 12 = some (.iload_n 2, 1) := by decide +kernel
theorem zd100_13 : zop 100 13 = some (.invokevirtual 91, 3) := by decide +kernel
theorem zd100_16 : zop 100 16 = some (.ifCond .eq 25, 3) := by decide +kernel
theorem zd100_19 : zop 100 19 = some (.aload_n 0, 1) := by decide +kernel
theorem zd100_20 : zop 100 20 = some (.getfield 10, 3) := by decide +kernel
theorem zd100_23 : zop 100 23 = some (.iload_n 3, 1) := by decide +kernel
theorem zd100_24 : zop 100 24 = some (.invokevirtual 55, 3) := by decide +kernel
theorem zd100_27 : zop 100 27 = some (.ifCond .eq 14, 3) := by decide +kernel
theorem zd100_30 : zop 100 30 = some (.iload 4, 2) := by decide +kernel
theorem zd100_32 : zop 100 32 = some (.iconst 0, 1) := by decide +kernel
theorem zd100_33 : zop 100 33 = some (.bipush 7, 2) := by decide +kernel
theorem zd100_35 : zop 100 35 = some (.invokestatic 59, 3) := by decide +kernel
theorem zd100_38 : zop 100 38 = some (.ifCond .ne 6, 3) := by decide +kernel
theorem zd100_41 : zop 100 41 = some (.bipush (-2), 2) := by decide +kernel
theorem zd100_43 : zop 100 43 = some (.ireturn, 1) := by decide +kernel
theorem zd100_44 : zop 100 44 = some (.aload_n 0, 1) := by decide +kernel
theorem zd100_45 : zop 100 45 = some (.getfield 50, 3) := by decide +kernel
theorem zd100_48 : zop 100 48 = some (.iload_n 1, 1) := by decide +kernel
theorem zd100_49 : zop 100 49 = some (.aaload, 1) := by decide +kernel
theorem zd100_50 : zop 100 50 = some (.astore 5, 2) := by decide +kernel
theorem zd100_52 : zop 100 52 = some (.aload 5, 2) := by decide +kernel
theorem zd100_54 : zop 100 54 = some (.invokevirtual 213, 3) := by decide +kernel
theorem zd100_57 : zop 100 57 = some (.ifCond .eq 6, 3) := by decide +kernel
theorem zd100_60 : zop 100 60 = some (.bipush (-11), 2) := by decide +kernel
theorem zd100_62 : zop 100 62 = some (.ireturn, 1) := by decide +kernel
theorem zd100_63 : zop 100 63 = some (.aload 5, 2) := by decide +kernel
theorem zd100_65 : zop 100 65 = some (.getfield 216, 3) := by decide +kernel
theorem zd100_68 : zop 100 68 = some (.aload_n 0, 1) := by decide +kernel
theorem zd100_69 : zop 100 69 = some (.getfield 10, 3) := by decide +kernel
theorem zd100_72 : zop 100 72 = some (.iload_n 3, 1) := by decide +kernel
theorem zd100_73 : zop 100 73 = some (.invokevirtual 111, 3) := by decide +kernel
theorem zd100_76 : zop 100 76 = some (.if_icmp .le 6, 3) := by decide +kernel
theorem zd100_79 : zop 100 79 = some (.bipush (-2), 2) := by decide +kernel
theorem zd100_81 : zop 100 81 = some (.ireturn, 1) := by decide +kernel
theorem zd100_82 : zop 100 82 = some (.iload 4, 2) := by decide +kernel
theorem zd100_84 : zop 100 84 = some (.tableswitch 119 0 6 #[44, 64, 73, 82, 82, 102, 111], 44) := by decide +kernel
theorem zd100_128 : zop 100 128 = some (.aload_n 0, 1) := by decide +kernel
theorem zd100_129 : zop 100 129 = some (.getfield 16, 3) := by decide +kernel
theorem zd100_132 : zop 100 132 = some (.aload_n 0, 1) := by decide +kernel
theorem zd100_133 : zop 100 133 = some (.getfield 10, 3) := by decide +kernel
theorem zd100_136 : zop 100 136 = some (.invokevirtual 178, 3) := by decide +kernel
theorem zd100_139 : zop 100 139 = some (.aload_n 0, 1) := by decide +kernel
theorem zd100_140 : zop 100 140 = some (.aload 5, 2) := by decide +kernel
theorem zd100_142 : zop 100 142 = some (.iload_n 2, 1) := by decide +kernel
theorem zd100_143 : zop 100 143 = some (.iload_n 3, 1) := by decide +kernel
theorem zd100_144 : zop 100 144 = some (.invokevirtual 217, 3) := by decide +kernel
theorem zd100_147 : zop 100 147 = some (.ireturn, 1) := by decide +kernel
theorem zd100_148 : zop 100 148 = some (.aload_n 0, 1) := by decide +kernel
theorem zd100_149 : zop 100 149 = some (.aload 5, 2) := by decide +kernel
theorem zd100_151 : zop 100 151 = some (.iload_n 2, 1) := by decide +kernel
theorem zd100_152 : zop 100 152 = some (.iload_n 3, 1) := by decide +kernel
theorem zd100_153 : zop 100 153 = some (.invokevirtual 221, 3) := by decide +kernel
theorem zd100_156 : zop 100 156 = some (.ireturn, 1) := by decide +kernel
theorem zd100_157 : zop 100 157 = some (.aload_n 0, 1) := by decide +kernel
theorem zd100_158 : zop 100 158 = some (.aload 5, 2) := by decide +kernel
theorem zd100_160 : zop 100 160 = some (.iload_n 2, 1) := by decide +kernel
theorem zd100_161 : zop 100 161 = some (.iload_n 3, 1) := by decide +kernel
theorem zd100_162 : zop 100 162 = some (.invokevirtual 224, 3) := by decide +kernel
theorem zd100_165 : zop 100 165 = some (.ireturn, 1) := by decide +kernel
theorem zd100_166 : zop 100 166 = some (.aload_n 0, 1) := by decide +kernel
theorem zd100_167 : zop 100 167 = some (.aload 5, 2) := by decide +kernel
theorem zd100_169 : zop 100 169 = some (.iload_n 2, 1) := by decide +kernel
theorem zd100_170 : zop 100 170 = some (.iload_n 3, 1) := by decide +kernel
theorem zd100_171 : zop 100 171 = some (.iload 4, 2) := by decide +kernel
theorem zd100_173 : zop 100 173 = some (.iconst 4, 1) := by decide +kernel
theorem zd100_174 : zop 100 174 = some (.if_icmp .ne 7, 3) := by decide +kernel
theorem zd100_177 : zop 100 177 = some (.iconst 1, 1) := by decide +kernel
theorem zd100_178 : zop 100 178 = some (.goto 4, 3) := by decide +kernel
theorem zd100_181 : zop 100 181 = some (.iconst 0, 1) := by decide +kernel
theorem zd100_182 : zop 100 182 = some (.invokevirtual 227, 3) := by decide +kernel
theorem zd100_185 : zop 100 185 = some (.ireturn, 1) := by decide +kernel
theorem zd100_186 : zop 100 186 = some (.aload_n 0, 1) := by decide +kernel
theorem zd100_187 : zop 100 187 = some (.aload 5, 2) := by decide +kernel
theorem zd100_189 : zop 100 189 = some (.iload_n 2, 1) := by decide +kernel
theorem zd100_190 : zop 100 190 = some (.iload_n 3, 1) := by decide +kernel
theorem zd100_191 : zop 100 191 = some (.invokevirtual 231, 3) := by decide +kernel
theorem zd100_194 : zop 100 194 = some (.ireturn, 1) := by decide +kernel
theorem zd100_195 : zop 100 195 = some (.aload_n 0, 1) := by decide +kernel
theorem zd100_196 : zop 100 196 = some (.aload 5, 2) := by decide +kernel
theorem zd100_198 : zop 100 198 = some (.iload_n 3, 1) := by decide +kernel
theorem zd100_199 : zop 100 199 = some (.invokevirtual 234, 3) := by decide +kernel
theorem zd100_202 : zop 100 202 = some (.ireturn, 1) := by decide +kernel
theorem zd100_203 : zop 100 203 = some (.aload_n 0, 1) := by decide +kernel
theorem zd100_204 : zop 100 204 = some (.aload 5, 2) := by decide +kernel
theorem zd100_206 : zop 100 206 = some (.iload_n 2, 1) := by decide +kernel
theorem zd100_207 : zop 100 207 = some (.invokevirtual 238, 3) := by decide +kernel
theorem zd100_210 : zop 100 210 = some (.ireturn, 1) := by decide +kernel
theorem b100_0 {x : zXs} {F : zF} (hF : zSh F) {d : Nat} {V : Nat → Nat → Int32} {T : Nat → Nat → Int64} {Q : Option Value → zG → Prop} {l1 : Int32} {o2 : Option Value} {o3 : Option Value} {o4 : Option Value} {o5 : Option Value}   (k : E x F d 101 0 [some (.ref 0), some (.int l1)] [] (V, T) (fun r G' => E x F (d + 1) 100 5 [some (.ref 0), some (.int l1), o2, o3, o4, o5] (r.toList ++ []) G' Q)) : E x F (d + 1) 100 0 [some (.ref 0), some (.int l1), o2, o3, o4, o5] [] (V, T) Q := by
  refine e_aload_n zd100_0 rfl rfl ?_
  refine e_iload_n zd100_1 rfl ?_
  exact e_callV zd100_2 (own := 7) (nest := false) (w := 738) (by decide +kernel) (by decide +kernel) zs101 (as := [.int l1]) (rest := []) rfl rfl (zsh_at hF rfl).1 (by omega) (Nat.le_of_ble_eq_true rfl) rfl rfl rfl (by omega) k
theorem b100_5 {x : zXs} {F : zF} (hF : zSh F) {d : Nat} {V : Nat → Nat → Int32} {T : Nat → Nat → Int64} {Q : Option Value → zG → Prop} {o0 : Option Value} {o1 : Option Value} {o2 : Option Value} {o3 : Option Value} {o4 : Option Value} {o5 : Option Value} {s0 : Int32}   (kt : s0 = 0 → E x F d 100 41 [o0, o1, o2, o3, o4, o5] [] (V, T) Q) (kf : ¬ (s0 = 0) → E x F d 100 8 [o0, o1, o2, o3, o4, o5] [] (V, T) Q) : E x F d 100 5 [o0, o1, o2, o3, o4, o5] [.int s0] (V, T) Q := by
  exact e_if_eq zd100_5 (tg := 41) rfl kt kf
theorem b100_8 {x : zXs} {F : zF} (hF : zSh F) {d : Nat} {V : Nat → Nat → Int32} {T : Nat → Nat → Int64} {Q : Option Value → zG → Prop} {o1 : Option Value} {l2 : Int32} {o3 : Option Value} {o4 : Option Value} {o5 : Option Value}   (k : E x F d 19 0 [some (.ref 1), some (.int l2)] [] (V, T) (fun r G' => E x F (d + 1) 100 16 [some (.ref 0), o1, some (.int l2), o3, o4, o5] (r.toList ++ []) G' Q)) : E x F (d + 1) 100 8 [some (.ref 0), o1, some (.int l2), o3, o4, o5] [] (V, T) Q := by
  refine e_aload_n zd100_8 rfl rfl ?_
  refine e_getO zd100_9 (own := 7) (ci := 7) (kf := 0) (w := 297) (by decide +kernel) (by decide +kernel) (zsh_at hF rfl).1 (by decide +kernel) rfl (zrf_at hF (i := 0) rfl) ?_
  refine e_iload_n zd100_12 rfl ?_
  exact e_callV zd100_13 (own := 7) (nest := false) (w := 361) (by decide +kernel) (by decide +kernel) zs19 (as := [.int l2]) (rest := []) rfl rfl (zsh_at hF rfl).1 (by omega) (Nat.le_of_ble_eq_true rfl) rfl rfl rfl (by omega) k
theorem b100_16 {x : zXs} {F : zF} (hF : zSh F) {d : Nat} {V : Nat → Nat → Int32} {T : Nat → Nat → Int64} {Q : Option Value → zG → Prop} {o0 : Option Value} {o1 : Option Value} {o2 : Option Value} {o3 : Option Value} {o4 : Option Value} {o5 : Option Value} {s0 : Int32}   (kt : s0 = 0 → E x F d 100 41 [o0, o1, o2, o3, o4, o5] [] (V, T) Q) (kf : ¬ (s0 = 0) → E x F d 100 19 [o0, o1, o2, o3, o4, o5] [] (V, T) Q) : E x F d 100 16 [o0, o1, o2, o3, o4, o5] [.int s0] (V, T) Q := by
  exact e_if_eq zd100_16 (tg := 41) rfl kt kf
theorem b100_19 {x : zXs} {F : zF} (hF : zSh F) {d : Nat} {V : Nat → Nat → Int32} {T : Nat → Nat → Int64} {Q : Option Value → zG → Prop} {o1 : Option Value} {o2 : Option Value} {l3 : Int32} {o4 : Option Value} {o5 : Option Value}   (k : E x F d 12 0 [some (.ref 1), some (.int l3)] [] (V, T) (fun r G' => E x F (d + 1) 100 27 [some (.ref 0), o1, o2, some (.int l3), o4, o5] (r.toList ++ []) G' Q)) : E x F (d + 1) 100 19 [some (.ref 0), o1, o2, some (.int l3), o4, o5] [] (V, T) Q := by
  refine e_aload_n zd100_19 rfl rfl ?_
  refine e_getO zd100_20 (own := 7) (ci := 7) (kf := 0) (w := 297) (by decide +kernel) (by decide +kernel) (zsh_at hF rfl).1 (by decide +kernel) rfl (zrf_at hF (i := 0) rfl) ?_
  refine e_iload_n zd100_23 rfl ?_
  exact e_callV zd100_24 (own := 7) (nest := false) (w := 329) (by decide +kernel) (by decide +kernel) zs12 (as := [.int l3]) (rest := []) rfl rfl (zsh_at hF rfl).1 (by omega) (Nat.le_of_ble_eq_true rfl) rfl rfl rfl (by omega) k
theorem b100_27 {x : zXs} {F : zF} (hF : zSh F) {d : Nat} {V : Nat → Nat → Int32} {T : Nat → Nat → Int64} {Q : Option Value → zG → Prop} {o0 : Option Value} {o1 : Option Value} {o2 : Option Value} {o3 : Option Value} {o4 : Option Value} {o5 : Option Value} {s0 : Int32}   (kt : s0 = 0 → E x F d 100 41 [o0, o1, o2, o3, o4, o5] [] (V, T) Q) (kf : ¬ (s0 = 0) → E x F d 100 30 [o0, o1, o2, o3, o4, o5] [] (V, T) Q) : E x F d 100 27 [o0, o1, o2, o3, o4, o5] [.int s0] (V, T) Q := by
  exact e_if_eq zd100_27 (tg := 41) rfl kt kf
theorem b100_30 {x : zXs} {F : zF} (hF : zSh F) {d : Nat} {V : Nat → Nat → Int32} {T : Nat → Nat → Int64} {Q : Option Value → zG → Prop} {o0 : Option Value} {o1 : Option Value} {o2 : Option Value} {o3 : Option Value} {l4 : Int32} {o5 : Option Value}   (k : E x F d 7 0 [some (.int l4), some (.int (Int32.ofInt 0)), some (.int (Int32.ofInt 7))] [] (V, T) (fun r G' => E x F (d + 1) 100 38 [o0, o1, o2, o3, some (.int l4), o5] (r.toList ++ []) G' Q)) : E x F (d + 1) 100 30 [o0, o1, o2, o3, some (.int l4), o5] [] (V, T) Q := by
  refine e_iload zd100_30 rfl ?_
  refine e_iconst zd100_32 ?_
  refine e_bipush zd100_33 (v := Int32.ofInt 7) (by decide +kernel) ?_
  exact e_callS zd100_35 (own := 7) (nest := false) (w := 334) (by decide +kernel) (by decide +kernel) zs7 (as := [.int l4, .int (Int32.ofInt 0), .int (Int32.ofInt 7)]) (rest := []) rfl rfl (Nat.le_of_ble_eq_true rfl) rfl rfl rfl (by omega) k
theorem b100_38 {x : zXs} {F : zF} (hF : zSh F) {d : Nat} {V : Nat → Nat → Int32} {T : Nat → Nat → Int64} {Q : Option Value → zG → Prop} {o0 : Option Value} {o1 : Option Value} {o2 : Option Value} {o3 : Option Value} {o4 : Option Value} {o5 : Option Value} {s0 : Int32}   (kt : ¬ s0 = 0 → E x F d 100 44 [o0, o1, o2, o3, o4, o5] [] (V, T) Q) (kf : ¬ (¬ s0 = 0) → E x F d 100 41 [o0, o1, o2, o3, o4, o5] [] (V, T) Q) : E x F d 100 38 [o0, o1, o2, o3, o4, o5] [.int s0] (V, T) Q := by
  exact e_if_ne zd100_38 (tg := 44) rfl kt kf
theorem b100_41 {x : zXs} {F : zF} (hF : zSh F) {d : Nat} {V : Nat → Nat → Int32} {T : Nat → Nat → Int64} {Q : Option Value → zG → Prop} {o0 : Option Value} {o1 : Option Value} {o2 : Option Value} {o3 : Option Value} {o4 : Option Value} {o5 : Option Value}   (k : Q (some (.int (Int32.ofInt (-2)))) (V, T)) : E x F d 100 41 [o0, o1, o2, o3, o4, o5] [] (V, T) Q := by
  refine e_bipush zd100_41 (v := Int32.ofInt (-2)) (by decide +kernel) ?_
  exact e_ireti zd100_43 zs100 k
theorem b100_44 {x : zXs} {F : zF} (hF : zSh F) {d : Nat} {V : Nat → Nat → Int32} {T : Nat → Nat → Int64} {Q : Option Value → zG → Prop} {l1 : Int32} {o2 : Option Value} {o3 : Option Value} {o4 : Option Value} {o5 : Option Value}  {i1 : Nat} (e1 : l1 = nI i1) (h1 : i1 < 4) (k : E x F d 102 0 [some (.ref (51 + 2 * i1))] [] (V, T) (fun r G' => E x F (d + 1) 100 57 [some (.ref 0), some (.int l1), o2, o3, o4, some (.ref (51 + 2 * i1))] (r.toList ++ []) G' Q)) : E x F (d + 1) 100 44 [some (.ref 0), some (.int l1), o2, o3, o4, o5] [] (V, T) Q := by
  refine e_aload_n zd100_44 rfl rfl ?_
  refine e_getA zd100_45 (own := 7) (ci := 7) (kf := 7) (w := 304) (by decide +kernel) (by decide +kernel) (zsh_at hF rfl).1 (by decide +kernel) rfl (zrf_at hF (i := 7) rfl) ?_
  refine e_iload_n zd100_48 rfl ?_
  refine e_aald zd100_49 (i := i1) (n := 4) ⟨Or.inr (zsh_at hF rfl).1, (zsh_at hF rfl).2⟩ e1 h1 (by omega) (zSht_at hF h1).1 ?_
  refine e_astore zd100_50 rfl (by decide +kernel) (Nat.le_of_ble_eq_true rfl) ?_
  refine e_aload zd100_52 rfl rfl ?_
  exact e_callV zd100_54 (own := 7) (nest := false) (w := 742) (by decide +kernel) (by decide +kernel) zs102 (as := []) (rest := []) rfl rfl (zSt4_s hF (zSht_in (i := i1) h1)).1 (by omega) (Nat.le_of_ble_eq_true rfl) rfl rfl rfl (by omega) k
theorem b100_57 {x : zXs} {F : zF} (hF : zSh F) {d : Nat} {V : Nat → Nat → Int32} {T : Nat → Nat → Int64} {Q : Option Value → zG → Prop} {o0 : Option Value} {o1 : Option Value} {o2 : Option Value} {o3 : Option Value} {o4 : Option Value} {o5 : Option Value} {s0 : Int32}   (kt : s0 = 0 → E x F d 100 63 [o0, o1, o2, o3, o4, o5] [] (V, T) Q) (kf : ¬ (s0 = 0) → E x F d 100 60 [o0, o1, o2, o3, o4, o5] [] (V, T) Q) : E x F d 100 57 [o0, o1, o2, o3, o4, o5] [.int s0] (V, T) Q := by
  exact e_if_eq zd100_57 (tg := 63) rfl kt kf
theorem b100_60 {x : zXs} {F : zF} (hF : zSh F) {d : Nat} {V : Nat → Nat → Int32} {T : Nat → Nat → Int64} {Q : Option Value → zG → Prop} {o0 : Option Value} {o1 : Option Value} {o2 : Option Value} {o3 : Option Value} {o4 : Option Value} {o5 : Option Value}   (k : Q (some (.int (Int32.ofInt (-11)))) (V, T)) : E x F d 100 60 [o0, o1, o2, o3, o4, o5] [] (V, T) Q := by
  refine e_bipush zd100_60 (v := Int32.ofInt (-11)) (by decide +kernel) ?_
  exact e_ireti zd100_62 zs100 k
theorem b100_63 {x : zXs} {F : zF} (hF : zSh F) {d : Nat} {V : Nat → Nat → Int32} {T : Nat → Nat → Int64} {Q : Option Value → zG → Prop} {o1 : Option Value} {o2 : Option Value} {l3 : Int32} {o4 : Option Value} {l5 : Nat} (hl5 : zSt4 l5)  (k : E x F d 32 0 [some (.ref 1), some (.int l3), none, none] [] (V, T) (fun r G' => E x F (d + 1) 100 76 [some (.ref 0), o1, o2, some (.int l3), o4, some (.ref l5)] (r.toList ++ [.int (V l5 2)]) G' Q)) : E x F (d + 1) 100 63 [some (.ref 0), o1, o2, some (.int l3), o4, some (.ref l5)] [] (V, T) Q := by
  refine e_aload zd100_63 rfl rfl ?_
  refine e_getI zd100_65 (own := 7) (ci := 3) (kf := 2) (w := 289) (by decide +kernel) (by decide +kernel) (zSt4_s hF hl5).1 (by decide +kernel) rfl ?_
  refine e_aload_n zd100_68 rfl rfl ?_
  refine e_getO zd100_69 (own := 7) (ci := 7) (kf := 0) (w := 297) (by decide +kernel) (by decide +kernel) (zsh_at hF rfl).1 (by decide +kernel) rfl (zrf_at hF (i := 0) rfl) ?_
  refine e_iload_n zd100_72 rfl ?_
  exact e_callV zd100_73 (own := 7) (nest := false) (w := 411) (by decide +kernel) (by decide +kernel) zs32 (as := [.int l3]) (rest := [.int (V l5 2)]) rfl rfl (zsh_at hF rfl).1 (by omega) (Nat.le_of_ble_eq_true rfl) rfl rfl rfl (by omega) k
theorem b100_76 {x : zXs} {F : zF} (hF : zSh F) {d : Nat} {V : Nat → Nat → Int32} {T : Nat → Nat → Int64} {Q : Option Value → zG → Prop} {o0 : Option Value} {o1 : Option Value} {o2 : Option Value} {o3 : Option Value} {o4 : Option Value} {o5 : Option Value} {s0 : Int32} {s1 : Int32}   (kt : s0 ≤ s1 → E x F d 100 82 [o0, o1, o2, o3, o4, o5] [] (V, T) Q) (kf : ¬ (s0 ≤ s1) → E x F d 100 79 [o0, o1, o2, o3, o4, o5] [] (V, T) Q) : E x F d 100 76 [o0, o1, o2, o3, o4, o5] [.int s1, .int s0] (V, T) Q := by
  exact e_icmp_le zd100_76 (tg := 82) rfl kt kf
theorem b100_79 {x : zXs} {F : zF} (hF : zSh F) {d : Nat} {V : Nat → Nat → Int32} {T : Nat → Nat → Int64} {Q : Option Value → zG → Prop} {o0 : Option Value} {o1 : Option Value} {o2 : Option Value} {o3 : Option Value} {o4 : Option Value} {o5 : Option Value}   (k : Q (some (.int (Int32.ofInt (-2)))) (V, T)) : E x F d 100 79 [o0, o1, o2, o3, o4, o5] [] (V, T) Q := by
  refine e_bipush zd100_79 (v := Int32.ofInt (-2)) (by decide +kernel) ?_
  exact e_ireti zd100_81 zs100 k
theorem b100_82 {x : zXs} {F : zF} (hF : zSh F) {d : Nat} {V : Nat → Nat → Int32} {T : Nat → Nat → Int64} {Q : Option Value → zG → Prop} {o0 : Option Value} {o1 : Option Value} {o2 : Option Value} {o3 : Option Value} {l4 : Int32} {o5 : Option Value}   (k0 : l4 = Int32.ofInt 0 → E x F d 100 128 [o0, o1, o2, o3, some (.int l4), o5] [] (V, T) Q) (k1 : l4 = Int32.ofInt 1 → E x F d 100 148 [o0, o1, o2, o3, some (.int l4), o5] [] (V, T) Q) (k2 : l4 = Int32.ofInt 2 → E x F d 100 157 [o0, o1, o2, o3, some (.int l4), o5] [] (V, T) Q) (k3 : l4 = Int32.ofInt 3 → E x F d 100 166 [o0, o1, o2, o3, some (.int l4), o5] [] (V, T) Q) (k4 : l4 = Int32.ofInt 4 → E x F d 100 166 [o0, o1, o2, o3, some (.int l4), o5] [] (V, T) Q) (k5 : l4 = Int32.ofInt 5 → E x F d 100 186 [o0, o1, o2, o3, some (.int l4), o5] [] (V, T) Q) (k6 : l4 = Int32.ofInt 6 → E x F d 100 195 [o0, o1, o2, o3, some (.int l4), o5] [] (V, T) Q) (kd : ¬ l4 = Int32.ofInt 0 ∧ ¬ l4 = Int32.ofInt 1 ∧ ¬ l4 = Int32.ofInt 2 ∧ ¬ l4 = Int32.ofInt 3 ∧ ¬ l4 = Int32.ofInt 4 ∧ ¬ l4 = Int32.ofInt 5 ∧ ¬ l4 = Int32.ofInt 6 → E x F d 100 203 [o0, o1, o2, o3, some (.int l4), o5] [] (V, T) Q) : E x F d 100 82 [o0, o1, o2, o3, some (.int l4), o5] [] (V, T) Q := by
  refine e_iload zd100_82 rfl ?_
  by_cases c0 : l4 = Int32.ofInt 0
  · exact e_tableIn zd100_84 (off := 44) (by rw [c0]; decide +kernel) (by rw [c0]; decide +kernel) (tg := 128) rfl (k0 c0)
  by_cases c1 : l4 = Int32.ofInt 1
  · exact e_tableIn zd100_84 (off := 64) (by rw [c1]; decide +kernel) (by rw [c1]; decide +kernel) (tg := 148) rfl (k1 c1)
  by_cases c2 : l4 = Int32.ofInt 2
  · exact e_tableIn zd100_84 (off := 73) (by rw [c2]; decide +kernel) (by rw [c2]; decide +kernel) (tg := 157) rfl (k2 c2)
  by_cases c3 : l4 = Int32.ofInt 3
  · exact e_tableIn zd100_84 (off := 82) (by rw [c3]; decide +kernel) (by rw [c3]; decide +kernel) (tg := 166) rfl (k3 c3)
  by_cases c4 : l4 = Int32.ofInt 4
  · exact e_tableIn zd100_84 (off := 82) (by rw [c4]; decide +kernel) (by rw [c4]; decide +kernel) (tg := 166) rfl (k4 c4)
  by_cases c5 : l4 = Int32.ofInt 5
  · exact e_tableIn zd100_84 (off := 102) (by rw [c5]; decide +kernel) (by rw [c5]; decide +kernel) (tg := 186) rfl (k5 c5)
  by_cases c6 : l4 = Int32.ofInt 6
  · exact e_tableIn zd100_84 (off := 111) (by rw [c6]; decide +kernel) (by rw [c6]; decide +kernel) (tg := 195) rfl (k6 c6)
  exact e_tableOut zd100_84 (zsw_out (lo := 0) (hi := 6) (by decide) (by decide) (fun v h1 h2 h => by
    rcases (show v = 0 ∨ v = 1 ∨ v = 2 ∨ v = 3 ∨ v = 4 ∨ v = 5 ∨ v = 6 by omega) with rfl | rfl | rfl | rfl | rfl | rfl | rfl
    · exact c0 h
    · exact c1 h
    · exact c2 h
    · exact c3 h
    · exact c4 h
    · exact c5 h
    · exact c6 h)) (tg := 203) rfl (kd ⟨c0, c1, c2, c3, c4, c5, c6⟩)
theorem b100_128 {x : zXs} {F : zF} (hF : zSh F) {d : Nat} {V : Nat → Nat → Int32} {T : Nat → Nat → Int64} {Q : Option Value → zG → Prop} {o1 : Option Value} {o2 : Option Value} {o3 : Option Value} {o4 : Option Value} {o5 : Option Value}   (k : E x F d 83 0 [some (.ref 7), some (.ref 1)] [] (V, T) (fun r G' => E x F (d + 1) 100 139 [some (.ref 0), o1, o2, o3, o4, o5] (r.toList ++ []) G' Q)) : E x F (d + 1) 100 128 [some (.ref 0), o1, o2, o3, o4, o5] [] (V, T) Q := by
  refine e_aload_n zd100_128 rfl rfl ?_
  refine e_getO zd100_129 (own := 7) (ci := 7) (kf := 1) (w := 298) (by decide +kernel) (by decide +kernel) (zsh_at hF rfl).1 (by decide +kernel) rfl (zrf_at hF (i := 1) rfl) ?_
  refine e_aload_n zd100_132 rfl rfl ?_
  refine e_getO zd100_133 (own := 7) (ci := 7) (kf := 0) (w := 297) (by decide +kernel) (by decide +kernel) (zsh_at hF rfl).1 (by decide +kernel) rfl (zrf_at hF (i := 0) rfl) ?_
  exact e_callV zd100_136 (own := 7) (nest := false) (w := 666) (by decide +kernel) (by decide +kernel) zs83 (as := [.ref 1]) (rest := []) rfl rfl (zsh_at hF rfl).1 (by omega) (Nat.le_of_ble_eq_true rfl) rfl rfl rfl (by omega) k
theorem b100_139 {x : zXs} {F : zF} (hF : zSh F) {d : Nat} {V : Nat → Nat → Int32} {T : Nat → Nat → Int64} {Q : Option Value → zG → Prop} {o1 : Option Value} {l2 : Int32} {l3 : Int32} {o4 : Option Value} {l5 : Nat} (hl5 : zSt4 l5)  (k : E x F d 103 0 [some (.ref 0), some (.ref l5), some (.int l2), some (.int l3), none] [] (V, T) (fun r G' => E x F (d + 1) 100 147 [some (.ref 0), o1, some (.int l2), some (.int l3), o4, some (.ref l5)] (r.toList ++ []) G' Q)) : E x F (d + 1) 100 139 [some (.ref 0), o1, some (.int l2), some (.int l3), o4, some (.ref l5)] [] (V, T) Q := by
  refine e_aload_n zd100_139 rfl rfl ?_
  refine e_aload zd100_140 rfl rfl ?_
  refine e_iload_n zd100_142 rfl ?_
  refine e_iload_n zd100_143 rfl ?_
  exact e_callV zd100_144 (own := 7) (nest := false) (w := 746) (by decide +kernel) (by decide +kernel) zs103 (as := [.ref l5, .int l2, .int l3]) (rest := []) rfl rfl (zsh_at hF rfl).1 (by omega) (Nat.le_of_ble_eq_true rfl) rfl rfl rfl (by omega) k
theorem b100_147 {x : zXs} {F : zF} (hF : zSh F) {d : Nat} {V : Nat → Nat → Int32} {T : Nat → Nat → Int64} {Q : Option Value → zG → Prop} {o0 : Option Value} {o1 : Option Value} {o2 : Option Value} {o3 : Option Value} {o4 : Option Value} {o5 : Option Value} {s0 : Int32}   (k : Q (some (.int s0)) (V, T)) : E x F d 100 147 [o0, o1, o2, o3, o4, o5] [.int s0] (V, T) Q := by
  exact e_ireti zd100_147 zs100 k
theorem b100_148 {x : zXs} {F : zF} (hF : zSh F) {d : Nat} {V : Nat → Nat → Int32} {T : Nat → Nat → Int64} {Q : Option Value → zG → Prop} {o1 : Option Value} {l2 : Int32} {l3 : Int32} {o4 : Option Value} {l5 : Nat} (hl5 : zSt4 l5)  (k : E x F d 104 0 [some (.ref 0), some (.ref l5), some (.int l2), some (.int l3), none, none] [] (V, T) (fun r G' => E x F (d + 1) 100 156 [some (.ref 0), o1, some (.int l2), some (.int l3), o4, some (.ref l5)] (r.toList ++ []) G' Q)) : E x F (d + 1) 100 148 [some (.ref 0), o1, some (.int l2), some (.int l3), o4, some (.ref l5)] [] (V, T) Q := by
  refine e_aload_n zd100_148 rfl rfl ?_
  refine e_aload zd100_149 rfl rfl ?_
  refine e_iload_n zd100_151 rfl ?_
  refine e_iload_n zd100_152 rfl ?_
  exact e_callV zd100_153 (own := 7) (nest := false) (w := 750) (by decide +kernel) (by decide +kernel) zs104 (as := [.ref l5, .int l2, .int l3]) (rest := []) rfl rfl (zsh_at hF rfl).1 (by omega) (Nat.le_of_ble_eq_true rfl) rfl rfl rfl (by omega) k
theorem b100_156 {x : zXs} {F : zF} (hF : zSh F) {d : Nat} {V : Nat → Nat → Int32} {T : Nat → Nat → Int64} {Q : Option Value → zG → Prop} {o0 : Option Value} {o1 : Option Value} {o2 : Option Value} {o3 : Option Value} {o4 : Option Value} {o5 : Option Value} {s0 : Int32}   (k : Q (some (.int s0)) (V, T)) : E x F d 100 156 [o0, o1, o2, o3, o4, o5] [.int s0] (V, T) Q := by
  exact e_ireti zd100_156 zs100 k
theorem b100_157 {x : zXs} {F : zF} (hF : zSh F) {d : Nat} {V : Nat → Nat → Int32} {T : Nat → Nat → Int64} {Q : Option Value → zG → Prop} {o1 : Option Value} {l2 : Int32} {l3 : Int32} {o4 : Option Value} {l5 : Nat} (hl5 : zSt4 l5)  (k : E x F d 106 0 [some (.ref 0), some (.ref l5), some (.int l2), some (.int l3), none, none] [] (V, T) (fun r G' => E x F (d + 1) 100 165 [some (.ref 0), o1, some (.int l2), some (.int l3), o4, some (.ref l5)] (r.toList ++ []) G' Q)) : E x F (d + 1) 100 157 [some (.ref 0), o1, some (.int l2), some (.int l3), o4, some (.ref l5)] [] (V, T) Q := by
  refine e_aload_n zd100_157 rfl rfl ?_
  refine e_aload zd100_158 rfl rfl ?_
  refine e_iload_n zd100_160 rfl ?_
  refine e_iload_n zd100_161 rfl ?_
  exact e_callV zd100_162 (own := 7) (nest := false) (w := 757) (by decide +kernel) (by decide +kernel) zs106 (as := [.ref l5, .int l2, .int l3]) (rest := []) rfl rfl (zsh_at hF rfl).1 (by omega) (Nat.le_of_ble_eq_true rfl) rfl rfl rfl (by omega) k
theorem b100_165 {x : zXs} {F : zF} (hF : zSh F) {d : Nat} {V : Nat → Nat → Int32} {T : Nat → Nat → Int64} {Q : Option Value → zG → Prop} {o0 : Option Value} {o1 : Option Value} {o2 : Option Value} {o3 : Option Value} {o4 : Option Value} {o5 : Option Value} {s0 : Int32}   (k : Q (some (.int s0)) (V, T)) : E x F d 100 165 [o0, o1, o2, o3, o4, o5] [.int s0] (V, T) Q := by
  exact e_ireti zd100_165 zs100 k
theorem b100_166 {x : zXs} {F : zF} (hF : zSh F) {d : Nat} {V : Nat → Nat → Int32} {T : Nat → Nat → Int64} {Q : Option Value → zG → Prop} {o1 : Option Value} {l2 : Int32} {l3 : Int32} {l4 : Int32} {l5 : Nat} (hl5 : zSt4 l5)  (kt : ¬ l4 = (Int32.ofInt 4) → E x F d 100 181 [some (.ref 0), o1, some (.int l2), some (.int l3), some (.int l4), some (.ref l5)] [.int l3, .int l2, .ref l5, .ref 0] (V, T) Q) (kf : ¬ (¬ l4 = (Int32.ofInt 4)) → E x F d 100 177 [some (.ref 0), o1, some (.int l2), some (.int l3), some (.int l4), some (.ref l5)] [.int l3, .int l2, .ref l5, .ref 0] (V, T) Q) : E x F d 100 166 [some (.ref 0), o1, some (.int l2), some (.int l3), some (.int l4), some (.ref l5)] [] (V, T) Q := by
  refine e_aload_n zd100_166 rfl rfl ?_
  refine e_aload zd100_167 rfl rfl ?_
  refine e_iload_n zd100_169 rfl ?_
  refine e_iload_n zd100_170 rfl ?_
  refine e_iload zd100_171 rfl ?_
  refine e_iconst zd100_173 ?_
  exact e_icmp_ne zd100_174 (tg := 181) rfl kt kf
theorem b100_177 {x : zXs} {F : zF} (hF : zSh F) {d : Nat} {V : Nat → Nat → Int32} {T : Nat → Nat → Int64} {Q : Option Value → zG → Prop} {o0 : Option Value} {o1 : Option Value} {o2 : Option Value} {o3 : Option Value} {o4 : Option Value} {o5 : Option Value} {s1 : Nat} {s2 : Int32} {s3 : Int32} (hs1 : zSt4 s1)  (k : E x F d 100 182 [o0, o1, o2, o3, o4, o5] [.int (Int32.ofInt 1), .int s3, .int s2, .ref s1, .ref 0] (V, T) Q) : E x F d 100 177 [o0, o1, o2, o3, o4, o5] [.int s3, .int s2, .ref s1, .ref 0] (V, T) Q := by
  refine e_iconst zd100_177 ?_
  exact e_goto zd100_178 (tg := 182) rfl k
theorem b100_181 {x : zXs} {F : zF} (hF : zSh F) {d : Nat} {V : Nat → Nat → Int32} {T : Nat → Nat → Int64} {Q : Option Value → zG → Prop} {o0 : Option Value} {o1 : Option Value} {o2 : Option Value} {o3 : Option Value} {o4 : Option Value} {o5 : Option Value} {s1 : Nat} {s2 : Int32} {s3 : Int32} (hs1 : zSt4 s1)  (k : E x F d 100 182 [o0, o1, o2, o3, o4, o5] [.int (Int32.ofInt 0), .int s3, .int s2, .ref s1, .ref 0] (V, T) Q) : E x F d 100 181 [o0, o1, o2, o3, o4, o5] [.int s3, .int s2, .ref s1, .ref 0] (V, T) Q := by
  refine e_iconst zd100_181 ?_
  exact k
theorem b100_182 {x : zXs} {F : zF} (hF : zSh F) {d : Nat} {V : Nat → Nat → Int32} {T : Nat → Nat → Int64} {Q : Option Value → zG → Prop} {o0 : Option Value} {o1 : Option Value} {o2 : Option Value} {o3 : Option Value} {o4 : Option Value} {o5 : Option Value} {s1 : Nat} {s2 : Int32} {s3 : Int32} {s4 : Int32} (hs1 : zSt4 s1)  (k : E x F d 107 0 [some (.ref 0), some (.ref s1), some (.int s2), some (.int s3), some (.int s4), none, none, none] [] (V, T) (fun r G' => E x F (d + 1) 100 185 [o0, o1, o2, o3, o4, o5] (r.toList ++ []) G' Q)) : E x F (d + 1) 100 182 [o0, o1, o2, o3, o4, o5] [.int s4, .int s3, .int s2, .ref s1, .ref 0] (V, T) Q := by
  exact e_callV zd100_182 (own := 7) (nest := false) (w := 761) (by decide +kernel) (by decide +kernel) zs107 (as := [.ref s1, .int s2, .int s3, .int s4]) (rest := []) rfl rfl (zsh_at hF rfl).1 (by omega) (Nat.le_of_ble_eq_true rfl) rfl rfl rfl (by omega) k
theorem b100_185 {x : zXs} {F : zF} (hF : zSh F) {d : Nat} {V : Nat → Nat → Int32} {T : Nat → Nat → Int64} {Q : Option Value → zG → Prop} {o0 : Option Value} {o1 : Option Value} {o2 : Option Value} {o3 : Option Value} {o4 : Option Value} {o5 : Option Value} {s0 : Int32}   (k : Q (some (.int s0)) (V, T)) : E x F d 100 185 [o0, o1, o2, o3, o4, o5] [.int s0] (V, T) Q := by
  exact e_ireti zd100_185 zs100 k
theorem b100_186 {x : zXs} {F : zF} (hF : zSh F) {d : Nat} {V : Nat → Nat → Int32} {T : Nat → Nat → Int64} {Q : Option Value → zG → Prop} {o1 : Option Value} {l2 : Int32} {l3 : Int32} {o4 : Option Value} {l5 : Nat} (hl5 : zSt4 l5)  (k : E x F d 108 0 [some (.ref 0), some (.ref l5), some (.int l2), some (.int l3), none, none] [] (V, T) (fun r G' => E x F (d + 1) 100 194 [some (.ref 0), o1, some (.int l2), some (.int l3), o4, some (.ref l5)] (r.toList ++ []) G' Q)) : E x F (d + 1) 100 186 [some (.ref 0), o1, some (.int l2), some (.int l3), o4, some (.ref l5)] [] (V, T) Q := by
  refine e_aload_n zd100_186 rfl rfl ?_
  refine e_aload zd100_187 rfl rfl ?_
  refine e_iload_n zd100_189 rfl ?_
  refine e_iload_n zd100_190 rfl ?_
  exact e_callV zd100_191 (own := 7) (nest := false) (w := 765) (by decide +kernel) (by decide +kernel) zs108 (as := [.ref l5, .int l2, .int l3]) (rest := []) rfl rfl (zsh_at hF rfl).1 (by omega) (Nat.le_of_ble_eq_true rfl) rfl rfl rfl (by omega) k
theorem b100_194 {x : zXs} {F : zF} (hF : zSh F) {d : Nat} {V : Nat → Nat → Int32} {T : Nat → Nat → Int64} {Q : Option Value → zG → Prop} {o0 : Option Value} {o1 : Option Value} {o2 : Option Value} {o3 : Option Value} {o4 : Option Value} {o5 : Option Value} {s0 : Int32}   (k : Q (some (.int s0)) (V, T)) : E x F d 100 194 [o0, o1, o2, o3, o4, o5] [.int s0] (V, T) Q := by
  exact e_ireti zd100_194 zs100 k
theorem b100_195 {x : zXs} {F : zF} (hF : zSh F) {d : Nat} {V : Nat → Nat → Int32} {T : Nat → Nat → Int64} {Q : Option Value → zG → Prop} {o1 : Option Value} {o2 : Option Value} {l3 : Int32} {o4 : Option Value} {l5 : Nat} (hl5 : zSt4 l5)  (k : E x F d 109 0 [some (.ref 0), some (.ref l5), some (.int l3), none, none] [] (V, T) (fun r G' => E x F (d + 1) 100 202 [some (.ref 0), o1, o2, some (.int l3), o4, some (.ref l5)] (r.toList ++ []) G' Q)) : E x F (d + 1) 100 195 [some (.ref 0), o1, o2, some (.int l3), o4, some (.ref l5)] [] (V, T) Q := by
  refine e_aload_n zd100_195 rfl rfl ?_
  refine e_aload zd100_196 rfl rfl ?_
  refine e_iload_n zd100_198 rfl ?_
  exact e_callV zd100_199 (own := 7) (nest := false) (w := 769) (by decide +kernel) (by decide +kernel) zs109 (as := [.ref l5, .int l3]) (rest := []) rfl rfl (zsh_at hF rfl).1 (by omega) (Nat.le_of_ble_eq_true rfl) rfl rfl rfl (by omega) k
theorem b100_202 {x : zXs} {F : zF} (hF : zSh F) {d : Nat} {V : Nat → Nat → Int32} {T : Nat → Nat → Int64} {Q : Option Value → zG → Prop} {o0 : Option Value} {o1 : Option Value} {o2 : Option Value} {o3 : Option Value} {o4 : Option Value} {o5 : Option Value} {s0 : Int32}   (k : Q (some (.int s0)) (V, T)) : E x F d 100 202 [o0, o1, o2, o3, o4, o5] [.int s0] (V, T) Q := by
  exact e_ireti zd100_202 zs100 k
theorem b100_203 {x : zXs} {F : zF} (hF : zSh F) {d : Nat} {V : Nat → Nat → Int32} {T : Nat → Nat → Int64} {Q : Option Value → zG → Prop} {o1 : Option Value} {l2 : Int32} {o3 : Option Value} {o4 : Option Value} {l5 : Nat} (hl5 : zSt4 l5)  (k : E x F d 110 0 [some (.ref 0), some (.ref l5), some (.int l2), none, none] [] (V, T) (fun r G' => E x F (d + 1) 100 210 [some (.ref 0), o1, some (.int l2), o3, o4, some (.ref l5)] (r.toList ++ []) G' Q)) : E x F (d + 1) 100 203 [some (.ref 0), o1, some (.int l2), o3, o4, some (.ref l5)] [] (V, T) Q := by
  refine e_aload_n zd100_203 rfl rfl ?_
  refine e_aload zd100_204 rfl rfl ?_
  refine e_iload_n zd100_206 rfl ?_
  exact e_callV zd100_207 (own := 7) (nest := false) (w := 773) (by decide +kernel) (by decide +kernel) zs110 (as := [.ref l5, .int l2]) (rest := []) rfl rfl (zsh_at hF rfl).1 (by omega) (Nat.le_of_ble_eq_true rfl) rfl rfl rfl (by omega) k
theorem b100_210 {x : zXs} {F : zF} (hF : zSh F) {d : Nat} {V : Nat → Nat → Int32} {T : Nat → Nat → Int64} {Q : Option Value → zG → Prop} {o0 : Option Value} {o1 : Option Value} {o2 : Option Value} {o3 : Option Value} {o4 : Option Value} {o5 : Option Value} {s0 : Int32}   (k : Q (some (.int s0)) (V, T)) : E x F d 100 210 [o0, o1, o2, o3, o4, o5] [.int s0] (V, T) Q := by
  exact e_ireti zd100_210 zs100 k
theorem zd101_0 : zop 101 0 = some (.iload_n 1, 1) := by decide +kernel
theorem zd101_1 : zop 101 1 = some (.iconst 0, 1) := by decide +kernel
theorem zd101_2 : zop 101 2 = some (.iconst 3, 1) := by decide +kernel
theorem zd101_3 : zop 101 3 = some (.invokestatic 59, 3) := by decide +kernel
theorem zd101_6 : zop 101 6 = some (.ireturn, 1) := by decide +kernel
theorem b101_0 {x : zXs} {F : zF} (hF : zSh F) {d : Nat} {V : Nat → Nat → Int32} {T : Nat → Nat → Int64} {Q : Option Value → zG → Prop} {o0 : Option Value} {l1 : Int32}   (k : E x F d 7 0 [some (.int l1), some (.int (Int32.ofInt 0)), some (.int (Int32.ofInt 3))] [] (V, T) (fun r G' => E x F (d + 1) 101 6 [o0, some (.int l1)] (r.toList ++ []) G' Q)) : E x F (d + 1) 101 0 [o0, some (.int l1)] [] (V, T) Q := by
  refine e_iload_n zd101_0 rfl ?_
  refine e_iconst zd101_1 ?_
  refine e_iconst zd101_2 ?_
  exact e_callS zd101_3 (own := 7) (nest := false) (w := 334) (by decide +kernel) (by decide +kernel) zs7 (as := [.int l1, .int (Int32.ofInt 0), .int (Int32.ofInt 3)]) (rest := []) rfl rfl (Nat.le_of_ble_eq_true rfl) rfl rfl rfl (by omega) k
theorem b101_6 {x : zXs} {F : zF} (hF : zSh F) {d : Nat} {V : Nat → Nat → Int32} {T : Nat → Nat → Int64} {Q : Option Value → zG → Prop} {o0 : Option Value} {o1 : Option Value} {s0 : Int32}  (b1 : narrow .boolean (.int s0) = .int s0) (k : Q (some (.int s0)) (V, T)) : E x F d 101 6 [o0, o1] [.int s0] (V, T) Q := by
  exact e_iretz zd101_6 zs101 b1 k
theorem zd102_0 : zop 102 0 = some (.aload_n 0, 1) := by decide +kernel
theorem zd102_1 : zop 102 1 = some (.getfield 15, 3) := by decide +kernel
theorem zd102_4 : zop 102 4 = some (.iconst (-1), 1) := by decide +kernel
theorem zd102_5 : zop 102 5 = some (.if_icmp .ne 7, 3) := by decide +kernel
theorem zd102_8 : zop 102 8 = some (.iconst 1, 1) := by decide +kernel
theorem zd102_9 : zop 102 9 = some (.goto 4, 3) := by decide +kernel
theorem zd102_12 : zop 102 12 = some (.iconst 0, 1) := by decide +kernel
theorem zd102_13 : zop 102 13 = some (.ireturn, 1) := by decide +kernel
theorem b102_0 {x : zXs} {F : zF} (hF : zSh F) {d : Nat} {V : Nat → Nat → Int32} {T : Nat → Nat → Int64} {Q : Option Value → zG → Prop} {l0 : Nat} (hl0 : zSt4 l0)  (kt : ¬ (V l0 1) = (Int32.ofInt (-1)) → E x F d 102 12 [some (.ref l0)] [] (V, T) Q) (kf : ¬ (¬ (V l0 1) = (Int32.ofInt (-1))) → E x F d 102 8 [some (.ref l0)] [] (V, T) Q) : E x F d 102 0 [some (.ref l0)] [] (V, T) Q := by
  refine e_aload_n zd102_0 rfl rfl ?_
  refine e_getI zd102_1 (own := 3) (ci := 3) (kf := 1) (w := 286) (by decide +kernel) (by decide +kernel) (zSt4_s hF hl0).1 (by decide +kernel) rfl ?_
  refine e_iconst zd102_4 ?_
  exact e_icmp_ne zd102_5 (tg := 12) rfl kt kf
theorem b102_8 {x : zXs} {F : zF} (hF : zSh F) {d : Nat} {V : Nat → Nat → Int32} {T : Nat → Nat → Int64} {Q : Option Value → zG → Prop} {o0 : Option Value}   (k : E x F d 102 13 [o0] [.int (Int32.ofInt 1)] (V, T) Q) : E x F d 102 8 [o0] [] (V, T) Q := by
  refine e_iconst zd102_8 ?_
  exact e_goto zd102_9 (tg := 13) rfl k
theorem b102_12 {x : zXs} {F : zF} (hF : zSh F) {d : Nat} {V : Nat → Nat → Int32} {T : Nat → Nat → Int64} {Q : Option Value → zG → Prop} {o0 : Option Value}   (k : E x F d 102 13 [o0] [.int (Int32.ofInt 0)] (V, T) Q) : E x F d 102 12 [o0] [] (V, T) Q := by
  refine e_iconst zd102_12 ?_
  exact k
theorem b102_13 {x : zXs} {F : zF} (hF : zSh F) {d : Nat} {V : Nat → Nat → Int32} {T : Nat → Nat → Int64} {Q : Option Value → zG → Prop} {o0 : Option Value} {s0 : Int32}  (b1 : narrow .boolean (.int s0) = .int s0) (k : Q (some (.int s0)) (V, T)) : E x F d 102 13 [o0] [.int s0] (V, T) Q := by
  exact e_iretz zd102_13 zs102 b1 k
theorem zd103_0 : zop 103 0 = some (.aload_n 0, 1) := by decide +kernel
theorem zd103_1 : zop 103 1 = some (.getfield 25, 3) := by decide +kernel
theorem zd103_4 : zop 103 4 = some (.aload_n 0, 1) := by decide +kernel
theorem zd103_5 : zop 103 5 = some (.getfield 16, 3) := by decide +kernel
theorem zd103_8 : zop 103 8 = some (.iload_n 2, 1) := by decide +kernel
theorem zd103_9 : zop 103 9 = some (.iload_n 3, 1) := by decide +kernel
theorem zd103_10 : zop 103 10 = some (.invokevirtual 156, 3) := by decide +kernel
theorem zd103_13 : zop 103 13 = some (.pop, 1) := by decide +kernel
theorem zd103_14 : zop 103 14 = some (.iconst 0, 1) := by decide +kernel
theorem zd103_15 : zop 103 15 = some (.istore 4, 2) := by decide +kernel
theorem zd103_17 : zop 103 17 = some (.iload 4, 2) := by decide +kernel
theorem zd103_19 : zop 103 19 = some (.aload_n 1, 1) := by decide +kernel
theorem zd103_20 : zop 103 20 = some (.getfield 216, 3) := by decide +kernel
theorem zd103_23 : zop 103 23 = some (.if_icmp .ge 44, 3) := by decide +kernel
theorem zd103_26 : zop 103 26 = some (.iload 4, 2) := by decide +kernel
theorem zd103_28 : zop 103 28 = some (.aload_n 0, 1) := by decide +kernel
theorem zd103_29 : zop 103 29 = some (.getfield 25, 3) := by decide +kernel
theorem zd103_32 : zop 103 32 = some (.getfield 241, 3) := by decide +kernel
theorem zd103_35 : zop 103 35 = some (.if_icmp .ge 23, 3) := by decide +kernel
theorem zd103_38 : zop 103 38 = some (.aload_n 1, 1) := by decide +kernel
theorem zd103_39 : zop 103 39 = some (.getfield 243, 3) := by decide +kernel
theorem zd103_42 : zop 103 42 = some (.iload 4, 2) := by decide +kernel
theorem zd103_44 : zop 103 44 = some (.iaload, 1) := by decide +kernel
theorem zd103_45 : zop 103 45 = some (.aload_n 0, 1) := by decide +kernel
theorem zd103_46 : zop 103 46 = some (.getfield 25, 3) := by decide +kernel
theorem zd103_49 : zop 103 49 = some (.getfield 246, 3) := by decide +kernel
theorem zd103_52 : zop 103 52 = some (.iload 4, 2) := by decide +kernel
theorem zd103_54 : zop 103 54 = some (.iaload, 1) := by decide +kernel
theorem zd103_55 : zop 103 55 = some (.if_icmp .eq 6, 3) := by decide +kernel
theorem zd103_58 : zop 103 58 = some (.iload 4, 2) := by decide +kernel
theorem zd103_60 : zop 103 60 = some (.ireturn, 1) := by decide +kernel
theorem zd103_61 : zop 103 61 = some (.iinc 4 1, 3) := by decide +kernel
theorem zd103_64 : zop 103 64 = some (.goto (-47), 3) := by decide +kernel
theorem zd103_67 : zop 103 67 = some (.iconst (-1), 1) := by decide +kernel
theorem zd103_68 : zop 103 68 = some (.ireturn, 1) := by decide +kernel
theorem b103_0 {x : zXs} {F : zF} (hF : zSh F) {d : Nat} {V : Nat → Nat → Int32} {T : Nat → Nat → Int64} {Q : Option Value → zG → Prop} {o1 : Option Value} {l2 : Int32} {l3 : Int32} {o4 : Option Value}   (k : E x F d 74 0 [some (.ref 19), some (.ref 7), some (.int l2), some (.int l3), none, none, none, none, none, none, none, none, none, none] [] (V, T) (fun r G' => E x F (d + 1) 103 13 [some (.ref 0), o1, some (.int l2), some (.int l3), o4] (r.toList ++ []) G' Q)) : E x F (d + 1) 103 0 [some (.ref 0), o1, some (.int l2), some (.int l3), o4] [] (V, T) Q := by
  refine e_aload_n zd103_0 rfl rfl ?_
  refine e_getO zd103_1 (own := 7) (ci := 7) (kf := 3) (w := 300) (by decide +kernel) (by decide +kernel) (zsh_at hF rfl).1 (by decide +kernel) rfl (zrf_at hF (i := 3) rfl) ?_
  refine e_aload_n zd103_4 rfl rfl ?_
  refine e_getO zd103_5 (own := 7) (ci := 7) (kf := 1) (w := 298) (by decide +kernel) (by decide +kernel) (zsh_at hF rfl).1 (by decide +kernel) rfl (zrf_at hF (i := 1) rfl) ?_
  refine e_iload_n zd103_8 rfl ?_
  refine e_iload_n zd103_9 rfl ?_
  exact e_callV zd103_10 (own := 7) (nest := false) (w := 618) (by decide +kernel) (by decide +kernel) zs74 (as := [.ref 7, .int l2, .int l3]) (rest := []) rfl rfl (zsh_at hF rfl).1 (by omega) (Nat.le_of_ble_eq_true rfl) rfl rfl rfl (by omega) k
theorem b103_13 {x : zXs} {F : zF} (hF : zSh F) {d : Nat} {V : Nat → Nat → Int32} {T : Nat → Nat → Int64} {Q : Option Value → zG → Prop} {o0 : Option Value} {o1 : Option Value} {o2 : Option Value} {o3 : Option Value} {o4 : Option Value} {s0 : Int32}   (k : E x F d 103 17 [o0, o1, o2, o3, some (.int (Int32.ofInt 0))] [] (V, T) Q) : E x F d 103 13 [o0, o1, o2, o3, o4] [.int s0] (V, T) Q := by
  refine e_pop zd103_13 rfl ?_
  refine e_iconst zd103_14 ?_
  refine e_istore zd103_15 (by decide +kernel) (Nat.le_of_ble_eq_true rfl) ?_
  exact k
theorem b103_17 {x : zXs} {F : zF} (hF : zSh F) {d : Nat} {V : Nat → Nat → Int32} {T : Nat → Nat → Int64} {Q : Option Value → zG → Prop} {o0 : Option Value} {l1 : Nat} {o2 : Option Value} {o3 : Option Value} {l4 : Int32} (hl1 : zSt4 l1)  (kt : (V l1 2) ≤ l4 → E x F d 103 67 [o0, some (.ref l1), o2, o3, some (.int l4)] [] (V, T) Q) (kf : ¬ ((V l1 2) ≤ l4) → E x F d 103 26 [o0, some (.ref l1), o2, o3, some (.int l4)] [] (V, T) Q) : E x F d 103 17 [o0, some (.ref l1), o2, o3, some (.int l4)] [] (V, T) Q := by
  refine e_iload zd103_17 rfl ?_
  refine e_aload_n zd103_19 rfl rfl ?_
  refine e_getI zd103_20 (own := 7) (ci := 3) (kf := 2) (w := 289) (by decide +kernel) (by decide +kernel) (zSt4_s hF hl1).1 (by decide +kernel) rfl ?_
  exact e_icmp_ge zd103_23 (tg := 67) rfl kt kf
theorem b103_26 {x : zXs} {F : zF} (hF : zSh F) {d : Nat} {V : Nat → Nat → Int32} {T : Nat → Nat → Int64} {Q : Option Value → zG → Prop} {o1 : Option Value} {o2 : Option Value} {o3 : Option Value} {l4 : Int32}   (kt : (V 19 2) ≤ l4 → E x F d 103 58 [some (.ref 0), o1, o2, o3, some (.int l4)] [] (V, T) Q) (kf : ¬ ((V 19 2) ≤ l4) → E x F d 103 38 [some (.ref 0), o1, o2, o3, some (.int l4)] [] (V, T) Q) : E x F d 103 26 [some (.ref 0), o1, o2, o3, some (.int l4)] [] (V, T) Q := by
  refine e_iload zd103_26 rfl ?_
  refine e_aload_n zd103_28 rfl rfl ?_
  refine e_getO zd103_29 (own := 7) (ci := 7) (kf := 3) (w := 300) (by decide +kernel) (by decide +kernel) (zsh_at hF rfl).1 (by decide +kernel) rfl (zrf_at hF (i := 3) rfl) ?_
  refine e_getI zd103_32 (own := 7) (ci := 0) (kf := 2) (w := 216) (by decide +kernel) (by decide +kernel) (zsh_at hF rfl).1 (by decide +kernel) rfl ?_
  exact e_icmp_ge zd103_35 (tg := 58) rfl kt kf
theorem b103_38 {x : zXs} {F : zF} (hF : zSh F) {d : Nat} {V : Nat → Nat → Int32} {T : Nat → Nat → Int64} {Q : Option Value → zG → Prop} {l1 : Nat} {o2 : Option Value} {o3 : Option Value} {l4 : Int32} (hl1 : zSt4 l1) {i1 : Nat} (e1 : l4 = nI i1) (h1 : i1 < 40) {i2 : Nat} (e2 : l4 = nI i2) (h2 : i2 < 12) (kt : (V (l1 + 1) i1) = (V 42 i2) → E x F d 103 61 [some (.ref 0), some (.ref l1), o2, o3, some (.int l4)] [] (V, T) Q) (kf : ¬ ((V (l1 + 1) i1) = (V 42 i2)) → E x F d 103 58 [some (.ref 0), some (.ref l1), o2, o3, some (.int l4)] [] (V, T) Q) : E x F d 103 38 [some (.ref 0), some (.ref l1), o2, o3, some (.int l4)] [] (V, T) Q := by
  refine e_aload_n zd103_38 rfl rfl ?_
  refine e_getA zd103_39 (own := 7) (ci := 3) (kf := 0) (w := 285) (by decide +kernel) (by decide +kernel) (zSt4_s hF hl1).1 (by decide +kernel) rfl (zSt4_f0 hF hl1) ?_
  refine e_iload zd103_42 rfl ?_
  refine e_iald zd103_44 (i := i1) (zSt4_a0 hF hl1) e1 h1 (by omega) ?_
  refine e_aload_n zd103_45 rfl rfl ?_
  refine e_getO zd103_46 (own := 7) (ci := 7) (kf := 3) (w := 300) (by decide +kernel) (by decide +kernel) (zsh_at hF rfl).1 (by decide +kernel) rfl (zrf_at hF (i := 3) rfl) ?_
  refine e_getA zd103_49 (own := 7) (ci := 0) (kf := 1) (w := 214) (by decide +kernel) (by decide +kernel) (zsh_at hF rfl).1 (by decide +kernel) rfl (zrf_at hF (i := 24) rfl) ?_
  refine e_iload zd103_52 rfl ?_
  refine e_iald zd103_54 (i := i2) (zsh_at hF rfl) e2 h2 (by omega) ?_
  exact e_icmp_eq zd103_55 (tg := 61) rfl kt kf
theorem b103_58 {x : zXs} {F : zF} (hF : zSh F) {d : Nat} {V : Nat → Nat → Int32} {T : Nat → Nat → Int64} {Q : Option Value → zG → Prop} {o0 : Option Value} {o1 : Option Value} {o2 : Option Value} {o3 : Option Value} {l4 : Int32}   (k : Q (some (.int l4)) (V, T)) : E x F d 103 58 [o0, o1, o2, o3, some (.int l4)] [] (V, T) Q := by
  refine e_iload zd103_58 rfl ?_
  exact e_ireti zd103_60 zs103 k
theorem b103_61 {x : zXs} {F : zF} (hF : zSh F) {d : Nat} {V : Nat → Nat → Int32} {T : Nat → Nat → Int64} {Q : Option Value → zG → Prop} {o0 : Option Value} {o1 : Option Value} {o2 : Option Value} {o3 : Option Value} {l4 : Int32}   (k : E x F d 103 17 [o0, o1, o2, o3, some (.int (l4 + Int32.ofInt 1))] [] (V, T) Q) : E x F d 103 61 [o0, o1, o2, o3, some (.int l4)] [] (V, T) Q := by
  refine e_iinc zd103_61 rfl (by decide +kernel) ?_
  exact e_goto zd103_64 (tg := 17) rfl k
theorem b103_67 {x : zXs} {F : zF} (hF : zSh F) {d : Nat} {V : Nat → Nat → Int32} {T : Nat → Nat → Int64} {Q : Option Value → zG → Prop} {o0 : Option Value} {o1 : Option Value} {o2 : Option Value} {o3 : Option Value} {o4 : Option Value}   (k : Q (some (.int (Int32.ofInt (-1)))) (V, T)) : E x F d 103 67 [o0, o1, o2, o3, o4] [] (V, T) Q := by
  refine e_iconst zd103_67 ?_
  exact e_ireti zd103_68 zs103 k
theorem zd104_0 : zop 104 0 = some (.iconst 0, 1) := by decide +kernel
theorem zd104_1 : zop 104 1 = some (.istore 4, 2) := by decide +kernel
theorem zd104_3 : zop 104 3 = some (.iconst 0, 1) := by decide +kernel
theorem zd104_4 : zop 104 4 = some (.istore 5, 2) := by decide +kernel
theorem zd104_6 : zop 104 6 = some (.iload 5, 2) := by decide +kernel
theorem zd104_8 : zop 104 8 = some (.bipush 6, 2) := by decide +kernel
theorem zd104_10 : zop 104 10 = some (.if_icmp .ge 57, 3) := by decide +kernel
theorem zd104_13 : zop 104 13 = some (.aload_n 0, 1) := by decide +kernel
theorem zd104_14 : zop 104 14 = some (.getfield 16, 3) := by decide +kernel
theorem zd104_17 : zop 104 17 = some (.aload_n 0, 1) := by decide +kernel
theorem zd104_18 : zop 104 18 = some (.getfield 10, 3) := by decide +kernel
theorem zd104_21 : zop 104 21 = some (.invokevirtual 178, 3) := by decide +kernel
theorem zd104_24 : zop 104 24 = some (.aload_n 0, 1) := by decide +kernel
theorem zd104_25 : zop 104 25 = some (.getfield 16, 3) := by decide +kernel
theorem zd104_28 : zop 104 28 = some (.getfield 104, 3) := by decide +kernel
theorem zd104_31 : zop 104 31 = some (.iload_n 2, 1) := by decide +kernel
theorem zd104_32 : zop 104 32 = some (.iload 5, 2) := by decide +kernel
theorem zd104_34 : zop 104 34 = some (.iastore, 1) := by decide +kernel
theorem zd104_35 : zop 104 35 = some (.iload 4, 2) := by decide +kernel
theorem zd104_37 : zop 104 37 = some (.aload_n 0, 1) := by decide +kernel
theorem zd104_38 : zop 104 38 = some (.aload_n 1, 1) := by decide +kernel
theorem zd104_39 : zop 104 39 = some (.iload_n 2, 1) := by decide +kernel
theorem zd104_40 : zop 104 40 = some (.iload_n 3, 1) := by decide +kernel
theorem zd104_41 : zop 104 41 = some (.invokevirtual 217, 3) := by decide +kernel
theorem zd104_44 : zop 104 44 = some (.iconst (-1), 1) := by decide +kernel
theorem zd104_45 : zop 104 45 = some (.if_icmp .ne 7, 3) := by decide +kernel
theorem zd104_48 : zop 104 48 = some (.iconst 1, 1) := by decide +kernel
theorem zd104_49 : zop 104 49 = some (.goto 4, 3) := by decide +kernel
theorem zd104_52 : zop 104 52 = some (.iconst 0, 1) := by decide +kernel
theorem zd104_53 : zop 104 53 = some (.iload 5, 2) := by decide +kernel
theorem zd104_55 : zop 104 55 = some (.invokestatic 249, 3) := by decide +kernel
theorem zd104_58 : zop 104 58 = some (.ior, 1) := by decide +kernel
theorem zd104_59 : zop 104 59 = some (.istore 4, 2) := by decide +kernel
theorem zd104_61 : zop 104 61 = some (.iinc 5 1, 3) := by decide +kernel
theorem zd104_64 : zop 104 64 = some (.goto (-58), 3) := by decide +kernel
theorem zd104_67 : zop 104 67 = some (.iload 4, 2) := by decide +kernel
theorem zd104_69 : zop 104 69 = some (.ireturn, 1) := by decide +kernel
theorem b104_0 {x : zXs} {F : zF} (hF : zSh F) {d : Nat} {V : Nat → Nat → Int32} {T : Nat → Nat → Int64} {Q : Option Value → zG → Prop} {o0 : Option Value} {o1 : Option Value} {o2 : Option Value} {o3 : Option Value} {o4 : Option Value} {o5 : Option Value}   (k : E x F d 104 6 [o0, o1, o2, o3, some (.int (Int32.ofInt 0)), some (.int (Int32.ofInt 0))] [] (V, T) Q) : E x F d 104 0 [o0, o1, o2, o3, o4, o5] [] (V, T) Q := by
  refine e_iconst zd104_0 ?_
  refine e_istore zd104_1 (by decide +kernel) (Nat.le_of_ble_eq_true rfl) ?_
  refine e_iconst zd104_3 ?_
  refine e_istore zd104_4 (by decide +kernel) (Nat.le_of_ble_eq_true rfl) ?_
  exact k
theorem b104_6 {x : zXs} {F : zF} (hF : zSh F) {d : Nat} {V : Nat → Nat → Int32} {T : Nat → Nat → Int64} {Q : Option Value → zG → Prop} {o0 : Option Value} {o1 : Option Value} {o2 : Option Value} {o3 : Option Value} {o4 : Option Value} {l5 : Int32}   (kt : (Int32.ofInt 6) ≤ l5 → E x F d 104 67 [o0, o1, o2, o3, o4, some (.int l5)] [] (V, T) Q) (kf : ¬ ((Int32.ofInt 6) ≤ l5) → E x F d 104 13 [o0, o1, o2, o3, o4, some (.int l5)] [] (V, T) Q) : E x F d 104 6 [o0, o1, o2, o3, o4, some (.int l5)] [] (V, T) Q := by
  refine e_iload zd104_6 rfl ?_
  refine e_bipush zd104_8 (v := Int32.ofInt 6) (by decide +kernel) ?_
  exact e_icmp_ge zd104_10 (tg := 67) rfl kt kf
theorem b104_13 {x : zXs} {F : zF} (hF : zSh F) {d : Nat} {V : Nat → Nat → Int32} {T : Nat → Nat → Int64} {Q : Option Value → zG → Prop} {o1 : Option Value} {o2 : Option Value} {o3 : Option Value} {o4 : Option Value} {o5 : Option Value}   (k : E x F d 83 0 [some (.ref 7), some (.ref 1)] [] (V, T) (fun r G' => E x F (d + 1) 104 24 [some (.ref 0), o1, o2, o3, o4, o5] (r.toList ++ []) G' Q)) : E x F (d + 1) 104 13 [some (.ref 0), o1, o2, o3, o4, o5] [] (V, T) Q := by
  refine e_aload_n zd104_13 rfl rfl ?_
  refine e_getO zd104_14 (own := 7) (ci := 7) (kf := 1) (w := 298) (by decide +kernel) (by decide +kernel) (zsh_at hF rfl).1 (by decide +kernel) rfl (zrf_at hF (i := 1) rfl) ?_
  refine e_aload_n zd104_17 rfl rfl ?_
  refine e_getO zd104_18 (own := 7) (ci := 7) (kf := 0) (w := 297) (by decide +kernel) (by decide +kernel) (zsh_at hF rfl).1 (by decide +kernel) rfl (zrf_at hF (i := 0) rfl) ?_
  exact e_callV zd104_21 (own := 7) (nest := false) (w := 666) (by decide +kernel) (by decide +kernel) zs83 (as := [.ref 1]) (rest := []) rfl rfl (zsh_at hF rfl).1 (by omega) (Nat.le_of_ble_eq_true rfl) rfl rfl rfl (by omega) k
theorem b104_24 {x : zXs} {F : zF} (hF : zSh F) {d : Nat} {V : Nat → Nat → Int32} {T : Nat → Nat → Int64} {Q : Option Value → zG → Prop} {l1 : Nat} {l2 : Int32} {l3 : Int32} {l4 : Int32} {l5 : Int32} (hl1 : zSt4 l1) {i1 : Nat} (e1 : l2 = nI i1) (h1 : i1 < 5) (k : E x F d 103 0 [some (.ref 0), some (.ref l1), some (.int l2), some (.int l3), none] [] (zu V 10 i1 l5, T) (fun r G' => E x F (d + 1) 104 44 [some (.ref 0), some (.ref l1), some (.int l2), some (.int l3), some (.int l4), some (.int l5)] (r.toList ++ [.int l4]) G' Q)) : E x F (d + 1) 104 24 [some (.ref 0), some (.ref l1), some (.int l2), some (.int l3), some (.int l4), some (.int l5)] [] (V, T) Q := by
  refine e_aload_n zd104_24 rfl rfl ?_
  refine e_getO zd104_25 (own := 7) (ci := 7) (kf := 1) (w := 298) (by decide +kernel) (by decide +kernel) (zsh_at hF rfl).1 (by decide +kernel) rfl (zrf_at hF (i := 1) rfl) ?_
  refine e_getA zd104_28 (own := 7) (ci := 4) (kf := 2) (w := 118) (by decide +kernel) (by decide +kernel) (zsh_at hF rfl).1 (by decide +kernel) rfl (zrf_at hF (i := 15) rfl) ?_
  refine e_iload_n zd104_31 rfl ?_
  refine e_iload zd104_32 rfl ?_
  refine e_iast zd104_34 (i := i1) (zsh_at hF rfl) e1 h1 (by omega) ?_
  refine e_iload zd104_35 rfl ?_
  refine e_aload_n zd104_37 rfl rfl ?_
  refine e_aload_n zd104_38 rfl rfl ?_
  refine e_iload_n zd104_39 rfl ?_
  refine e_iload_n zd104_40 rfl ?_
  exact e_callV zd104_41 (own := 7) (nest := false) (w := 746) (by decide +kernel) (by decide +kernel) zs103 (as := [.ref l1, .int l2, .int l3]) (rest := [.int l4]) rfl rfl (zsh_at hF rfl).1 (by omega) (Nat.le_of_ble_eq_true rfl) rfl rfl rfl (by omega) k
theorem b104_44 {x : zXs} {F : zF} (hF : zSh F) {d : Nat} {V : Nat → Nat → Int32} {T : Nat → Nat → Int64} {Q : Option Value → zG → Prop} {o0 : Option Value} {o1 : Option Value} {o2 : Option Value} {o3 : Option Value} {o4 : Option Value} {o5 : Option Value} {s0 : Int32} {s1 : Int32}   (kt : ¬ s1 = (Int32.ofInt (-1)) → E x F d 104 52 [o0, o1, o2, o3, o4, o5] [.int s0] (V, T) Q) (kf : ¬ (¬ s1 = (Int32.ofInt (-1))) → E x F d 104 48 [o0, o1, o2, o3, o4, o5] [.int s0] (V, T) Q) : E x F d 104 44 [o0, o1, o2, o3, o4, o5] [.int s1, .int s0] (V, T) Q := by
  refine e_iconst zd104_44 ?_
  exact e_icmp_ne zd104_45 (tg := 52) rfl kt kf
theorem b104_48 {x : zXs} {F : zF} (hF : zSh F) {d : Nat} {V : Nat → Nat → Int32} {T : Nat → Nat → Int64} {Q : Option Value → zG → Prop} {o0 : Option Value} {o1 : Option Value} {o2 : Option Value} {o3 : Option Value} {o4 : Option Value} {o5 : Option Value} {s0 : Int32}   (k : E x F d 104 53 [o0, o1, o2, o3, o4, o5] [.int (Int32.ofInt 1), .int s0] (V, T) Q) : E x F d 104 48 [o0, o1, o2, o3, o4, o5] [.int s0] (V, T) Q := by
  refine e_iconst zd104_48 ?_
  exact e_goto zd104_49 (tg := 53) rfl k
theorem b104_52 {x : zXs} {F : zF} (hF : zSh F) {d : Nat} {V : Nat → Nat → Int32} {T : Nat → Nat → Int64} {Q : Option Value → zG → Prop} {o0 : Option Value} {o1 : Option Value} {o2 : Option Value} {o3 : Option Value} {o4 : Option Value} {o5 : Option Value} {s0 : Int32}   (k : E x F d 104 53 [o0, o1, o2, o3, o4, o5] [.int (Int32.ofInt 0), .int s0] (V, T) Q) : E x F d 104 52 [o0, o1, o2, o3, o4, o5] [.int s0] (V, T) Q := by
  refine e_iconst zd104_52 ?_
  exact k
theorem b104_53 {x : zXs} {F : zF} (hF : zSh F) {d : Nat} {V : Nat → Nat → Int32} {T : Nat → Nat → Int64} {Q : Option Value → zG → Prop} {o0 : Option Value} {o1 : Option Value} {o2 : Option Value} {o3 : Option Value} {o4 : Option Value} {l5 : Int32} {s0 : Int32} {s1 : Int32}   (k : E x F d 105 0 [some (.int s1), some (.int l5)] [] (V, T) (fun r G' => E x F (d + 1) 104 58 [o0, o1, o2, o3, o4, some (.int l5)] (r.toList ++ [.int s0]) G' Q)) : E x F (d + 1) 104 53 [o0, o1, o2, o3, o4, some (.int l5)] [.int s1, .int s0] (V, T) Q := by
  refine e_iload zd104_53 rfl ?_
  exact e_callS zd104_55 (own := 7) (nest := false) (w := 754) (by decide +kernel) (by decide +kernel) zs105 (as := [.int s1, .int l5]) (rest := [.int s0]) rfl rfl (Nat.le_of_ble_eq_true rfl) rfl rfl rfl (by omega) k
theorem b104_58 {x : zXs} {F : zF} (hF : zSh F) {d : Nat} {V : Nat → Nat → Int32} {T : Nat → Nat → Int64} {Q : Option Value → zG → Prop} {o0 : Option Value} {o1 : Option Value} {o2 : Option Value} {o3 : Option Value} {o4 : Option Value} {l5 : Int32} {s0 : Int32} {s1 : Int32}   (k : E x F d 104 6 [o0, o1, o2, o3, some (.int (s0 ||| s1)), some (.int (l5 + Int32.ofInt 1))] [] (V, T) Q) : E x F d 104 58 [o0, o1, o2, o3, o4, some (.int l5)] [.int s1, .int s0] (V, T) Q := by
  refine e_ior zd104_58 ?_
  refine e_istore zd104_59 (by decide +kernel) (Nat.le_of_ble_eq_true rfl) ?_
  refine e_iinc zd104_61 rfl (by decide +kernel) ?_
  exact e_goto zd104_64 (tg := 6) rfl k
theorem b104_67 {x : zXs} {F : zF} (hF : zSh F) {d : Nat} {V : Nat → Nat → Int32} {T : Nat → Nat → Int64} {Q : Option Value → zG → Prop} {o0 : Option Value} {o1 : Option Value} {o2 : Option Value} {o3 : Option Value} {l4 : Int32} {o5 : Option Value}   (k : Q (some (.int l4)) (V, T)) : E x F d 104 67 [o0, o1, o2, o3, some (.int l4), o5] [] (V, T) Q := by
  refine e_iload zd104_67 rfl ?_
  exact e_ireti zd104_69 zs104 k
theorem zd105_0 : zop 105 0 = some (.iload_n 0, 1) := by decide +kernel
theorem zd105_1 : zop 105 1 = some (.ifCond .eq 9, 3) := by decide +kernel
theorem zd105_4 : zop 105 4 = some (.iconst 1, 1) := by decide +kernel
theorem zd105_5 : zop 105 5 = some (.iload_n 1, 1) := by decide +kernel
theorem zd105_6 : zop 105 6 = some (.ishl, 1) := by decide +kernel
theorem zd105_7 : zop 105 7 = some (.goto 4, 3) := by decide +kernel
theorem zd105_10 : zop 105 10 = some (.iconst 0, 1) := by decide +kernel
theorem zd105_11 : zop 105 11 = some (.ireturn, 1) := by decide +kernel
theorem b105_0 {x : zXs} {F : zF} (hF : zSh F) {d : Nat} {V : Nat → Nat → Int32} {T : Nat → Nat → Int64} {Q : Option Value → zG → Prop} {l0 : Int32} {o1 : Option Value}   (kt : l0 = 0 → E x F d 105 10 [some (.int l0), o1] [] (V, T) Q) (kf : ¬ (l0 = 0) → E x F d 105 4 [some (.int l0), o1] [] (V, T) Q) : E x F d 105 0 [some (.int l0), o1] [] (V, T) Q := by
  refine e_iload_n zd105_0 rfl ?_
  exact e_if_eq zd105_1 (tg := 10) rfl kt kf
theorem b105_4 {x : zXs} {F : zF} (hF : zSh F) {d : Nat} {V : Nat → Nat → Int32} {T : Nat → Nat → Int64} {Q : Option Value → zG → Prop} {o0 : Option Value} {l1 : Int32}   (k : E x F d 105 11 [o0, some (.int l1)] [.int ((Int32.ofInt 1) <<< (l1 &&& 31))] (V, T) Q) : E x F d 105 4 [o0, some (.int l1)] [] (V, T) Q := by
  refine e_iconst zd105_4 ?_
  refine e_iload_n zd105_5 rfl ?_
  refine e_ishl zd105_6 ?_
  exact e_goto zd105_7 (tg := 11) rfl k
theorem b105_10 {x : zXs} {F : zF} (hF : zSh F) {d : Nat} {V : Nat → Nat → Int32} {T : Nat → Nat → Int64} {Q : Option Value → zG → Prop} {o0 : Option Value} {o1 : Option Value}   (k : E x F d 105 11 [o0, o1] [.int (Int32.ofInt 0)] (V, T) Q) : E x F d 105 10 [o0, o1] [] (V, T) Q := by
  refine e_iconst zd105_10 ?_
  exact k
theorem b105_11 {x : zXs} {F : zF} (hF : zSh F) {d : Nat} {V : Nat → Nat → Int32} {T : Nat → Nat → Int64} {Q : Option Value → zG → Prop} {o0 : Option Value} {o1 : Option Value} {s0 : Int32}   (k : Q (some (.int s0)) (V, T)) : E x F d 105 11 [o0, o1] [.int s0] (V, T) Q := by
  exact e_ireti zd105_11 zs105 k
theorem zd106_0 : zop 106 0 = some (.iconst 0, 1) := by decide +kernel
theorem zd106_1 : zop 106 1 = some (.istore 4, 2) := by decide +kernel
theorem zd106_3 : zop 106 3 = some (.iconst 0, 1) := by decide +kernel
theorem zd106_4 : zop 106 4 = some (.istore 5, 2) := by decide +kernel
theorem zd106_6 : zop 106 6 = some (.iload 5, 2) := by decide +kernel
theorem zd106_8 : zop 106 8 = some (.bipush 9, 2) := by decide +kernel
theorem zd106_10 : zop 106 10 = some (.if_icmp .gt 57, 3) := by decide +kernel
theorem zd106_13 : zop 106 13 = some (.aload_n 0, 1) := by decide +kernel
theorem zd106_14 : zop 106 14 = some (.getfield 16, 3) := by decide +kernel
theorem zd106_17 : zop 106 17 = some (.aload_n 0, 1) := by decide +kernel
theorem zd106_18 : zop 106 18 = some (.getfield 10, 3) := by decide +kernel
theorem zd106_21 : zop 106 21 = some (.invokevirtual 178, 3) := by decide +kernel
theorem zd106_24 : zop 106 24 = some (.aload_n 0, 1) := by decide +kernel
theorem zd106_25 : zop 106 25 = some (.getfield 16, 3) := by decide +kernel
theorem zd106_28 : zop 106 28 = some (.getfield 77, 3) := by decide +kernel
theorem zd106_31 : zop 106 31 = some (.iload_n 2, 1) := by decide +kernel
theorem zd106_32 : zop 106 32 = some (.iload 5, 2) := by decide +kernel
theorem zd106_34 : zop 106 34 = some (.iastore, 1) := by decide +kernel
theorem zd106_35 : zop 106 35 = some (.iload 4, 2) := by decide +kernel
theorem zd106_37 : zop 106 37 = some (.aload_n 0, 1) := by decide +kernel
theorem zd106_38 : zop 106 38 = some (.aload_n 1, 1) := by decide +kernel
theorem zd106_39 : zop 106 39 = some (.iload_n 2, 1) := by decide +kernel
theorem zd106_40 : zop 106 40 = some (.iload_n 3, 1) := by decide +kernel
theorem zd106_41 : zop 106 41 = some (.invokevirtual 217, 3) := by decide +kernel
theorem zd106_44 : zop 106 44 = some (.iconst (-1), 1) := by decide +kernel
theorem zd106_45 : zop 106 45 = some (.if_icmp .ne 7, 3) := by decide +kernel
theorem zd106_48 : zop 106 48 = some (.iconst 1, 1) := by decide +kernel
theorem zd106_49 : zop 106 49 = some (.goto 4, 3) := by decide +kernel
theorem zd106_52 : zop 106 52 = some (.iconst 0, 1) := by decide +kernel
theorem zd106_53 : zop 106 53 = some (.iload 5, 2) := by decide +kernel
theorem zd106_55 : zop 106 55 = some (.invokestatic 249, 3) := by decide +kernel
theorem zd106_58 : zop 106 58 = some (.ior, 1) := by decide +kernel
theorem zd106_59 : zop 106 59 = some (.istore 4, 2) := by decide +kernel
theorem zd106_61 : zop 106 61 = some (.iinc 5 1, 3) := by decide +kernel
theorem zd106_64 : zop 106 64 = some (.goto (-58), 3) := by decide +kernel
theorem zd106_67 : zop 106 67 = some (.iload 4, 2) := by decide +kernel
theorem zd106_69 : zop 106 69 = some (.ireturn, 1) := by decide +kernel
theorem b106_0 {x : zXs} {F : zF} (hF : zSh F) {d : Nat} {V : Nat → Nat → Int32} {T : Nat → Nat → Int64} {Q : Option Value → zG → Prop} {o0 : Option Value} {o1 : Option Value} {o2 : Option Value} {o3 : Option Value} {o4 : Option Value} {o5 : Option Value}   (k : E x F d 106 6 [o0, o1, o2, o3, some (.int (Int32.ofInt 0)), some (.int (Int32.ofInt 0))] [] (V, T) Q) : E x F d 106 0 [o0, o1, o2, o3, o4, o5] [] (V, T) Q := by
  refine e_iconst zd106_0 ?_
  refine e_istore zd106_1 (by decide +kernel) (Nat.le_of_ble_eq_true rfl) ?_
  refine e_iconst zd106_3 ?_
  refine e_istore zd106_4 (by decide +kernel) (Nat.le_of_ble_eq_true rfl) ?_
  exact k
theorem b106_6 {x : zXs} {F : zF} (hF : zSh F) {d : Nat} {V : Nat → Nat → Int32} {T : Nat → Nat → Int64} {Q : Option Value → zG → Prop} {o0 : Option Value} {o1 : Option Value} {o2 : Option Value} {o3 : Option Value} {o4 : Option Value} {l5 : Int32}   (kt : (Int32.ofInt 9) < l5 → E x F d 106 67 [o0, o1, o2, o3, o4, some (.int l5)] [] (V, T) Q) (kf : ¬ ((Int32.ofInt 9) < l5) → E x F d 106 13 [o0, o1, o2, o3, o4, some (.int l5)] [] (V, T) Q) : E x F d 106 6 [o0, o1, o2, o3, o4, some (.int l5)] [] (V, T) Q := by
  refine e_iload zd106_6 rfl ?_
  refine e_bipush zd106_8 (v := Int32.ofInt 9) (by decide +kernel) ?_
  exact e_icmp_gt zd106_10 (tg := 67) rfl kt kf
theorem b106_13 {x : zXs} {F : zF} (hF : zSh F) {d : Nat} {V : Nat → Nat → Int32} {T : Nat → Nat → Int64} {Q : Option Value → zG → Prop} {o1 : Option Value} {o2 : Option Value} {o3 : Option Value} {o4 : Option Value} {o5 : Option Value}   (k : E x F d 83 0 [some (.ref 7), some (.ref 1)] [] (V, T) (fun r G' => E x F (d + 1) 106 24 [some (.ref 0), o1, o2, o3, o4, o5] (r.toList ++ []) G' Q)) : E x F (d + 1) 106 13 [some (.ref 0), o1, o2, o3, o4, o5] [] (V, T) Q := by
  refine e_aload_n zd106_13 rfl rfl ?_
  refine e_getO zd106_14 (own := 7) (ci := 7) (kf := 1) (w := 298) (by decide +kernel) (by decide +kernel) (zsh_at hF rfl).1 (by decide +kernel) rfl (zrf_at hF (i := 1) rfl) ?_
  refine e_aload_n zd106_17 rfl rfl ?_
  refine e_getO zd106_18 (own := 7) (ci := 7) (kf := 0) (w := 297) (by decide +kernel) (by decide +kernel) (zsh_at hF rfl).1 (by decide +kernel) rfl (zrf_at hF (i := 0) rfl) ?_
  exact e_callV zd106_21 (own := 7) (nest := false) (w := 666) (by decide +kernel) (by decide +kernel) zs83 (as := [.ref 1]) (rest := []) rfl rfl (zsh_at hF rfl).1 (by omega) (Nat.le_of_ble_eq_true rfl) rfl rfl rfl (by omega) k
theorem b106_24 {x : zXs} {F : zF} (hF : zSh F) {d : Nat} {V : Nat → Nat → Int32} {T : Nat → Nat → Int64} {Q : Option Value → zG → Prop} {l1 : Nat} {l2 : Int32} {l3 : Int32} {l4 : Int32} {l5 : Int32} (hl1 : zSt4 l1) {i1 : Nat} (e1 : l2 = nI i1) (h1 : i1 < 5) (k : E x F d 103 0 [some (.ref 0), some (.ref l1), some (.int l2), some (.int l3), none] [] (zu V 11 i1 l5, T) (fun r G' => E x F (d + 1) 106 44 [some (.ref 0), some (.ref l1), some (.int l2), some (.int l3), some (.int l4), some (.int l5)] (r.toList ++ [.int l4]) G' Q)) : E x F (d + 1) 106 24 [some (.ref 0), some (.ref l1), some (.int l2), some (.int l3), some (.int l4), some (.int l5)] [] (V, T) Q := by
  refine e_aload_n zd106_24 rfl rfl ?_
  refine e_getO zd106_25 (own := 7) (ci := 7) (kf := 1) (w := 298) (by decide +kernel) (by decide +kernel) (zsh_at hF rfl).1 (by decide +kernel) rfl (zrf_at hF (i := 1) rfl) ?_
  refine e_getA zd106_28 (own := 7) (ci := 4) (kf := 3) (w := 121) (by decide +kernel) (by decide +kernel) (zsh_at hF rfl).1 (by decide +kernel) rfl (zrf_at hF (i := 16) rfl) ?_
  refine e_iload_n zd106_31 rfl ?_
  refine e_iload zd106_32 rfl ?_
  refine e_iast zd106_34 (i := i1) (zsh_at hF rfl) e1 h1 (by omega) ?_
  refine e_iload zd106_35 rfl ?_
  refine e_aload_n zd106_37 rfl rfl ?_
  refine e_aload_n zd106_38 rfl rfl ?_
  refine e_iload_n zd106_39 rfl ?_
  refine e_iload_n zd106_40 rfl ?_
  exact e_callV zd106_41 (own := 7) (nest := false) (w := 746) (by decide +kernel) (by decide +kernel) zs103 (as := [.ref l1, .int l2, .int l3]) (rest := [.int l4]) rfl rfl (zsh_at hF rfl).1 (by omega) (Nat.le_of_ble_eq_true rfl) rfl rfl rfl (by omega) k
theorem b106_44 {x : zXs} {F : zF} (hF : zSh F) {d : Nat} {V : Nat → Nat → Int32} {T : Nat → Nat → Int64} {Q : Option Value → zG → Prop} {o0 : Option Value} {o1 : Option Value} {o2 : Option Value} {o3 : Option Value} {o4 : Option Value} {o5 : Option Value} {s0 : Int32} {s1 : Int32}   (kt : ¬ s1 = (Int32.ofInt (-1)) → E x F d 106 52 [o0, o1, o2, o3, o4, o5] [.int s0] (V, T) Q) (kf : ¬ (¬ s1 = (Int32.ofInt (-1))) → E x F d 106 48 [o0, o1, o2, o3, o4, o5] [.int s0] (V, T) Q) : E x F d 106 44 [o0, o1, o2, o3, o4, o5] [.int s1, .int s0] (V, T) Q := by
  refine e_iconst zd106_44 ?_
  exact e_icmp_ne zd106_45 (tg := 52) rfl kt kf
theorem b106_48 {x : zXs} {F : zF} (hF : zSh F) {d : Nat} {V : Nat → Nat → Int32} {T : Nat → Nat → Int64} {Q : Option Value → zG → Prop} {o0 : Option Value} {o1 : Option Value} {o2 : Option Value} {o3 : Option Value} {o4 : Option Value} {o5 : Option Value} {s0 : Int32}   (k : E x F d 106 53 [o0, o1, o2, o3, o4, o5] [.int (Int32.ofInt 1), .int s0] (V, T) Q) : E x F d 106 48 [o0, o1, o2, o3, o4, o5] [.int s0] (V, T) Q := by
  refine e_iconst zd106_48 ?_
  exact e_goto zd106_49 (tg := 53) rfl k
theorem b106_52 {x : zXs} {F : zF} (hF : zSh F) {d : Nat} {V : Nat → Nat → Int32} {T : Nat → Nat → Int64} {Q : Option Value → zG → Prop} {o0 : Option Value} {o1 : Option Value} {o2 : Option Value} {o3 : Option Value} {o4 : Option Value} {o5 : Option Value} {s0 : Int32}   (k : E x F d 106 53 [o0, o1, o2, o3, o4, o5] [.int (Int32.ofInt 0), .int s0] (V, T) Q) : E x F d 106 52 [o0, o1, o2, o3, o4, o5] [.int s0] (V, T) Q := by
  refine e_iconst zd106_52 ?_
  exact k
theorem b106_53 {x : zXs} {F : zF} (hF : zSh F) {d : Nat} {V : Nat → Nat → Int32} {T : Nat → Nat → Int64} {Q : Option Value → zG → Prop} {o0 : Option Value} {o1 : Option Value} {o2 : Option Value} {o3 : Option Value} {o4 : Option Value} {l5 : Int32} {s0 : Int32} {s1 : Int32}   (k : E x F d 105 0 [some (.int s1), some (.int l5)] [] (V, T) (fun r G' => E x F (d + 1) 106 58 [o0, o1, o2, o3, o4, some (.int l5)] (r.toList ++ [.int s0]) G' Q)) : E x F (d + 1) 106 53 [o0, o1, o2, o3, o4, some (.int l5)] [.int s1, .int s0] (V, T) Q := by
  refine e_iload zd106_53 rfl ?_
  exact e_callS zd106_55 (own := 7) (nest := false) (w := 754) (by decide +kernel) (by decide +kernel) zs105 (as := [.int s1, .int l5]) (rest := [.int s0]) rfl rfl (Nat.le_of_ble_eq_true rfl) rfl rfl rfl (by omega) k
theorem b106_58 {x : zXs} {F : zF} (hF : zSh F) {d : Nat} {V : Nat → Nat → Int32} {T : Nat → Nat → Int64} {Q : Option Value → zG → Prop} {o0 : Option Value} {o1 : Option Value} {o2 : Option Value} {o3 : Option Value} {o4 : Option Value} {l5 : Int32} {s0 : Int32} {s1 : Int32}   (k : E x F d 106 6 [o0, o1, o2, o3, some (.int (s0 ||| s1)), some (.int (l5 + Int32.ofInt 1))] [] (V, T) Q) : E x F d 106 58 [o0, o1, o2, o3, o4, some (.int l5)] [.int s1, .int s0] (V, T) Q := by
  refine e_ior zd106_58 ?_
  refine e_istore zd106_59 (by decide +kernel) (Nat.le_of_ble_eq_true rfl) ?_
  refine e_iinc zd106_61 rfl (by decide +kernel) ?_
  exact e_goto zd106_64 (tg := 6) rfl k
theorem b106_67 {x : zXs} {F : zF} (hF : zSh F) {d : Nat} {V : Nat → Nat → Int32} {T : Nat → Nat → Int64} {Q : Option Value → zG → Prop} {o0 : Option Value} {o1 : Option Value} {o2 : Option Value} {o3 : Option Value} {l4 : Int32} {o5 : Option Value}   (k : Q (some (.int l4)) (V, T)) : E x F d 106 67 [o0, o1, o2, o3, some (.int l4), o5] [] (V, T) Q := by
  refine e_iload zd106_67 rfl ?_
  exact e_ireti zd106_69 zs106 k
theorem zd107_0 : zop 107 0 = some (.iconst 0, 1) := by decide +kernel
theorem zd107_1 : zop 107 1 = some (.istore 5, 2) := by decide +kernel
theorem zd107_3 : zop 107 3 = some (.iconst (-1), 1) := by decide +kernel
theorem zd107_4 : zop 107 4 = some (.istore 6, 2) := by decide +kernel
theorem zd107_6 : zop 107 6 = some (.iconst 0, 1) := by decide +kernel
theorem zd107_7 : zop 107 7 = some (.istore 7, 2) := by decide +kernel
theorem zd107_9 : zop 107 9 = some (.iload 7, 2) := by decide +kernel
theorem zd107_11 : zop 107 11 = some (.bipush 100, 2) := by decide +kernel
theorem zd107_13 : zop 107 13 = some (.if_icmp .ge 59, 3) := by decide +kernel
theorem zd107_16 : zop 107 16 = some (.aload_n 0, 1) := by decide +kernel
theorem zd107_17 : zop 107 17 = some (.getfield 16, 3) := by decide +kernel
theorem zd107_20 : zop 107 20 = some (.aload_n 0, 1) := by decide +kernel
theorem zd107_21 : zop 107 21 = some (.getfield 10, 3) := by decide +kernel
theorem zd107_24 : zop 107 24 = some (.invokevirtual 178, 3) := by decide +kernel
theorem zd107_27 : zop 107 27 = some (.aload_n 0, 1) := by decide +kernel
theorem zd107_28 : zop 107 28 = some (.getfield 16, 3) := by decide +kernel
theorem zd107_31 : zop 107 31 = some (.getfield 84, 3) := by decide +kernel
theorem zd107_34 : zop 107 34 = some (.iload_n 2, 1) := by decide +kernel
theorem zd107_35 : zop 107 35 = some (.iload 7, 2) := by decide +kernel
theorem zd107_37 : zop 107 37 = some (.iastore, 1) := by decide +kernel
theorem zd107_38 : zop 107 38 = some (.aload_n 0, 1) := by decide +kernel
theorem zd107_39 : zop 107 39 = some (.aload_n 1, 1) := by decide +kernel
theorem zd107_40 : zop 107 40 = some (.iload_n 2, 1) := by decide +kernel
theorem zd107_41 : zop 107 41 = some (.iload_n 3, 1) := by decide +kernel
theorem zd107_42 : zop 107 42 = some (.invokevirtual 217, 3) := by decide +kernel
theorem zd107_45 : zop 107 45 = some (.iconst (-1), 1) := by decide +kernel
theorem zd107_46 : zop 107 46 = some (.if_icmp .ne 20, 3) := by decide +kernel
theorem zd107_49 : zop 107 49 = some (.iload 5, 2) := by decide +kernel
theorem zd107_51 : zop 107 51 = some (.ifCond .ne 8, 3) := by decide +kernel
theorem zd107_54 : zop 107 54 = some (.iload 7, 2) := by decide +kernel
theorem zd107_56 : zop 107 56 = some (.goto 5, 3) := by decide +kernel
theorem zd107_59 : zop 107 59 = some (.iload 6, 2) := by decide +kernel
theorem zd107_61 : zop 107 61 = some (.istore 6, 2) := by decide +kernel
theorem zd107_63 : zop 107 63 = some (.iinc 5 1, 3) := by decide +kernel
theorem zd107_66 : zop 107 66 = some (.iinc 7 1, 3) := by decide +kernel
theorem zd107_69 : zop 107 69 = some (.goto (-60), 3) := by decide +kernel
theorem zd107_72 : zop 107 72 = some (.iload 4, 2) := by decide +kernel
theorem zd107_74 : zop 107 74 = some (.ifCond .eq 8, 3) := by decide +kernel
theorem zd107_77 : zop 107 77 = some (.iload 6, 2) := by decide +kernel
theorem zd107_79 : zop 107 79 = some (.goto 5, 3) := by decide +kernel
theorem zd107_82 : zop 107 82 = some (.iload 5, 2) := by decide +kernel
theorem zd107_84 : zop 107 84 = some (.ireturn, 1) := by decide +kernel
theorem b107_0 {x : zXs} {F : zF} (hF : zSh F) {d : Nat} {V : Nat → Nat → Int32} {T : Nat → Nat → Int64} {Q : Option Value → zG → Prop} {o0 : Option Value} {o1 : Option Value} {o2 : Option Value} {o3 : Option Value} {o4 : Option Value} {o5 : Option Value} {o6 : Option Value} {o7 : Option Value}   (k : E x F d 107 9 [o0, o1, o2, o3, o4, some (.int (Int32.ofInt 0)), some (.int (Int32.ofInt (-1))), some (.int (Int32.ofInt 0))] [] (V, T) Q) : E x F d 107 0 [o0, o1, o2, o3, o4, o5, o6, o7] [] (V, T) Q := by
  refine e_iconst zd107_0 ?_
  refine e_istore zd107_1 (by decide +kernel) (Nat.le_of_ble_eq_true rfl) ?_
  refine e_iconst zd107_3 ?_
  refine e_istore zd107_4 (by decide +kernel) (Nat.le_of_ble_eq_true rfl) ?_
  refine e_iconst zd107_6 ?_
  refine e_istore zd107_7 (by decide +kernel) (Nat.le_of_ble_eq_true rfl) ?_
  exact k
theorem b107_9 {x : zXs} {F : zF} (hF : zSh F) {d : Nat} {V : Nat → Nat → Int32} {T : Nat → Nat → Int64} {Q : Option Value → zG → Prop} {o0 : Option Value} {o1 : Option Value} {o2 : Option Value} {o3 : Option Value} {o4 : Option Value} {o5 : Option Value} {o6 : Option Value} {l7 : Int32}   (kt : (Int32.ofInt 100) ≤ l7 → E x F d 107 72 [o0, o1, o2, o3, o4, o5, o6, some (.int l7)] [] (V, T) Q) (kf : ¬ ((Int32.ofInt 100) ≤ l7) → E x F d 107 16 [o0, o1, o2, o3, o4, o5, o6, some (.int l7)] [] (V, T) Q) : E x F d 107 9 [o0, o1, o2, o3, o4, o5, o6, some (.int l7)] [] (V, T) Q := by
  refine e_iload zd107_9 rfl ?_
  refine e_bipush zd107_11 (v := Int32.ofInt 100) (by decide +kernel) ?_
  exact e_icmp_ge zd107_13 (tg := 72) rfl kt kf
theorem b107_16 {x : zXs} {F : zF} (hF : zSh F) {d : Nat} {V : Nat → Nat → Int32} {T : Nat → Nat → Int64} {Q : Option Value → zG → Prop} {o1 : Option Value} {o2 : Option Value} {o3 : Option Value} {o4 : Option Value} {o5 : Option Value} {o6 : Option Value} {o7 : Option Value}   (k : E x F d 83 0 [some (.ref 7), some (.ref 1)] [] (V, T) (fun r G' => E x F (d + 1) 107 27 [some (.ref 0), o1, o2, o3, o4, o5, o6, o7] (r.toList ++ []) G' Q)) : E x F (d + 1) 107 16 [some (.ref 0), o1, o2, o3, o4, o5, o6, o7] [] (V, T) Q := by
  refine e_aload_n zd107_16 rfl rfl ?_
  refine e_getO zd107_17 (own := 7) (ci := 7) (kf := 1) (w := 298) (by decide +kernel) (by decide +kernel) (zsh_at hF rfl).1 (by decide +kernel) rfl (zrf_at hF (i := 1) rfl) ?_
  refine e_aload_n zd107_20 rfl rfl ?_
  refine e_getO zd107_21 (own := 7) (ci := 7) (kf := 0) (w := 297) (by decide +kernel) (by decide +kernel) (zsh_at hF rfl).1 (by decide +kernel) rfl (zrf_at hF (i := 0) rfl) ?_
  exact e_callV zd107_24 (own := 7) (nest := false) (w := 666) (by decide +kernel) (by decide +kernel) zs83 (as := [.ref 1]) (rest := []) rfl rfl (zsh_at hF rfl).1 (by omega) (Nat.le_of_ble_eq_true rfl) rfl rfl rfl (by omega) k
theorem b107_27 {x : zXs} {F : zF} (hF : zSh F) {d : Nat} {V : Nat → Nat → Int32} {T : Nat → Nat → Int64} {Q : Option Value → zG → Prop} {l1 : Nat} {l2 : Int32} {l3 : Int32} {o4 : Option Value} {o5 : Option Value} {o6 : Option Value} {l7 : Int32} (hl1 : zSt4 l1) {i1 : Nat} (e1 : l2 = nI i1) (h1 : i1 < 5) (k : E x F d 103 0 [some (.ref 0), some (.ref l1), some (.int l2), some (.int l3), none] [] (zu V 12 i1 l7, T) (fun r G' => E x F (d + 1) 107 45 [some (.ref 0), some (.ref l1), some (.int l2), some (.int l3), o4, o5, o6, some (.int l7)] (r.toList ++ []) G' Q)) : E x F (d + 1) 107 27 [some (.ref 0), some (.ref l1), some (.int l2), some (.int l3), o4, o5, o6, some (.int l7)] [] (V, T) Q := by
  refine e_aload_n zd107_27 rfl rfl ?_
  refine e_getO zd107_28 (own := 7) (ci := 7) (kf := 1) (w := 298) (by decide +kernel) (by decide +kernel) (zsh_at hF rfl).1 (by decide +kernel) rfl (zrf_at hF (i := 1) rfl) ?_
  refine e_getA zd107_31 (own := 7) (ci := 4) (kf := 4) (w := 125) (by decide +kernel) (by decide +kernel) (zsh_at hF rfl).1 (by decide +kernel) rfl (zrf_at hF (i := 17) rfl) ?_
  refine e_iload_n zd107_34 rfl ?_
  refine e_iload zd107_35 rfl ?_
  refine e_iast zd107_37 (i := i1) (zsh_at hF rfl) e1 h1 (by omega) ?_
  refine e_aload_n zd107_38 rfl rfl ?_
  refine e_aload_n zd107_39 rfl rfl ?_
  refine e_iload_n zd107_40 rfl ?_
  refine e_iload_n zd107_41 rfl ?_
  exact e_callV zd107_42 (own := 7) (nest := false) (w := 746) (by decide +kernel) (by decide +kernel) zs103 (as := [.ref l1, .int l2, .int l3]) (rest := []) rfl rfl (zsh_at hF rfl).1 (by omega) (Nat.le_of_ble_eq_true rfl) rfl rfl rfl (by omega) k
theorem b107_45 {x : zXs} {F : zF} (hF : zSh F) {d : Nat} {V : Nat → Nat → Int32} {T : Nat → Nat → Int64} {Q : Option Value → zG → Prop} {o0 : Option Value} {o1 : Option Value} {o2 : Option Value} {o3 : Option Value} {o4 : Option Value} {o5 : Option Value} {o6 : Option Value} {o7 : Option Value} {s0 : Int32}   (kt : ¬ s0 = (Int32.ofInt (-1)) → E x F d 107 66 [o0, o1, o2, o3, o4, o5, o6, o7] [] (V, T) Q) (kf : ¬ (¬ s0 = (Int32.ofInt (-1))) → E x F d 107 49 [o0, o1, o2, o3, o4, o5, o6, o7] [] (V, T) Q) : E x F d 107 45 [o0, o1, o2, o3, o4, o5, o6, o7] [.int s0] (V, T) Q := by
  refine e_iconst zd107_45 ?_
  exact e_icmp_ne zd107_46 (tg := 66) rfl kt kf
theorem b107_49 {x : zXs} {F : zF} (hF : zSh F) {d : Nat} {V : Nat → Nat → Int32} {T : Nat → Nat → Int64} {Q : Option Value → zG → Prop} {o0 : Option Value} {o1 : Option Value} {o2 : Option Value} {o3 : Option Value} {o4 : Option Value} {l5 : Int32} {o6 : Option Value} {o7 : Option Value}   (kt : ¬ l5 = 0 → E x F d 107 59 [o0, o1, o2, o3, o4, some (.int l5), o6, o7] [] (V, T) Q) (kf : ¬ (¬ l5 = 0) → E x F d 107 54 [o0, o1, o2, o3, o4, some (.int l5), o6, o7] [] (V, T) Q) : E x F d 107 49 [o0, o1, o2, o3, o4, some (.int l5), o6, o7] [] (V, T) Q := by
  refine e_iload zd107_49 rfl ?_
  exact e_if_ne zd107_51 (tg := 59) rfl kt kf
theorem b107_54 {x : zXs} {F : zF} (hF : zSh F) {d : Nat} {V : Nat → Nat → Int32} {T : Nat → Nat → Int64} {Q : Option Value → zG → Prop} {o0 : Option Value} {o1 : Option Value} {o2 : Option Value} {o3 : Option Value} {o4 : Option Value} {o5 : Option Value} {o6 : Option Value} {l7 : Int32}   (k : E x F d 107 61 [o0, o1, o2, o3, o4, o5, o6, some (.int l7)] [.int l7] (V, T) Q) : E x F d 107 54 [o0, o1, o2, o3, o4, o5, o6, some (.int l7)] [] (V, T) Q := by
  refine e_iload zd107_54 rfl ?_
  exact e_goto zd107_56 (tg := 61) rfl k
theorem b107_59 {x : zXs} {F : zF} (hF : zSh F) {d : Nat} {V : Nat → Nat → Int32} {T : Nat → Nat → Int64} {Q : Option Value → zG → Prop} {o0 : Option Value} {o1 : Option Value} {o2 : Option Value} {o3 : Option Value} {o4 : Option Value} {o5 : Option Value} {l6 : Int32} {o7 : Option Value}   (k : E x F d 107 61 [o0, o1, o2, o3, o4, o5, some (.int l6), o7] [.int l6] (V, T) Q) : E x F d 107 59 [o0, o1, o2, o3, o4, o5, some (.int l6), o7] [] (V, T) Q := by
  refine e_iload zd107_59 rfl ?_
  exact k
theorem b107_61 {x : zXs} {F : zF} (hF : zSh F) {d : Nat} {V : Nat → Nat → Int32} {T : Nat → Nat → Int64} {Q : Option Value → zG → Prop} {o0 : Option Value} {o1 : Option Value} {o2 : Option Value} {o3 : Option Value} {o4 : Option Value} {l5 : Int32} {o6 : Option Value} {o7 : Option Value} {s0 : Int32}   (k : E x F d 107 66 [o0, o1, o2, o3, o4, some (.int (l5 + Int32.ofInt 1)), some (.int s0), o7] [] (V, T) Q) : E x F d 107 61 [o0, o1, o2, o3, o4, some (.int l5), o6, o7] [.int s0] (V, T) Q := by
  refine e_istore zd107_61 (by decide +kernel) (Nat.le_of_ble_eq_true rfl) ?_
  refine e_iinc zd107_63 rfl (by decide +kernel) ?_
  exact k
theorem b107_66 {x : zXs} {F : zF} (hF : zSh F) {d : Nat} {V : Nat → Nat → Int32} {T : Nat → Nat → Int64} {Q : Option Value → zG → Prop} {o0 : Option Value} {o1 : Option Value} {o2 : Option Value} {o3 : Option Value} {o4 : Option Value} {o5 : Option Value} {o6 : Option Value} {l7 : Int32}   (k : E x F d 107 9 [o0, o1, o2, o3, o4, o5, o6, some (.int (l7 + Int32.ofInt 1))] [] (V, T) Q) : E x F d 107 66 [o0, o1, o2, o3, o4, o5, o6, some (.int l7)] [] (V, T) Q := by
  refine e_iinc zd107_66 rfl (by decide +kernel) ?_
  exact e_goto zd107_69 (tg := 9) rfl k
theorem b107_72 {x : zXs} {F : zF} (hF : zSh F) {d : Nat} {V : Nat → Nat → Int32} {T : Nat → Nat → Int64} {Q : Option Value → zG → Prop} {o0 : Option Value} {o1 : Option Value} {o2 : Option Value} {o3 : Option Value} {l4 : Int32} {o5 : Option Value} {o6 : Option Value} {o7 : Option Value}   (kt : l4 = 0 → E x F d 107 82 [o0, o1, o2, o3, some (.int l4), o5, o6, o7] [] (V, T) Q) (kf : ¬ (l4 = 0) → E x F d 107 77 [o0, o1, o2, o3, some (.int l4), o5, o6, o7] [] (V, T) Q) : E x F d 107 72 [o0, o1, o2, o3, some (.int l4), o5, o6, o7] [] (V, T) Q := by
  refine e_iload zd107_72 rfl ?_
  exact e_if_eq zd107_74 (tg := 82) rfl kt kf
theorem b107_77 {x : zXs} {F : zF} (hF : zSh F) {d : Nat} {V : Nat → Nat → Int32} {T : Nat → Nat → Int64} {Q : Option Value → zG → Prop} {o0 : Option Value} {o1 : Option Value} {o2 : Option Value} {o3 : Option Value} {o4 : Option Value} {o5 : Option Value} {l6 : Int32} {o7 : Option Value}   (k : E x F d 107 84 [o0, o1, o2, o3, o4, o5, some (.int l6), o7] [.int l6] (V, T) Q) : E x F d 107 77 [o0, o1, o2, o3, o4, o5, some (.int l6), o7] [] (V, T) Q := by
  refine e_iload zd107_77 rfl ?_
  exact e_goto zd107_79 (tg := 84) rfl k
theorem b107_82 {x : zXs} {F : zF} (hF : zSh F) {d : Nat} {V : Nat → Nat → Int32} {T : Nat → Nat → Int64} {Q : Option Value → zG → Prop} {o0 : Option Value} {o1 : Option Value} {o2 : Option Value} {o3 : Option Value} {o4 : Option Value} {l5 : Int32} {o6 : Option Value} {o7 : Option Value}   (k : E x F d 107 84 [o0, o1, o2, o3, o4, some (.int l5), o6, o7] [.int l5] (V, T) Q) : E x F d 107 82 [o0, o1, o2, o3, o4, some (.int l5), o6, o7] [] (V, T) Q := by
  refine e_iload zd107_82 rfl ?_
  exact k
theorem b107_84 {x : zXs} {F : zF} (hF : zSh F) {d : Nat} {V : Nat → Nat → Int32} {T : Nat → Nat → Int64} {Q : Option Value → zG → Prop} {o0 : Option Value} {o1 : Option Value} {o2 : Option Value} {o3 : Option Value} {o4 : Option Value} {o5 : Option Value} {o6 : Option Value} {o7 : Option Value} {s0 : Int32}   (k : Q (some (.int s0)) (V, T)) : E x F d 107 84 [o0, o1, o2, o3, o4, o5, o6, o7] [.int s0] (V, T) Q := by
  exact e_ireti zd107_84 zs107 k
theorem zd108_0 : zop 108 0 = some (.iconst 0, 1) := by decide +kernel
theorem zd108_1 : zop 108 1 = some (.istore 4, 2) := by decide +kernel
theorem zd108_3 : zop 108 3 = some (.iconst 0, 1) := by decide +kernel
theorem zd108_4 : zop 108 4 = some (.istore 5, 2) := by decide +kernel
theorem zd108_6 : zop 108 6 = some (.iload 5, 2) := by decide +kernel
theorem zd108_8 : zop 108 8 = some (.aload_n 0, 1) := by decide +kernel
theorem zd108_9 : zop 108 9 = some (.getfield 33, 3) := by decide +kernel
theorem zd108_12 : zop 108 12 = some (.getfield 139, 3) := by decide +kernel
theorem zd108_15 : zop 108 15 = some (.if_icmp .ge 55, 3) := by decide +kernel
theorem zd108_18 : zop 108 18 = some (.aload_n 0, 1) := by decide +kernel
theorem zd108_19 : zop 108 19 = some (.getfield 16, 3) := by decide +kernel
theorem zd108_22 : zop 108 22 = some (.aload_n 0, 1) := by decide +kernel
theorem zd108_23 : zop 108 23 = some (.getfield 10, 3) := by decide +kernel
theorem zd108_26 : zop 108 26 = some (.invokevirtual 178, 3) := by decide +kernel
theorem zd108_29 : zop 108 29 = some (.aload_n 0, 1) := by decide +kernel
theorem zd108_30 : zop 108 30 = some (.getfield 16, 3) := by decide +kernel
theorem zd108_33 : zop 108 33 = some (.iload 5, 2) := by decide +kernel
theorem zd108_35 : zop 108 35 = some (.putfield 154, 3) := by decide +kernel
theorem zd108_38 : zop 108 38 = some (.iload 4, 2) := by decide +kernel
theorem zd108_40 : zop 108 40 = some (.aload_n 0, 1) := by decide +kernel
theorem zd108_41 : zop 108 41 = some (.aload_n 1, 1) := by decide +kernel
theorem zd108_42 : zop 108 42 = some (.iload_n 2, 1) := by decide +kernel
theorem zd108_43 : zop 108 43 = some (.iload_n 3, 1) := by decide +kernel
theorem zd108_44 : zop 108 44 = some (.invokevirtual 217, 3) := by decide +kernel
theorem zd108_47 : zop 108 47 = some (.iconst (-1), 1) := by decide +kernel
theorem zd108_48 : zop 108 48 = some (.if_icmp .ne 7, 3) := by decide +kernel
theorem zd108_51 : zop 108 51 = some (.iconst 1, 1) := by decide +kernel
theorem zd108_52 : zop 108 52 = some (.goto 4, 3) := by decide +kernel
theorem zd108_55 : zop 108 55 = some (.iconst 0, 1) := by decide +kernel
theorem zd108_56 : zop 108 56 = some (.iload 5, 2) := by decide +kernel
theorem zd108_58 : zop 108 58 = some (.invokestatic 249, 3) := by decide +kernel
theorem zd108_61 : zop 108 61 = some (.ior, 1) := by decide +kernel
theorem zd108_62 : zop 108 62 = some (.istore 4, 2) := by decide +kernel
theorem zd108_64 : zop 108 64 = some (.iinc 5 1, 3) := by decide +kernel
theorem zd108_67 : zop 108 67 = some (.goto (-61), 3) := by decide +kernel
theorem zd108_70 : zop 108 70 = some (.iload 4, 2) := by decide +kernel
theorem zd108_72 : zop 108 72 = some (.ireturn, 1) := by decide +kernel
theorem b108_0 {x : zXs} {F : zF} (hF : zSh F) {d : Nat} {V : Nat → Nat → Int32} {T : Nat → Nat → Int64} {Q : Option Value → zG → Prop} {o0 : Option Value} {o1 : Option Value} {o2 : Option Value} {o3 : Option Value} {o4 : Option Value} {o5 : Option Value}   (k : E x F d 108 6 [o0, o1, o2, o3, some (.int (Int32.ofInt 0)), some (.int (Int32.ofInt 0))] [] (V, T) Q) : E x F d 108 0 [o0, o1, o2, o3, o4, o5] [] (V, T) Q := by
  refine e_iconst zd108_0 ?_
  refine e_istore zd108_1 (by decide +kernel) (Nat.le_of_ble_eq_true rfl) ?_
  refine e_iconst zd108_3 ?_
  refine e_istore zd108_4 (by decide +kernel) (Nat.le_of_ble_eq_true rfl) ?_
  exact k
theorem b108_6 {x : zXs} {F : zF} (hF : zSh F) {d : Nat} {V : Nat → Nat → Int32} {T : Nat → Nat → Int64} {Q : Option Value → zG → Prop} {o1 : Option Value} {o2 : Option Value} {o3 : Option Value} {o4 : Option Value} {l5 : Int32}   (kt : (V 20 3) ≤ l5 → E x F d 108 70 [some (.ref 0), o1, o2, o3, o4, some (.int l5)] [] (V, T) Q) (kf : ¬ ((V 20 3) ≤ l5) → E x F d 108 18 [some (.ref 0), o1, o2, o3, o4, some (.int l5)] [] (V, T) Q) : E x F d 108 6 [some (.ref 0), o1, o2, o3, o4, some (.int l5)] [] (V, T) Q := by
  refine e_iload zd108_6 rfl ?_
  refine e_aload_n zd108_8 rfl rfl ?_
  refine e_getO zd108_9 (own := 7) (ci := 7) (kf := 4) (w := 301) (by decide +kernel) (by decide +kernel) (zsh_at hF rfl).1 (by decide +kernel) rfl (zrf_at hF (i := 4) rfl) ?_
  refine e_getI zd108_12 (own := 7) (ci := 2) (kf := 3) (w := 201) (by decide +kernel) (by decide +kernel) (zsh_at hF rfl).1 (by decide +kernel) rfl ?_
  exact e_icmp_ge zd108_15 (tg := 70) rfl kt kf
theorem b108_18 {x : zXs} {F : zF} (hF : zSh F) {d : Nat} {V : Nat → Nat → Int32} {T : Nat → Nat → Int64} {Q : Option Value → zG → Prop} {o1 : Option Value} {o2 : Option Value} {o3 : Option Value} {o4 : Option Value} {o5 : Option Value}   (k : E x F d 83 0 [some (.ref 7), some (.ref 1)] [] (V, T) (fun r G' => E x F (d + 1) 108 29 [some (.ref 0), o1, o2, o3, o4, o5] (r.toList ++ []) G' Q)) : E x F (d + 1) 108 18 [some (.ref 0), o1, o2, o3, o4, o5] [] (V, T) Q := by
  refine e_aload_n zd108_18 rfl rfl ?_
  refine e_getO zd108_19 (own := 7) (ci := 7) (kf := 1) (w := 298) (by decide +kernel) (by decide +kernel) (zsh_at hF rfl).1 (by decide +kernel) rfl (zrf_at hF (i := 1) rfl) ?_
  refine e_aload_n zd108_22 rfl rfl ?_
  refine e_getO zd108_23 (own := 7) (ci := 7) (kf := 0) (w := 297) (by decide +kernel) (by decide +kernel) (zsh_at hF rfl).1 (by decide +kernel) rfl (zrf_at hF (i := 0) rfl) ?_
  exact e_callV zd108_26 (own := 7) (nest := false) (w := 666) (by decide +kernel) (by decide +kernel) zs83 (as := [.ref 1]) (rest := []) rfl rfl (zsh_at hF rfl).1 (by omega) (Nat.le_of_ble_eq_true rfl) rfl rfl rfl (by omega) k
theorem b108_29 {x : zXs} {F : zF} (hF : zSh F) {d : Nat} {V : Nat → Nat → Int32} {T : Nat → Nat → Int64} {Q : Option Value → zG → Prop} {l1 : Nat} {l2 : Int32} {l3 : Int32} {l4 : Int32} {l5 : Int32} (hl1 : zSt4 l1)  (k : E x F d 103 0 [some (.ref 0), some (.ref l1), some (.int l2), some (.int l3), none] [] (zu V 7 7 l5, T) (fun r G' => E x F (d + 1) 108 47 [some (.ref 0), some (.ref l1), some (.int l2), some (.int l3), some (.int l4), some (.int l5)] (r.toList ++ [.int l4]) G' Q)) : E x F (d + 1) 108 29 [some (.ref 0), some (.ref l1), some (.int l2), some (.int l3), some (.int l4), some (.int l5)] [] (V, T) Q := by
  refine e_aload_n zd108_29 rfl rfl ?_
  refine e_getO zd108_30 (own := 7) (ci := 7) (kf := 1) (w := 298) (by decide +kernel) (by decide +kernel) (zsh_at hF rfl).1 (by decide +kernel) rfl (zrf_at hF (i := 1) rfl) ?_
  refine e_iload zd108_33 rfl ?_
  refine e_putI zd108_35 (own := 7) (ci := 4) (kf := 7) (w := 136) (by decide +kernel) (by decide +kernel) (zsh_at hF rfl).1 (by decide +kernel) rfl ?_
  refine e_iload zd108_38 rfl ?_
  refine e_aload_n zd108_40 rfl rfl ?_
  refine e_aload_n zd108_41 rfl rfl ?_
  refine e_iload_n zd108_42 rfl ?_
  refine e_iload_n zd108_43 rfl ?_
  exact e_callV zd108_44 (own := 7) (nest := false) (w := 746) (by decide +kernel) (by decide +kernel) zs103 (as := [.ref l1, .int l2, .int l3]) (rest := [.int l4]) rfl rfl (zsh_at hF rfl).1 (by omega) (Nat.le_of_ble_eq_true rfl) rfl rfl rfl (by omega) k
theorem b108_47 {x : zXs} {F : zF} (hF : zSh F) {d : Nat} {V : Nat → Nat → Int32} {T : Nat → Nat → Int64} {Q : Option Value → zG → Prop} {o0 : Option Value} {o1 : Option Value} {o2 : Option Value} {o3 : Option Value} {o4 : Option Value} {o5 : Option Value} {s0 : Int32} {s1 : Int32}   (kt : ¬ s1 = (Int32.ofInt (-1)) → E x F d 108 55 [o0, o1, o2, o3, o4, o5] [.int s0] (V, T) Q) (kf : ¬ (¬ s1 = (Int32.ofInt (-1))) → E x F d 108 51 [o0, o1, o2, o3, o4, o5] [.int s0] (V, T) Q) : E x F d 108 47 [o0, o1, o2, o3, o4, o5] [.int s1, .int s0] (V, T) Q := by
  refine e_iconst zd108_47 ?_
  exact e_icmp_ne zd108_48 (tg := 55) rfl kt kf
theorem b108_51 {x : zXs} {F : zF} (hF : zSh F) {d : Nat} {V : Nat → Nat → Int32} {T : Nat → Nat → Int64} {Q : Option Value → zG → Prop} {o0 : Option Value} {o1 : Option Value} {o2 : Option Value} {o3 : Option Value} {o4 : Option Value} {o5 : Option Value} {s0 : Int32}   (k : E x F d 108 56 [o0, o1, o2, o3, o4, o5] [.int (Int32.ofInt 1), .int s0] (V, T) Q) : E x F d 108 51 [o0, o1, o2, o3, o4, o5] [.int s0] (V, T) Q := by
  refine e_iconst zd108_51 ?_
  exact e_goto zd108_52 (tg := 56) rfl k
theorem b108_55 {x : zXs} {F : zF} (hF : zSh F) {d : Nat} {V : Nat → Nat → Int32} {T : Nat → Nat → Int64} {Q : Option Value → zG → Prop} {o0 : Option Value} {o1 : Option Value} {o2 : Option Value} {o3 : Option Value} {o4 : Option Value} {o5 : Option Value} {s0 : Int32}   (k : E x F d 108 56 [o0, o1, o2, o3, o4, o5] [.int (Int32.ofInt 0), .int s0] (V, T) Q) : E x F d 108 55 [o0, o1, o2, o3, o4, o5] [.int s0] (V, T) Q := by
  refine e_iconst zd108_55 ?_
  exact k
theorem b108_56 {x : zXs} {F : zF} (hF : zSh F) {d : Nat} {V : Nat → Nat → Int32} {T : Nat → Nat → Int64} {Q : Option Value → zG → Prop} {o0 : Option Value} {o1 : Option Value} {o2 : Option Value} {o3 : Option Value} {o4 : Option Value} {l5 : Int32} {s0 : Int32} {s1 : Int32}   (k : E x F d 105 0 [some (.int s1), some (.int l5)] [] (V, T) (fun r G' => E x F (d + 1) 108 61 [o0, o1, o2, o3, o4, some (.int l5)] (r.toList ++ [.int s0]) G' Q)) : E x F (d + 1) 108 56 [o0, o1, o2, o3, o4, some (.int l5)] [.int s1, .int s0] (V, T) Q := by
  refine e_iload zd108_56 rfl ?_
  exact e_callS zd108_58 (own := 7) (nest := false) (w := 754) (by decide +kernel) (by decide +kernel) zs105 (as := [.int s1, .int l5]) (rest := [.int s0]) rfl rfl (Nat.le_of_ble_eq_true rfl) rfl rfl rfl (by omega) k
theorem b108_61 {x : zXs} {F : zF} (hF : zSh F) {d : Nat} {V : Nat → Nat → Int32} {T : Nat → Nat → Int64} {Q : Option Value → zG → Prop} {o0 : Option Value} {o1 : Option Value} {o2 : Option Value} {o3 : Option Value} {o4 : Option Value} {l5 : Int32} {s0 : Int32} {s1 : Int32}   (k : E x F d 108 6 [o0, o1, o2, o3, some (.int (s0 ||| s1)), some (.int (l5 + Int32.ofInt 1))] [] (V, T) Q) : E x F d 108 61 [o0, o1, o2, o3, o4, some (.int l5)] [.int s1, .int s0] (V, T) Q := by
  refine e_ior zd108_61 ?_
  refine e_istore zd108_62 (by decide +kernel) (Nat.le_of_ble_eq_true rfl) ?_
  refine e_iinc zd108_64 rfl (by decide +kernel) ?_
  exact e_goto zd108_67 (tg := 6) rfl k
theorem b108_70 {x : zXs} {F : zF} (hF : zSh F) {d : Nat} {V : Nat → Nat → Int32} {T : Nat → Nat → Int64} {Q : Option Value → zG → Prop} {o0 : Option Value} {o1 : Option Value} {o2 : Option Value} {o3 : Option Value} {l4 : Int32} {o5 : Option Value}   (k : Q (some (.int l4)) (V, T)) : E x F d 108 70 [o0, o1, o2, o3, some (.int l4), o5] [] (V, T) Q := by
  refine e_iload zd108_70 rfl ?_
  exact e_ireti zd108_72 zs108 k
theorem zd109_0 : zop 109 0 = some (.iconst 0, 1) := by decide +kernel
theorem zd109_1 : zop 109 1 = some (.istore_n 3, 1) := by decide +kernel
theorem zd109_2 : zop 109 2 = some (.iconst 0, 1) := by decide +kernel
theorem zd109_3 : zop 109 3 = some (.istore 4, 2) := by decide +kernel
theorem zd109_5 : zop 109 5 = some (.iload 4, 2) := by decide +kernel
theorem zd109_7 : zop 109 7 = some (.aload_n 0, 1) := by decide +kernel
theorem zd109_8 : zop 109 8 = some (.getfield 10, 3) := by decide +kernel
theorem zd109_11 : zop 109 11 = some (.getfield 160, 3) := by decide +kernel
theorem zd109_14 : zop 109 14 = some (.if_icmp .ge 45, 3) := by decide +kernel
theorem zd109_17 : zop 109 17 = some (.aload_n 0, 1) := by decide +kernel
theorem zd109_18 : zop 109 18 = some (.getfield 16, 3) := by decide +kernel
theorem zd109_21 : zop 109 21 = some (.aload_n 0, 1) := by decide +kernel
theorem zd109_22 : zop 109 22 = some (.getfield 10, 3) := by decide +kernel
theorem zd109_25 : zop 109 25 = some (.invokevirtual 178, 3) := by decide +kernel
theorem zd109_28 : zop 109 28 = some (.iload_n 3, 1) := by decide +kernel
theorem zd109_29 : zop 109 29 = some (.aload_n 0, 1) := by decide +kernel
theorem zd109_30 : zop 109 30 = some (.aload_n 1, 1) := by decide +kernel
theorem zd109_31 : zop 109 31 = some (.iload 4, 2) := by decide +kernel
theorem zd109_33 : zop 109 33 = some (.iload_n 2, 1) := by decide +kernel
theorem zd109_34 : zop 109 34 = some (.invokevirtual 217, 3) := by decide +kernel
theorem zd109_37 : zop 109 37 = some (.iconst (-1), 1) := by decide +kernel
theorem zd109_38 : zop 109 38 = some (.if_icmp .ne 7, 3) := by decide +kernel
theorem zd109_41 : zop 109 41 = some (.iconst 1, 1) := by decide +kernel
theorem zd109_42 : zop 109 42 = some (.goto 4, 3) := by decide +kernel
theorem zd109_45 : zop 109 45 = some (.iconst 0, 1) := by decide +kernel
theorem zd109_46 : zop 109 46 = some (.iload 4, 2) := by decide +kernel
theorem zd109_48 : zop 109 48 = some (.invokestatic 249, 3) := by decide +kernel
theorem zd109_51 : zop 109 51 = some (.ior, 1) := by decide +kernel
theorem zd109_52 : zop 109 52 = some (.istore_n 3, 1) := by decide +kernel
theorem zd109_53 : zop 109 53 = some (.iinc 4 1, 3) := by decide +kernel
theorem zd109_56 : zop 109 56 = some (.goto (-51), 3) := by decide +kernel
theorem zd109_59 : zop 109 59 = some (.iload_n 3, 1) := by decide +kernel
theorem zd109_60 : zop 109 60 = some (.ireturn, 1) := by decide +kernel
theorem b109_0 {x : zXs} {F : zF} (hF : zSh F) {d : Nat} {V : Nat → Nat → Int32} {T : Nat → Nat → Int64} {Q : Option Value → zG → Prop} {o0 : Option Value} {o1 : Option Value} {o2 : Option Value} {o3 : Option Value} {o4 : Option Value}   (k : E x F d 109 5 [o0, o1, o2, some (.int (Int32.ofInt 0)), some (.int (Int32.ofInt 0))] [] (V, T) Q) : E x F d 109 0 [o0, o1, o2, o3, o4] [] (V, T) Q := by
  refine e_iconst zd109_0 ?_
  refine e_istore_n zd109_1 (by decide +kernel) (Nat.le_of_ble_eq_true rfl) ?_
  refine e_iconst zd109_2 ?_
  refine e_istore zd109_3 (by decide +kernel) (Nat.le_of_ble_eq_true rfl) ?_
  exact k
theorem b109_5 {x : zXs} {F : zF} (hF : zSh F) {d : Nat} {V : Nat → Nat → Int32} {T : Nat → Nat → Int64} {Q : Option Value → zG → Prop} {o1 : Option Value} {o2 : Option Value} {o3 : Option Value} {l4 : Int32}   (kt : (V 1 5) ≤ l4 → E x F d 109 59 [some (.ref 0), o1, o2, o3, some (.int l4)] [] (V, T) Q) (kf : ¬ ((V 1 5) ≤ l4) → E x F d 109 17 [some (.ref 0), o1, o2, o3, some (.int l4)] [] (V, T) Q) : E x F d 109 5 [some (.ref 0), o1, o2, o3, some (.int l4)] [] (V, T) Q := by
  refine e_iload zd109_5 rfl ?_
  refine e_aload_n zd109_7 rfl rfl ?_
  refine e_getO zd109_8 (own := 7) (ci := 7) (kf := 0) (w := 297) (by decide +kernel) (by decide +kernel) (zsh_at hF rfl).1 (by decide +kernel) rfl (zrf_at hF (i := 0) rfl) ?_
  refine e_getI zd109_11 (own := 7) (ci := 4) (kf := 5) (w := 129) (by decide +kernel) (by decide +kernel) (zsh_at hF rfl).1 (by decide +kernel) rfl ?_
  exact e_icmp_ge zd109_14 (tg := 59) rfl kt kf
theorem b109_17 {x : zXs} {F : zF} (hF : zSh F) {d : Nat} {V : Nat → Nat → Int32} {T : Nat → Nat → Int64} {Q : Option Value → zG → Prop} {o1 : Option Value} {o2 : Option Value} {o3 : Option Value} {o4 : Option Value}   (k : E x F d 83 0 [some (.ref 7), some (.ref 1)] [] (V, T) (fun r G' => E x F (d + 1) 109 28 [some (.ref 0), o1, o2, o3, o4] (r.toList ++ []) G' Q)) : E x F (d + 1) 109 17 [some (.ref 0), o1, o2, o3, o4] [] (V, T) Q := by
  refine e_aload_n zd109_17 rfl rfl ?_
  refine e_getO zd109_18 (own := 7) (ci := 7) (kf := 1) (w := 298) (by decide +kernel) (by decide +kernel) (zsh_at hF rfl).1 (by decide +kernel) rfl (zrf_at hF (i := 1) rfl) ?_
  refine e_aload_n zd109_21 rfl rfl ?_
  refine e_getO zd109_22 (own := 7) (ci := 7) (kf := 0) (w := 297) (by decide +kernel) (by decide +kernel) (zsh_at hF rfl).1 (by decide +kernel) rfl (zrf_at hF (i := 0) rfl) ?_
  exact e_callV zd109_25 (own := 7) (nest := false) (w := 666) (by decide +kernel) (by decide +kernel) zs83 (as := [.ref 1]) (rest := []) rfl rfl (zsh_at hF rfl).1 (by omega) (Nat.le_of_ble_eq_true rfl) rfl rfl rfl (by omega) k
theorem b109_28 {x : zXs} {F : zF} (hF : zSh F) {d : Nat} {V : Nat → Nat → Int32} {T : Nat → Nat → Int64} {Q : Option Value → zG → Prop} {l1 : Nat} {l2 : Int32} {l3 : Int32} {l4 : Int32} (hl1 : zSt4 l1)  (k : E x F d 103 0 [some (.ref 0), some (.ref l1), some (.int l4), some (.int l2), none] [] (V, T) (fun r G' => E x F (d + 1) 109 37 [some (.ref 0), some (.ref l1), some (.int l2), some (.int l3), some (.int l4)] (r.toList ++ [.int l3]) G' Q)) : E x F (d + 1) 109 28 [some (.ref 0), some (.ref l1), some (.int l2), some (.int l3), some (.int l4)] [] (V, T) Q := by
  refine e_iload_n zd109_28 rfl ?_
  refine e_aload_n zd109_29 rfl rfl ?_
  refine e_aload_n zd109_30 rfl rfl ?_
  refine e_iload zd109_31 rfl ?_
  refine e_iload_n zd109_33 rfl ?_
  exact e_callV zd109_34 (own := 7) (nest := false) (w := 746) (by decide +kernel) (by decide +kernel) zs103 (as := [.ref l1, .int l4, .int l2]) (rest := [.int l3]) rfl rfl (zsh_at hF rfl).1 (by omega) (Nat.le_of_ble_eq_true rfl) rfl rfl rfl (by omega) k
theorem b109_37 {x : zXs} {F : zF} (hF : zSh F) {d : Nat} {V : Nat → Nat → Int32} {T : Nat → Nat → Int64} {Q : Option Value → zG → Prop} {o0 : Option Value} {o1 : Option Value} {o2 : Option Value} {o3 : Option Value} {o4 : Option Value} {s0 : Int32} {s1 : Int32}   (kt : ¬ s1 = (Int32.ofInt (-1)) → E x F d 109 45 [o0, o1, o2, o3, o4] [.int s0] (V, T) Q) (kf : ¬ (¬ s1 = (Int32.ofInt (-1))) → E x F d 109 41 [o0, o1, o2, o3, o4] [.int s0] (V, T) Q) : E x F d 109 37 [o0, o1, o2, o3, o4] [.int s1, .int s0] (V, T) Q := by
  refine e_iconst zd109_37 ?_
  exact e_icmp_ne zd109_38 (tg := 45) rfl kt kf
theorem b109_41 {x : zXs} {F : zF} (hF : zSh F) {d : Nat} {V : Nat → Nat → Int32} {T : Nat → Nat → Int64} {Q : Option Value → zG → Prop} {o0 : Option Value} {o1 : Option Value} {o2 : Option Value} {o3 : Option Value} {o4 : Option Value} {s0 : Int32}   (k : E x F d 109 46 [o0, o1, o2, o3, o4] [.int (Int32.ofInt 1), .int s0] (V, T) Q) : E x F d 109 41 [o0, o1, o2, o3, o4] [.int s0] (V, T) Q := by
  refine e_iconst zd109_41 ?_
  exact e_goto zd109_42 (tg := 46) rfl k
theorem b109_45 {x : zXs} {F : zF} (hF : zSh F) {d : Nat} {V : Nat → Nat → Int32} {T : Nat → Nat → Int64} {Q : Option Value → zG → Prop} {o0 : Option Value} {o1 : Option Value} {o2 : Option Value} {o3 : Option Value} {o4 : Option Value} {s0 : Int32}   (k : E x F d 109 46 [o0, o1, o2, o3, o4] [.int (Int32.ofInt 0), .int s0] (V, T) Q) : E x F d 109 45 [o0, o1, o2, o3, o4] [.int s0] (V, T) Q := by
  refine e_iconst zd109_45 ?_
  exact k
theorem b109_46 {x : zXs} {F : zF} (hF : zSh F) {d : Nat} {V : Nat → Nat → Int32} {T : Nat → Nat → Int64} {Q : Option Value → zG → Prop} {o0 : Option Value} {o1 : Option Value} {o2 : Option Value} {o3 : Option Value} {l4 : Int32} {s0 : Int32} {s1 : Int32}   (k : E x F d 105 0 [some (.int s1), some (.int l4)] [] (V, T) (fun r G' => E x F (d + 1) 109 51 [o0, o1, o2, o3, some (.int l4)] (r.toList ++ [.int s0]) G' Q)) : E x F (d + 1) 109 46 [o0, o1, o2, o3, some (.int l4)] [.int s1, .int s0] (V, T) Q := by
  refine e_iload zd109_46 rfl ?_
  exact e_callS zd109_48 (own := 7) (nest := false) (w := 754) (by decide +kernel) (by decide +kernel) zs105 (as := [.int s1, .int l4]) (rest := [.int s0]) rfl rfl (Nat.le_of_ble_eq_true rfl) rfl rfl rfl (by omega) k
theorem b109_51 {x : zXs} {F : zF} (hF : zSh F) {d : Nat} {V : Nat → Nat → Int32} {T : Nat → Nat → Int64} {Q : Option Value → zG → Prop} {o0 : Option Value} {o1 : Option Value} {o2 : Option Value} {o3 : Option Value} {l4 : Int32} {s0 : Int32} {s1 : Int32}   (k : E x F d 109 5 [o0, o1, o2, some (.int (s0 ||| s1)), some (.int (l4 + Int32.ofInt 1))] [] (V, T) Q) : E x F d 109 51 [o0, o1, o2, o3, some (.int l4)] [.int s1, .int s0] (V, T) Q := by
  refine e_ior zd109_51 ?_
  refine e_istore_n zd109_52 (by decide +kernel) (Nat.le_of_ble_eq_true rfl) ?_
  refine e_iinc zd109_53 rfl (by decide +kernel) ?_
  exact e_goto zd109_56 (tg := 5) rfl k
theorem b109_59 {x : zXs} {F : zF} (hF : zSh F) {d : Nat} {V : Nat → Nat → Int32} {T : Nat → Nat → Int64} {Q : Option Value → zG → Prop} {o0 : Option Value} {o1 : Option Value} {o2 : Option Value} {l3 : Int32} {o4 : Option Value}   (k : Q (some (.int l3)) (V, T)) : E x F d 109 59 [o0, o1, o2, some (.int l3), o4] [] (V, T) Q := by
  refine e_iload_n zd109_59 rfl ?_
  exact e_ireti zd109_60 zs109 k
theorem zd110_0 : zop 110 0 = some (.iconst 0, 1) := by decide +kernel
theorem zd110_1 : zop 110 1 = some (.istore_n 3, 1) := by decide +kernel
theorem zd110_2 : zop 110 2 = some (.iconst 0, 1) := by decide +kernel
theorem zd110_3 : zop 110 3 = some (.istore 4, 2) := by decide +kernel
theorem zd110_5 : zop 110 5 = some (.iload 4, 2) := by decide +kernel
theorem zd110_7 : zop 110 7 = some (.iconst 4, 1) := by decide +kernel
theorem zd110_8 : zop 110 8 = some (.if_icmp .ge 61, 3) := by decide +kernel
theorem zd110_11 : zop 110 11 = some (.aload_n 0, 1) := by decide +kernel
theorem zd110_12 : zop 110 12 = some (.getfield 16, 3) := by decide +kernel
theorem zd110_15 : zop 110 15 = some (.aload_n 0, 1) := by decide +kernel
theorem zd110_16 : zop 110 16 = some (.getfield 10, 3) := by decide +kernel
theorem zd110_19 : zop 110 19 = some (.invokevirtual 178, 3) := by decide +kernel
theorem zd110_22 : zop 110 22 = some (.iload_n 3, 1) := by decide +kernel
theorem zd110_23 : zop 110 23 = some (.aload_n 1, 1) := by decide +kernel
theorem zd110_24 : zop 110 24 = some (.getfield 216, 3) := by decide +kernel
theorem zd110_27 : zop 110 27 = some (.aload_n 0, 1) := by decide +kernel
theorem zd110_28 : zop 110 28 = some (.getfield 10, 3) := by decide +kernel
theorem zd110_31 : zop 110 31 = some (.iload 4, 2) := by decide +kernel
theorem zd110_33 : zop 110 33 = some (.invokevirtual 111, 3) := by decide +kernel
theorem zd110_36 : zop 110 36 = some (.if_icmp .gt 19, 3) := by decide +kernel
theorem zd110_39 : zop 110 39 = some (.aload_n 0, 1) := by decide +kernel
theorem zd110_40 : zop 110 40 = some (.aload_n 1, 1) := by decide +kernel
theorem zd110_41 : zop 110 41 = some (.iload_n 2, 1) := by decide +kernel
theorem zd110_42 : zop 110 42 = some (.iload 4, 2) := by decide +kernel
theorem zd110_44 : zop 110 44 = some (.invokevirtual 217, 3) := by decide +kernel
theorem zd110_47 : zop 110 47 = some (.iconst (-1), 1) := by decide +kernel
theorem zd110_48 : zop 110 48 = some (.if_icmp .ne 7, 3) := by decide +kernel
theorem zd110_51 : zop 110 51 = some (.iconst 1, 1) := by decide +kernel
theorem zd110_52 : zop 110 52 = some (.goto 4, 3) := by decide +kernel
theorem zd110_55 : zop 110 55 = some (.iconst 0, 1) := by decide +kernel
theorem zd110_56 : zop 110 56 = some (.iload 4, 2) := by decide +kernel
theorem zd110_58 : zop 110 58 = some (.invokestatic 249, 3) := by decide +kernel
theorem zd110_61 : zop 110 61 = some (.ior, 1) := by decide +kernel
theorem zd110_62 : zop 110 62 = some (.istore_n 3, 1) := by decide +kernel
theorem zd110_63 : zop 110 63 = some (.iinc 4 1, 3) := by decide +kernel
theorem zd110_66 : zop 110 66 = some (.goto (-61), 3) := by decide +kernel
theorem zd110_69 : zop 110 69 = some (.iload_n 3, 1) := by decide +kernel
theorem zd110_70 : zop 110 70 = some (.ireturn, 1) := by decide +kernel
theorem b110_0 {x : zXs} {F : zF} (hF : zSh F) {d : Nat} {V : Nat → Nat → Int32} {T : Nat → Nat → Int64} {Q : Option Value → zG → Prop} {o0 : Option Value} {o1 : Option Value} {o2 : Option Value} {o3 : Option Value} {o4 : Option Value}   (k : E x F d 110 5 [o0, o1, o2, some (.int (Int32.ofInt 0)), some (.int (Int32.ofInt 0))] [] (V, T) Q) : E x F d 110 0 [o0, o1, o2, o3, o4] [] (V, T) Q := by
  refine e_iconst zd110_0 ?_
  refine e_istore_n zd110_1 (by decide +kernel) (Nat.le_of_ble_eq_true rfl) ?_
  refine e_iconst zd110_2 ?_
  refine e_istore zd110_3 (by decide +kernel) (Nat.le_of_ble_eq_true rfl) ?_
  exact k
theorem b110_5 {x : zXs} {F : zF} (hF : zSh F) {d : Nat} {V : Nat → Nat → Int32} {T : Nat → Nat → Int64} {Q : Option Value → zG → Prop} {o0 : Option Value} {o1 : Option Value} {o2 : Option Value} {o3 : Option Value} {l4 : Int32}   (kt : (Int32.ofInt 4) ≤ l4 → E x F d 110 69 [o0, o1, o2, o3, some (.int l4)] [] (V, T) Q) (kf : ¬ ((Int32.ofInt 4) ≤ l4) → E x F d 110 11 [o0, o1, o2, o3, some (.int l4)] [] (V, T) Q) : E x F d 110 5 [o0, o1, o2, o3, some (.int l4)] [] (V, T) Q := by
  refine e_iload zd110_5 rfl ?_
  refine e_iconst zd110_7 ?_
  exact e_icmp_ge zd110_8 (tg := 69) rfl kt kf
theorem b110_11 {x : zXs} {F : zF} (hF : zSh F) {d : Nat} {V : Nat → Nat → Int32} {T : Nat → Nat → Int64} {Q : Option Value → zG → Prop} {o1 : Option Value} {o2 : Option Value} {o3 : Option Value} {o4 : Option Value}   (k : E x F d 83 0 [some (.ref 7), some (.ref 1)] [] (V, T) (fun r G' => E x F (d + 1) 110 22 [some (.ref 0), o1, o2, o3, o4] (r.toList ++ []) G' Q)) : E x F (d + 1) 110 11 [some (.ref 0), o1, o2, o3, o4] [] (V, T) Q := by
  refine e_aload_n zd110_11 rfl rfl ?_
  refine e_getO zd110_12 (own := 7) (ci := 7) (kf := 1) (w := 298) (by decide +kernel) (by decide +kernel) (zsh_at hF rfl).1 (by decide +kernel) rfl (zrf_at hF (i := 1) rfl) ?_
  refine e_aload_n zd110_15 rfl rfl ?_
  refine e_getO zd110_16 (own := 7) (ci := 7) (kf := 0) (w := 297) (by decide +kernel) (by decide +kernel) (zsh_at hF rfl).1 (by decide +kernel) rfl (zrf_at hF (i := 0) rfl) ?_
  exact e_callV zd110_19 (own := 7) (nest := false) (w := 666) (by decide +kernel) (by decide +kernel) zs83 (as := [.ref 1]) (rest := []) rfl rfl (zsh_at hF rfl).1 (by omega) (Nat.le_of_ble_eq_true rfl) rfl rfl rfl (by omega) k
theorem b110_22 {x : zXs} {F : zF} (hF : zSh F) {d : Nat} {V : Nat → Nat → Int32} {T : Nat → Nat → Int64} {Q : Option Value → zG → Prop} {l1 : Nat} {o2 : Option Value} {l3 : Int32} {l4 : Int32} (hl1 : zSt4 l1)  (k : E x F d 32 0 [some (.ref 1), some (.int l4), none, none] [] (V, T) (fun r G' => E x F (d + 1) 110 36 [some (.ref 0), some (.ref l1), o2, some (.int l3), some (.int l4)] (r.toList ++ [.int (V l1 2), .int l3]) G' Q)) : E x F (d + 1) 110 22 [some (.ref 0), some (.ref l1), o2, some (.int l3), some (.int l4)] [] (V, T) Q := by
  refine e_iload_n zd110_22 rfl ?_
  refine e_aload_n zd110_23 rfl rfl ?_
  refine e_getI zd110_24 (own := 7) (ci := 3) (kf := 2) (w := 289) (by decide +kernel) (by decide +kernel) (zSt4_s hF hl1).1 (by decide +kernel) rfl ?_
  refine e_aload_n zd110_27 rfl rfl ?_
  refine e_getO zd110_28 (own := 7) (ci := 7) (kf := 0) (w := 297) (by decide +kernel) (by decide +kernel) (zsh_at hF rfl).1 (by decide +kernel) rfl (zrf_at hF (i := 0) rfl) ?_
  refine e_iload zd110_31 rfl ?_
  exact e_callV zd110_33 (own := 7) (nest := false) (w := 411) (by decide +kernel) (by decide +kernel) zs32 (as := [.int l4]) (rest := [.int (V l1 2), .int l3]) rfl rfl (zsh_at hF rfl).1 (by omega) (Nat.le_of_ble_eq_true rfl) rfl rfl rfl (by omega) k
theorem b110_36 {x : zXs} {F : zF} (hF : zSh F) {d : Nat} {V : Nat → Nat → Int32} {T : Nat → Nat → Int64} {Q : Option Value → zG → Prop} {o0 : Option Value} {o1 : Option Value} {o2 : Option Value} {o3 : Option Value} {o4 : Option Value} {s0 : Int32} {s1 : Int32} {s2 : Int32}   (kt : s2 < s1 → E x F d 110 55 [o0, o1, o2, o3, o4] [.int s0] (V, T) Q) (kf : ¬ (s2 < s1) → E x F d 110 39 [o0, o1, o2, o3, o4] [.int s0] (V, T) Q) : E x F d 110 36 [o0, o1, o2, o3, o4] [.int s2, .int s1, .int s0] (V, T) Q := by
  exact e_icmp_gt zd110_36 (tg := 55) rfl kt kf
theorem b110_39 {x : zXs} {F : zF} (hF : zSh F) {d : Nat} {V : Nat → Nat → Int32} {T : Nat → Nat → Int64} {Q : Option Value → zG → Prop} {l1 : Nat} {l2 : Int32} {o3 : Option Value} {l4 : Int32} {s0 : Int32} (hl1 : zSt4 l1)  (k : E x F d 103 0 [some (.ref 0), some (.ref l1), some (.int l2), some (.int l4), none] [] (V, T) (fun r G' => E x F (d + 1) 110 47 [some (.ref 0), some (.ref l1), some (.int l2), o3, some (.int l4)] (r.toList ++ [.int s0]) G' Q)) : E x F (d + 1) 110 39 [some (.ref 0), some (.ref l1), some (.int l2), o3, some (.int l4)] [.int s0] (V, T) Q := by
  refine e_aload_n zd110_39 rfl rfl ?_
  refine e_aload_n zd110_40 rfl rfl ?_
  refine e_iload_n zd110_41 rfl ?_
  refine e_iload zd110_42 rfl ?_
  exact e_callV zd110_44 (own := 7) (nest := false) (w := 746) (by decide +kernel) (by decide +kernel) zs103 (as := [.ref l1, .int l2, .int l4]) (rest := [.int s0]) rfl rfl (zsh_at hF rfl).1 (by omega) (Nat.le_of_ble_eq_true rfl) rfl rfl rfl (by omega) k
theorem b110_47 {x : zXs} {F : zF} (hF : zSh F) {d : Nat} {V : Nat → Nat → Int32} {T : Nat → Nat → Int64} {Q : Option Value → zG → Prop} {o0 : Option Value} {o1 : Option Value} {o2 : Option Value} {o3 : Option Value} {o4 : Option Value} {s0 : Int32} {s1 : Int32}   (kt : ¬ s1 = (Int32.ofInt (-1)) → E x F d 110 55 [o0, o1, o2, o3, o4] [.int s0] (V, T) Q) (kf : ¬ (¬ s1 = (Int32.ofInt (-1))) → E x F d 110 51 [o0, o1, o2, o3, o4] [.int s0] (V, T) Q) : E x F d 110 47 [o0, o1, o2, o3, o4] [.int s1, .int s0] (V, T) Q := by
  refine e_iconst zd110_47 ?_
  exact e_icmp_ne zd110_48 (tg := 55) rfl kt kf
theorem b110_51 {x : zXs} {F : zF} (hF : zSh F) {d : Nat} {V : Nat → Nat → Int32} {T : Nat → Nat → Int64} {Q : Option Value → zG → Prop} {o0 : Option Value} {o1 : Option Value} {o2 : Option Value} {o3 : Option Value} {o4 : Option Value} {s0 : Int32}   (k : E x F d 110 56 [o0, o1, o2, o3, o4] [.int (Int32.ofInt 1), .int s0] (V, T) Q) : E x F d 110 51 [o0, o1, o2, o3, o4] [.int s0] (V, T) Q := by
  refine e_iconst zd110_51 ?_
  exact e_goto zd110_52 (tg := 56) rfl k
theorem b110_55 {x : zXs} {F : zF} (hF : zSh F) {d : Nat} {V : Nat → Nat → Int32} {T : Nat → Nat → Int64} {Q : Option Value → zG → Prop} {o0 : Option Value} {o1 : Option Value} {o2 : Option Value} {o3 : Option Value} {o4 : Option Value} {s0 : Int32}   (k : E x F d 110 56 [o0, o1, o2, o3, o4] [.int (Int32.ofInt 0), .int s0] (V, T) Q) : E x F d 110 55 [o0, o1, o2, o3, o4] [.int s0] (V, T) Q := by
  refine e_iconst zd110_55 ?_
  exact k
theorem b110_56 {x : zXs} {F : zF} (hF : zSh F) {d : Nat} {V : Nat → Nat → Int32} {T : Nat → Nat → Int64} {Q : Option Value → zG → Prop} {o0 : Option Value} {o1 : Option Value} {o2 : Option Value} {o3 : Option Value} {l4 : Int32} {s0 : Int32} {s1 : Int32}   (k : E x F d 105 0 [some (.int s1), some (.int l4)] [] (V, T) (fun r G' => E x F (d + 1) 110 61 [o0, o1, o2, o3, some (.int l4)] (r.toList ++ [.int s0]) G' Q)) : E x F (d + 1) 110 56 [o0, o1, o2, o3, some (.int l4)] [.int s1, .int s0] (V, T) Q := by
  refine e_iload zd110_56 rfl ?_
  exact e_callS zd110_58 (own := 7) (nest := false) (w := 754) (by decide +kernel) (by decide +kernel) zs105 (as := [.int s1, .int l4]) (rest := [.int s0]) rfl rfl (Nat.le_of_ble_eq_true rfl) rfl rfl rfl (by omega) k
theorem b110_61 {x : zXs} {F : zF} (hF : zSh F) {d : Nat} {V : Nat → Nat → Int32} {T : Nat → Nat → Int64} {Q : Option Value → zG → Prop} {o0 : Option Value} {o1 : Option Value} {o2 : Option Value} {o3 : Option Value} {l4 : Int32} {s0 : Int32} {s1 : Int32}   (k : E x F d 110 5 [o0, o1, o2, some (.int (s0 ||| s1)), some (.int (l4 + Int32.ofInt 1))] [] (V, T) Q) : E x F d 110 61 [o0, o1, o2, o3, some (.int l4)] [.int s1, .int s0] (V, T) Q := by
  refine e_ior zd110_61 ?_
  refine e_istore_n zd110_62 (by decide +kernel) (Nat.le_of_ble_eq_true rfl) ?_
  refine e_iinc zd110_63 rfl (by decide +kernel) ?_
  exact e_goto zd110_66 (tg := 5) rfl k
theorem b110_69 {x : zXs} {F : zF} (hF : zSh F) {d : Nat} {V : Nat → Nat → Int32} {T : Nat → Nat → Int64} {Q : Option Value → zG → Prop} {o0 : Option Value} {o1 : Option Value} {o2 : Option Value} {l3 : Int32} {o4 : Option Value}   (k : Q (some (.int l3)) (V, T)) : E x F d 110 69 [o0, o1, o2, some (.int l3), o4] [] (V, T) Q := by
  refine e_iload_n zd110_69 rfl ?_
  exact e_ireti zd110_70 zs110 k
theorem zd111_0 : zop 111 0 = some (.aload_n 0, 1) := by decide +kernel
theorem zd111_1 : zop 111 1 = some (.iload_n 1, 1) := by decide +kernel
theorem zd111_2 : zop 111 2 = some (.invokevirtual 210, 3) := by decide +kernel
theorem zd111_5 : zop 111 5 = some (.ifCond .eq 25, 3) := by decide +kernel
theorem zd111_8 : zop 111 8 = some (.aload_n 0, 1) := by decide +kernel
theorem zd111_9 : zop 111 9 = some (.getfield 10, 3) := by decide +kernel
theorem zd111_12 : zop 111 12 = some (.iload_n 2, 1) := by decide +kernel
theorem zd111_13 : zop 111 13 = some (.invokevirtual 91, 3) := by decide +kernel
theorem zd111_16 : zop 111 16 = some (.ifCond .eq 14, 3) := by decide +kernel
theorem zd111_19 : zop 111 19 = some (.aload_n 0, 1) := by decide +kernel
theorem zd111_20 : zop 111 20 = some (.getfield 10, 3) := by decide +kernel
theorem zd111_23 : zop 111 23 = some (.iload_n 3, 1) := by decide +kernel
theorem zd111_24 : zop 111 24 = some (.invokevirtual 55, 3) := by decide +kernel
theorem zd111_27 : zop 111 27 = some (.ifCond .ne 6, 3) := by decide +kernel
theorem zd111_30 : zop 111 30 = some (.bipush (-2), 2) := by decide +kernel
theorem zd111_32 : zop 111 32 = some (.ireturn, 1) := by decide +kernel
theorem zd111_33 : zop 111 33 = some (.aload_n 0, 1) := by decide +kernel
theorem zd111_34 : zop 111 34 = some (.getfield 16, 3) := by decide +kernel
theorem zd111_37 : zop 111 37 = some (.aload_n 0, 1) := by decide +kernel
theorem zd111_38 : zop 111 38 = some (.getfield 10, 3) := by decide +kernel
theorem zd111_41 : zop 111 41 = some (.invokevirtual 178, 3) := by decide +kernel
theorem zd111_44 : zop 111 44 = some (.aload_n 0, 1) := by decide +kernel
theorem zd111_45 : zop 111 45 = some (.getfield 25, 3) := by decide +kernel
theorem zd111_48 : zop 111 48 = some (.aload_n 0, 1) := by decide +kernel
theorem zd111_49 : zop 111 49 = some (.getfield 16, 3) := by decide +kernel
theorem zd111_52 : zop 111 52 = some (.iload_n 2, 1) := by decide +kernel
theorem zd111_53 : zop 111 53 = some (.iload_n 3, 1) := by decide +kernel
theorem zd111_54 : zop 111 54 = some (.invokevirtual 156, 3) := by decide +kernel
theorem zd111_57 : zop 111 57 = some (.pop, 1) := by decide +kernel
theorem zd111_58 : zop 111 58 = some (.aload_n 0, 1) := by decide +kernel
theorem zd111_59 : zop 111 59 = some (.getfield 50, 3) := by decide +kernel
theorem zd111_62 : zop 111 62 = some (.iload_n 1, 1) := by decide +kernel
theorem zd111_63 : zop 111 63 = some (.aaload, 1) := by decide +kernel
theorem zd111_64 : zop 111 64 = some (.astore 4, 2) := by decide +kernel
theorem zd111_66 : zop 111 66 = some (.aload 4, 2) := by decide +kernel
theorem zd111_68 : zop 111 68 = some (.iconst 0, 1) := by decide +kernel
theorem zd111_69 : zop 111 69 = some (.aload_n 0, 1) := by decide +kernel
theorem zd111_70 : zop 111 70 = some (.getfield 25, 3) := by decide +kernel
theorem zd111_73 : zop 111 73 = some (.getfield 241, 3) := by decide +kernel
theorem zd111_76 : zop 111 76 = some (.invokevirtual 253, 3) := by decide +kernel
theorem zd111_79 : zop 111 79 = some (.iconst 0, 1) := by decide +kernel
theorem zd111_80 : zop 111 80 = some (.istore 5, 2) := by decide +kernel
theorem zd111_82 : zop 111 82 = some (.iload 5, 2) := by decide +kernel
theorem zd111_84 : zop 111 84 = some (.aload_n 0, 1) := by decide +kernel
theorem zd111_85 : zop 111 85 = some (.getfield 25, 3) := by decide +kernel
theorem zd111_88 : zop 111 88 = some (.getfield 241, 3) := by decide +kernel
theorem zd111_91 : zop 111 91 = some (.if_icmp .ge 27, 3) := by decide +kernel
theorem zd111_94 : zop 111 94 = some (.aload 4, 2) := by decide +kernel
theorem zd111_96 : zop 111 96 = some (.iload 5, 2) := by decide +kernel
theorem zd111_98 : zop 111 98 = some (.aload_n 0, 1) := by decide +kernel
theorem zd111_99 : zop 111 99 = some (.getfield 25, 3) := by decide +kernel
theorem zd111_102 : zop 111 102 = some (.getfield 246, 3) := by decide +kernel
theorem zd111_105 : zop 111 105 = some (.iload 5, 2) := by decide +kernel
theorem zd111_107 : zop 111 107 = some (.iaload, 1) := by decide +kernel
theorem zd111_108 : zop 111 108 = some (.invokevirtual 256, 3) := by decide +kernel
theorem zd111_111 : zop 111 111 = some (.pop, 1) := by decide +kernel
theorem zd111_112 : zop 111 112 = some (.iinc 5 1, 3) := by decide +kernel
theorem zd111_115 : zop 111 115 = some (.goto (-33), 3) := by decide +kernel
theorem zd111_118 : zop 111 118 = some (.aload_n 0, 1) := by decide +kernel
theorem zd111_119 : zop 111 119 = some (.getfield 25, 3) := by decide +kernel
theorem zd111_122 : zop 111 122 = some (.getfield 241, 3) := by decide +kernel
theorem zd111_125 : zop 111 125 = some (.ireturn, 1) := by decide +kernel
theorem b111_0 {x : zXs} {F : zF} (hF : zSh F) {d : Nat} {V : Nat → Nat → Int32} {T : Nat → Nat → Int64} {Q : Option Value → zG → Prop} {l1 : Int32} {o2 : Option Value} {o3 : Option Value} {o4 : Option Value} {o5 : Option Value}   (k : E x F d 101 0 [some (.ref 0), some (.int l1)] [] (V, T) (fun r G' => E x F (d + 1) 111 5 [some (.ref 0), some (.int l1), o2, o3, o4, o5] (r.toList ++ []) G' Q)) : E x F (d + 1) 111 0 [some (.ref 0), some (.int l1), o2, o3, o4, o5] [] (V, T) Q := by
  refine e_aload_n zd111_0 rfl rfl ?_
  refine e_iload_n zd111_1 rfl ?_
  exact e_callV zd111_2 (own := 7) (nest := false) (w := 738) (by decide +kernel) (by decide +kernel) zs101 (as := [.int l1]) (rest := []) rfl rfl (zsh_at hF rfl).1 (by omega) (Nat.le_of_ble_eq_true rfl) rfl rfl rfl (by omega) k
theorem b111_5 {x : zXs} {F : zF} (hF : zSh F) {d : Nat} {V : Nat → Nat → Int32} {T : Nat → Nat → Int64} {Q : Option Value → zG → Prop} {o0 : Option Value} {o1 : Option Value} {o2 : Option Value} {o3 : Option Value} {o4 : Option Value} {o5 : Option Value} {s0 : Int32}   (kt : s0 = 0 → E x F d 111 30 [o0, o1, o2, o3, o4, o5] [] (V, T) Q) (kf : ¬ (s0 = 0) → E x F d 111 8 [o0, o1, o2, o3, o4, o5] [] (V, T) Q) : E x F d 111 5 [o0, o1, o2, o3, o4, o5] [.int s0] (V, T) Q := by
  exact e_if_eq zd111_5 (tg := 30) rfl kt kf
theorem b111_8 {x : zXs} {F : zF} (hF : zSh F) {d : Nat} {V : Nat → Nat → Int32} {T : Nat → Nat → Int64} {Q : Option Value → zG → Prop} {o1 : Option Value} {l2 : Int32} {o3 : Option Value} {o4 : Option Value} {o5 : Option Value}   (k : E x F d 19 0 [some (.ref 1), some (.int l2)] [] (V, T) (fun r G' => E x F (d + 1) 111 16 [some (.ref 0), o1, some (.int l2), o3, o4, o5] (r.toList ++ []) G' Q)) : E x F (d + 1) 111 8 [some (.ref 0), o1, some (.int l2), o3, o4, o5] [] (V, T) Q := by
  refine e_aload_n zd111_8 rfl rfl ?_
  refine e_getO zd111_9 (own := 7) (ci := 7) (kf := 0) (w := 297) (by decide +kernel) (by decide +kernel) (zsh_at hF rfl).1 (by decide +kernel) rfl (zrf_at hF (i := 0) rfl) ?_
  refine e_iload_n zd111_12 rfl ?_
  exact e_callV zd111_13 (own := 7) (nest := false) (w := 361) (by decide +kernel) (by decide +kernel) zs19 (as := [.int l2]) (rest := []) rfl rfl (zsh_at hF rfl).1 (by omega) (Nat.le_of_ble_eq_true rfl) rfl rfl rfl (by omega) k
theorem b111_16 {x : zXs} {F : zF} (hF : zSh F) {d : Nat} {V : Nat → Nat → Int32} {T : Nat → Nat → Int64} {Q : Option Value → zG → Prop} {o0 : Option Value} {o1 : Option Value} {o2 : Option Value} {o3 : Option Value} {o4 : Option Value} {o5 : Option Value} {s0 : Int32}   (kt : s0 = 0 → E x F d 111 30 [o0, o1, o2, o3, o4, o5] [] (V, T) Q) (kf : ¬ (s0 = 0) → E x F d 111 19 [o0, o1, o2, o3, o4, o5] [] (V, T) Q) : E x F d 111 16 [o0, o1, o2, o3, o4, o5] [.int s0] (V, T) Q := by
  exact e_if_eq zd111_16 (tg := 30) rfl kt kf
theorem b111_19 {x : zXs} {F : zF} (hF : zSh F) {d : Nat} {V : Nat → Nat → Int32} {T : Nat → Nat → Int64} {Q : Option Value → zG → Prop} {o1 : Option Value} {o2 : Option Value} {l3 : Int32} {o4 : Option Value} {o5 : Option Value}   (k : E x F d 12 0 [some (.ref 1), some (.int l3)] [] (V, T) (fun r G' => E x F (d + 1) 111 27 [some (.ref 0), o1, o2, some (.int l3), o4, o5] (r.toList ++ []) G' Q)) : E x F (d + 1) 111 19 [some (.ref 0), o1, o2, some (.int l3), o4, o5] [] (V, T) Q := by
  refine e_aload_n zd111_19 rfl rfl ?_
  refine e_getO zd111_20 (own := 7) (ci := 7) (kf := 0) (w := 297) (by decide +kernel) (by decide +kernel) (zsh_at hF rfl).1 (by decide +kernel) rfl (zrf_at hF (i := 0) rfl) ?_
  refine e_iload_n zd111_23 rfl ?_
  exact e_callV zd111_24 (own := 7) (nest := false) (w := 329) (by decide +kernel) (by decide +kernel) zs12 (as := [.int l3]) (rest := []) rfl rfl (zsh_at hF rfl).1 (by omega) (Nat.le_of_ble_eq_true rfl) rfl rfl rfl (by omega) k
theorem b111_27 {x : zXs} {F : zF} (hF : zSh F) {d : Nat} {V : Nat → Nat → Int32} {T : Nat → Nat → Int64} {Q : Option Value → zG → Prop} {o0 : Option Value} {o1 : Option Value} {o2 : Option Value} {o3 : Option Value} {o4 : Option Value} {o5 : Option Value} {s0 : Int32}   (kt : ¬ s0 = 0 → E x F d 111 33 [o0, o1, o2, o3, o4, o5] [] (V, T) Q) (kf : ¬ (¬ s0 = 0) → E x F d 111 30 [o0, o1, o2, o3, o4, o5] [] (V, T) Q) : E x F d 111 27 [o0, o1, o2, o3, o4, o5] [.int s0] (V, T) Q := by
  exact e_if_ne zd111_27 (tg := 33) rfl kt kf
theorem b111_30 {x : zXs} {F : zF} (hF : zSh F) {d : Nat} {V : Nat → Nat → Int32} {T : Nat → Nat → Int64} {Q : Option Value → zG → Prop} {o0 : Option Value} {o1 : Option Value} {o2 : Option Value} {o3 : Option Value} {o4 : Option Value} {o5 : Option Value}   (k : Q (some (.int (Int32.ofInt (-2)))) (V, T)) : E x F d 111 30 [o0, o1, o2, o3, o4, o5] [] (V, T) Q := by
  refine e_bipush zd111_30 (v := Int32.ofInt (-2)) (by decide +kernel) ?_
  exact e_ireti zd111_32 zs111 k
theorem b111_33 {x : zXs} {F : zF} (hF : zSh F) {d : Nat} {V : Nat → Nat → Int32} {T : Nat → Nat → Int64} {Q : Option Value → zG → Prop} {o1 : Option Value} {o2 : Option Value} {o3 : Option Value} {o4 : Option Value} {o5 : Option Value}   (k : E x F d 83 0 [some (.ref 7), some (.ref 1)] [] (V, T) (fun r G' => E x F (d + 1) 111 44 [some (.ref 0), o1, o2, o3, o4, o5] (r.toList ++ []) G' Q)) : E x F (d + 1) 111 33 [some (.ref 0), o1, o2, o3, o4, o5] [] (V, T) Q := by
  refine e_aload_n zd111_33 rfl rfl ?_
  refine e_getO zd111_34 (own := 7) (ci := 7) (kf := 1) (w := 298) (by decide +kernel) (by decide +kernel) (zsh_at hF rfl).1 (by decide +kernel) rfl (zrf_at hF (i := 1) rfl) ?_
  refine e_aload_n zd111_37 rfl rfl ?_
  refine e_getO zd111_38 (own := 7) (ci := 7) (kf := 0) (w := 297) (by decide +kernel) (by decide +kernel) (zsh_at hF rfl).1 (by decide +kernel) rfl (zrf_at hF (i := 0) rfl) ?_
  exact e_callV zd111_41 (own := 7) (nest := false) (w := 666) (by decide +kernel) (by decide +kernel) zs83 (as := [.ref 1]) (rest := []) rfl rfl (zsh_at hF rfl).1 (by omega) (Nat.le_of_ble_eq_true rfl) rfl rfl rfl (by omega) k
theorem b111_44 {x : zXs} {F : zF} (hF : zSh F) {d : Nat} {V : Nat → Nat → Int32} {T : Nat → Nat → Int64} {Q : Option Value → zG → Prop} {o1 : Option Value} {l2 : Int32} {l3 : Int32} {o4 : Option Value} {o5 : Option Value}   (k : E x F d 74 0 [some (.ref 19), some (.ref 7), some (.int l2), some (.int l3), none, none, none, none, none, none, none, none, none, none] [] (V, T) (fun r G' => E x F (d + 1) 111 57 [some (.ref 0), o1, some (.int l2), some (.int l3), o4, o5] (r.toList ++ []) G' Q)) : E x F (d + 1) 111 44 [some (.ref 0), o1, some (.int l2), some (.int l3), o4, o5] [] (V, T) Q := by
  refine e_aload_n zd111_44 rfl rfl ?_
  refine e_getO zd111_45 (own := 7) (ci := 7) (kf := 3) (w := 300) (by decide +kernel) (by decide +kernel) (zsh_at hF rfl).1 (by decide +kernel) rfl (zrf_at hF (i := 3) rfl) ?_
  refine e_aload_n zd111_48 rfl rfl ?_
  refine e_getO zd111_49 (own := 7) (ci := 7) (kf := 1) (w := 298) (by decide +kernel) (by decide +kernel) (zsh_at hF rfl).1 (by decide +kernel) rfl (zrf_at hF (i := 1) rfl) ?_
  refine e_iload_n zd111_52 rfl ?_
  refine e_iload_n zd111_53 rfl ?_
  exact e_callV zd111_54 (own := 7) (nest := false) (w := 618) (by decide +kernel) (by decide +kernel) zs74 (as := [.ref 7, .int l2, .int l3]) (rest := []) rfl rfl (zsh_at hF rfl).1 (by omega) (Nat.le_of_ble_eq_true rfl) rfl rfl rfl (by omega) k
theorem b111_57 {x : zXs} {F : zF} (hF : zSh F) {d : Nat} {V : Nat → Nat → Int32} {T : Nat → Nat → Int64} {Q : Option Value → zG → Prop} {l1 : Int32} {o2 : Option Value} {o3 : Option Value} {o4 : Option Value} {o5 : Option Value} {s0 : Int32}  {i1 : Nat} (e1 : l1 = nI i1) (h1 : i1 < 4) (k : E x F d 112 0 [some (.ref (51 + 2 * i1)), some (.int (Int32.ofInt 0)), some (.int (V 19 2))] [] (V, T) (fun r G' => E x F (d + 1) 111 79 [some (.ref 0), some (.int l1), o2, o3, some (.ref (51 + 2 * i1)), o5] (r.toList ++ []) G' Q)) : E x F (d + 1) 111 57 [some (.ref 0), some (.int l1), o2, o3, o4, o5] [.int s0] (V, T) Q := by
  refine e_pop zd111_57 rfl ?_
  refine e_aload_n zd111_58 rfl rfl ?_
  refine e_getA zd111_59 (own := 7) (ci := 7) (kf := 7) (w := 304) (by decide +kernel) (by decide +kernel) (zsh_at hF rfl).1 (by decide +kernel) rfl (zrf_at hF (i := 7) rfl) ?_
  refine e_iload_n zd111_62 rfl ?_
  refine e_aald zd111_63 (i := i1) (n := 4) ⟨Or.inr (zsh_at hF rfl).1, (zsh_at hF rfl).2⟩ e1 h1 (by omega) (zSht_at hF h1).1 ?_
  refine e_astore zd111_64 rfl (by decide +kernel) (Nat.le_of_ble_eq_true rfl) ?_
  refine e_aload zd111_66 rfl rfl ?_
  refine e_iconst zd111_68 ?_
  refine e_aload_n zd111_69 rfl rfl ?_
  refine e_getO zd111_70 (own := 7) (ci := 7) (kf := 3) (w := 300) (by decide +kernel) (by decide +kernel) (zsh_at hF rfl).1 (by decide +kernel) rfl (zrf_at hF (i := 3) rfl) ?_
  refine e_getI zd111_73 (own := 7) (ci := 0) (kf := 2) (w := 216) (by decide +kernel) (by decide +kernel) (zsh_at hF rfl).1 (by decide +kernel) rfl ?_
  exact e_callV zd111_76 (own := 7) (nest := false) (w := 781) (by decide +kernel) (by decide +kernel) zs112 (as := [.int (Int32.ofInt 0), .int (V 19 2)]) (rest := []) rfl rfl (zSt4_s hF (zSht_in (i := i1) h1)).1 (by omega) (Nat.le_of_ble_eq_true rfl) rfl rfl rfl (by omega) k
theorem b111_79 {x : zXs} {F : zF} (hF : zSh F) {d : Nat} {V : Nat → Nat → Int32} {T : Nat → Nat → Int64} {Q : Option Value → zG → Prop} {o0 : Option Value} {o1 : Option Value} {o2 : Option Value} {o3 : Option Value} {o4 : Option Value} {o5 : Option Value}   (k : E x F d 111 82 [o0, o1, o2, o3, o4, some (.int (Int32.ofInt 0))] [] (V, T) Q) : E x F d 111 79 [o0, o1, o2, o3, o4, o5] [] (V, T) Q := by
  refine e_iconst zd111_79 ?_
  refine e_istore zd111_80 (by decide +kernel) (Nat.le_of_ble_eq_true rfl) ?_
  exact k
theorem b111_82 {x : zXs} {F : zF} (hF : zSh F) {d : Nat} {V : Nat → Nat → Int32} {T : Nat → Nat → Int64} {Q : Option Value → zG → Prop} {o1 : Option Value} {o2 : Option Value} {o3 : Option Value} {o4 : Option Value} {l5 : Int32}   (kt : (V 19 2) ≤ l5 → E x F d 111 118 [some (.ref 0), o1, o2, o3, o4, some (.int l5)] [] (V, T) Q) (kf : ¬ ((V 19 2) ≤ l5) → E x F d 111 94 [some (.ref 0), o1, o2, o3, o4, some (.int l5)] [] (V, T) Q) : E x F d 111 82 [some (.ref 0), o1, o2, o3, o4, some (.int l5)] [] (V, T) Q := by
  refine e_iload zd111_82 rfl ?_
  refine e_aload_n zd111_84 rfl rfl ?_
  refine e_getO zd111_85 (own := 7) (ci := 7) (kf := 3) (w := 300) (by decide +kernel) (by decide +kernel) (zsh_at hF rfl).1 (by decide +kernel) rfl (zrf_at hF (i := 3) rfl) ?_
  refine e_getI zd111_88 (own := 7) (ci := 0) (kf := 2) (w := 216) (by decide +kernel) (by decide +kernel) (zsh_at hF rfl).1 (by decide +kernel) rfl ?_
  exact e_icmp_ge zd111_91 (tg := 118) rfl kt kf
theorem b111_94 {x : zXs} {F : zF} (hF : zSh F) {d : Nat} {V : Nat → Nat → Int32} {T : Nat → Nat → Int64} {Q : Option Value → zG → Prop} {o1 : Option Value} {o2 : Option Value} {o3 : Option Value} {l4 : Nat} {l5 : Int32} (hl4 : zSt4 l4) {i1 : Nat} (e1 : l5 = nI i1) (h1 : i1 < 12) (k : E x F d 114 0 [some (.ref l4), some (.int l5), some (.int (V 42 i1))] [] (V, T) (fun r G' => E x F (d + 1) 111 111 [some (.ref 0), o1, o2, o3, some (.ref l4), some (.int l5)] (r.toList ++ []) G' Q)) : E x F (d + 1) 111 94 [some (.ref 0), o1, o2, o3, some (.ref l4), some (.int l5)] [] (V, T) Q := by
  refine e_aload zd111_94 rfl rfl ?_
  refine e_iload zd111_96 rfl ?_
  refine e_aload_n zd111_98 rfl rfl ?_
  refine e_getO zd111_99 (own := 7) (ci := 7) (kf := 3) (w := 300) (by decide +kernel) (by decide +kernel) (zsh_at hF rfl).1 (by decide +kernel) rfl (zrf_at hF (i := 3) rfl) ?_
  refine e_getA zd111_102 (own := 7) (ci := 0) (kf := 1) (w := 214) (by decide +kernel) (by decide +kernel) (zsh_at hF rfl).1 (by decide +kernel) rfl (zrf_at hF (i := 24) rfl) ?_
  refine e_iload zd111_105 rfl ?_
  refine e_iald zd111_107 (i := i1) (zsh_at hF rfl) e1 h1 (by omega) ?_
  exact e_callV zd111_108 (own := 7) (nest := false) (w := 789) (by decide +kernel) (by decide +kernel) zs114 (as := [.int l5, .int (V 42 i1)]) (rest := []) rfl rfl (zSt4_s hF hl4).1 (by omega) (Nat.le_of_ble_eq_true rfl) rfl rfl rfl (by omega) k
theorem b111_111 {x : zXs} {F : zF} (hF : zSh F) {d : Nat} {V : Nat → Nat → Int32} {T : Nat → Nat → Int64} {Q : Option Value → zG → Prop} {o0 : Option Value} {o1 : Option Value} {o2 : Option Value} {o3 : Option Value} {o4 : Option Value} {l5 : Int32} {s0 : Int32}   (k : E x F d 111 82 [o0, o1, o2, o3, o4, some (.int (l5 + Int32.ofInt 1))] [] (V, T) Q) : E x F d 111 111 [o0, o1, o2, o3, o4, some (.int l5)] [.int s0] (V, T) Q := by
  refine e_pop zd111_111 rfl ?_
  refine e_iinc zd111_112 rfl (by decide +kernel) ?_
  exact e_goto zd111_115 (tg := 82) rfl k
theorem b111_118 {x : zXs} {F : zF} (hF : zSh F) {d : Nat} {V : Nat → Nat → Int32} {T : Nat → Nat → Int64} {Q : Option Value → zG → Prop} {o1 : Option Value} {o2 : Option Value} {o3 : Option Value} {o4 : Option Value} {o5 : Option Value}   (k : Q (some (.int (V 19 2))) (V, T)) : E x F d 111 118 [some (.ref 0), o1, o2, o3, o4, o5] [] (V, T) Q := by
  refine e_aload_n zd111_118 rfl rfl ?_
  refine e_getO zd111_119 (own := 7) (ci := 7) (kf := 3) (w := 300) (by decide +kernel) (by decide +kernel) (zsh_at hF rfl).1 (by decide +kernel) rfl (zrf_at hF (i := 3) rfl) ?_
  refine e_getI zd111_122 (own := 7) (ci := 0) (kf := 2) (w := 216) (by decide +kernel) (by decide +kernel) (zsh_at hF rfl).1 (by decide +kernel) rfl ?_
  exact e_ireti zd111_125 zs111 k
theorem zd112_0 : zop 112 0 = some (.aload_n 0, 1) := by decide +kernel
theorem zd112_1 : zop 112 1 = some (.iload_n 1, 1) := by decide +kernel
theorem zd112_2 : zop 112 2 = some (.putfield 15, 3) := by decide +kernel
theorem zd112_5 : zop 112 5 = some (.aload_n 0, 1) := by decide +kernel
theorem zd112_6 : zop 112 6 = some (.iload_n 2, 1) := by decide +kernel
theorem zd112_7 : zop 112 7 = some (.iconst 0, 1) := by decide +kernel
theorem zd112_8 : zop 112 8 = some (.bipush 40, 2) := by decide +kernel
theorem zd112_10 : zop 112 10 = some (.invokestatic 19, 3) := by decide +kernel
theorem zd112_13 : zop 112 13 = some (.putfield 23, 3) := by decide +kernel
theorem zd112_16 : zop 112 16 = some (.aload_n 0, 1) := by decide +kernel
theorem zd112_17 : zop 112 17 = some (.getfield 9, 3) := by decide +kernel
theorem zd112_20 : zop 112 20 = some (.iconst 0, 1) := by decide +kernel
theorem zd112_21 : zop 112 21 = some (.invokestatic 26, 3) := by decide +kernel
theorem zd112_24 : zop 112 24 = some (.return_, 1) := by decide +kernel
theorem b112_0 {x : zXs} {F : zF} (hF : zSh F) {d : Nat} {V : Nat → Nat → Int32} {T : Nat → Nat → Int64} {Q : Option Value → zG → Prop} {l0 : Nat} {l1 : Int32} {l2 : Int32} (hl0 : zSt4 l0)  (k : E x F d 30 0 [some (.int l2), some (.int (Int32.ofInt 0)), some (.int (Int32.ofInt 40))] [] (zu V l0 1 l1, T) (fun r G' => E x F (d + 1) 112 13 [some (.ref l0), some (.int l1), some (.int l2)] (r.toList ++ [.ref l0]) G' Q)) : E x F (d + 1) 112 0 [some (.ref l0), some (.int l1), some (.int l2)] [] (V, T) Q := by
  refine e_aload_n zd112_0 rfl rfl ?_
  refine e_iload_n zd112_1 rfl ?_
  refine e_putI zd112_2 (own := 3) (ci := 3) (kf := 1) (w := 286) (by decide +kernel) (by decide +kernel) (zSt4_s hF hl0).1 (by decide +kernel) rfl ?_
  refine e_aload_n zd112_5 rfl rfl ?_
  refine e_iload_n zd112_6 rfl ?_
  refine e_iconst zd112_7 ?_
  refine e_bipush zd112_8 (v := Int32.ofInt 40) (by decide +kernel) ?_
  exact e_callS zd112_10 (own := 3) (nest := true) (w := 785) (by decide +kernel) (by decide +kernel) zs30 (as := [.int l2, .int (Int32.ofInt 0), .int (Int32.ofInt 40)]) (rest := [.ref l0]) rfl rfl (Nat.le_of_ble_eq_true rfl) rfl rfl rfl (by omega) k
theorem b112_13 {x : zXs} {F : zF} (hF : zSh F) {d : Nat} {V : Nat → Nat → Int32} {T : Nat → Nat → Int64} {Q : Option Value → zG → Prop} {l0 : Nat} {o1 : Option Value} {o2 : Option Value} {s0 : Nat} {s1 : Int32} (hl0 : zSt4 l0) (hs0 : zSt4 s0)  (k : E x F d 113 0 [some (.ref (l0 + 1)), some (.int (Int32.ofInt 0)), none, none] [] (zu V s0 2 s1, T) (fun r G' => E x F (d + 1) 112 24 [some (.ref l0), o1, o2] (r.toList ++ []) G' Q)) : E x F (d + 1) 112 13 [some (.ref l0), o1, o2] [.int s1, .ref s0] (V, T) Q := by
  refine e_putI zd112_13 (own := 3) (ci := 3) (kf := 2) (w := 288) (by decide +kernel) (by decide +kernel) (zSt4_s hF hs0).1 (by decide +kernel) rfl ?_
  refine e_aload_n zd112_16 rfl rfl ?_
  refine e_getA zd112_17 (own := 3) (ci := 3) (kf := 0) (w := 284) (by decide +kernel) (by decide +kernel) (zSt4_s hF hl0).1 (by decide +kernel) rfl (zSt4_f0 hF hl0) ?_
  refine e_iconst zd112_20 ?_
  exact e_callS zd112_21 (own := 3) (nest := false) (w := 786) (by decide +kernel) (by decide +kernel) zs113 (as := [.ref (l0 + 1), .int (Int32.ofInt 0)]) (rest := []) rfl rfl (Nat.le_of_ble_eq_true rfl) rfl rfl rfl (by omega) k
theorem b112_24 {x : zXs} {F : zF} (hF : zSh F) {d : Nat} {V : Nat → Nat → Int32} {T : Nat → Nat → Int64} {Q : Option Value → zG → Prop} {o0 : Option Value} {o1 : Option Value} {o2 : Option Value}   (k : Q none (V, T)) : E x F d 112 24 [o0, o1, o2] [] (V, T) Q := by
  exact e_vret zd112_24 zs112 k
theorem zd113_0 : zop 113 0 = some (.iconst 0, 1) := by decide +kernel
theorem zd113_1 : zop 113 1 = some (.istore_n 2, 1) := by decide +kernel
theorem zd113_2 : zop 113 2 = some (.aload_n 0, 1) := by decide +kernel
theorem zd113_3 : zop 113 3 = some (.arraylength, 1) := by decide +kernel
theorem zd113_4 : zop 113 4 = some (.istore_n 3, 1) := by decide +kernel
theorem zd113_5 : zop 113 5 = some (.iload_n 2, 1) := by decide +kernel
theorem zd113_6 : zop 113 6 = some (.iload_n 3, 1) := by decide +kernel
theorem zd113_7 : zop 113 7 = some (.if_icmp .ge 13, 3) := by decide +kernel
theorem zd113_10 : zop 113 10 = some (.aload_n 0, 1) := by decide +kernel
theorem zd113_11 : zop 113 11 = some (.iload_n 2, 1) := by decide +kernel
theorem zd113_12 : zop 113 12 = some (.iload_n 1, 1) := by decide +kernel
theorem zd113_13 : zop 113 13 = some (.iastore, 1) := by decide +kernel
theorem zd113_14 : zop 113 14 = some (.iinc 2 1, 3) := by decide +kernel
theorem zd113_17 : zop 113 17 = some (.goto (-12), 3) := by decide +kernel
theorem zd113_20 : zop 113 20 = some (.return_, 1) := by decide +kernel
theorem b113_0 {x : zXs} {F : zF} (hF : zSh F) {d : Nat} {V : Nat → Nat → Int32} {T : Nat → Nat → Int64} {Q : Option Value → zG → Prop} {l0 : Nat} {nl0 : Nat} {o1 : Option Value} {o2 : Option Value} {o3 : Option Value} (hl0 : zsh F l0 = 100 ∧ zln F l0 = nl0) (qnl0 : nl0 < 2 ^ 31)  (k : E x F d 113 5 [some (.ref l0), o1, some (.int (Int32.ofInt 0)), some (.int (nI nl0))] [] (V, T) Q) : E x F d 113 0 [some (.ref l0), o1, o2, o3] [] (V, T) Q := by
  refine e_iconst zd113_0 ?_
  refine e_istore_n zd113_1 (by decide +kernel) (Nat.le_of_ble_eq_true rfl) ?_
  refine e_aload_n zd113_2 rfl rfl ?_
  refine e_alen zd113_3 ⟨by rw [(hl0).1]; decide, by rw [(hl0).1]; decide⟩ (hl0).2 ?_
  refine e_istore_n zd113_4 (by decide +kernel) (Nat.le_of_ble_eq_true rfl) ?_
  exact k
theorem b113_5 {x : zXs} {F : zF} (hF : zSh F) {d : Nat} {V : Nat → Nat → Int32} {T : Nat → Nat → Int64} {Q : Option Value → zG → Prop} {o0 : Option Value} {o1 : Option Value} {l2 : Int32} {l3 : Int32}   (kt : l3 ≤ l2 → E x F d 113 20 [o0, o1, some (.int l2), some (.int l3)] [] (V, T) Q) (kf : ¬ (l3 ≤ l2) → E x F d 113 10 [o0, o1, some (.int l2), some (.int l3)] [] (V, T) Q) : E x F d 113 5 [o0, o1, some (.int l2), some (.int l3)] [] (V, T) Q := by
  refine e_iload_n zd113_5 rfl ?_
  refine e_iload_n zd113_6 rfl ?_
  exact e_icmp_ge zd113_7 (tg := 20) rfl kt kf
theorem b113_10 {x : zXs} {F : zF} (hF : zSh F) {d : Nat} {V : Nat → Nat → Int32} {T : Nat → Nat → Int64} {Q : Option Value → zG → Prop} {l0 : Nat} {nl0 : Nat} {l1 : Int32} {l2 : Int32} {o3 : Option Value} (hl0 : zsh F l0 = 100 ∧ zln F l0 = nl0) (qnl0 : nl0 < 2 ^ 31) {i1 : Nat} (e1 : l2 = nI i1) (h1 : i1 < nl0) (k : E x F d 113 5 [some (.ref l0), some (.int l1), some (.int (l2 + Int32.ofInt 1)), o3] [] (zu V l0 i1 l1, T) Q) : E x F d 113 10 [some (.ref l0), some (.int l1), some (.int l2), o3] [] (V, T) Q := by
  refine e_aload_n zd113_10 rfl rfl ?_
  refine e_iload_n zd113_11 rfl ?_
  refine e_iload_n zd113_12 rfl ?_
  refine e_iast zd113_13 (i := i1) (hl0) e1 h1 qnl0 ?_
  refine e_iinc zd113_14 rfl (by decide +kernel) ?_
  exact e_goto zd113_17 (tg := 5) rfl k
theorem b113_20 {x : zXs} {F : zF} (hF : zSh F) {d : Nat} {V : Nat → Nat → Int32} {T : Nat → Nat → Int64} {Q : Option Value → zG → Prop} {o0 : Option Value} {o1 : Option Value} {o2 : Option Value} {o3 : Option Value}   (k : Q none (V, T)) : E x F d 113 20 [o0, o1, o2, o3] [] (V, T) Q := by
  exact e_vret zd113_20 zs113 k
theorem zd114_0 : zop 114 0 = some (.aload_n 0, 1) := by decide +kernel
theorem zd114_1 : zop 114 1 = some (.iload_n 1, 1) := by decide +kernel
theorem zd114_2 : zop 114 2 = some (.iconst 1, 1) := by decide +kernel
theorem zd114_3 : zop 114 3 = some (.invokevirtual 32, 3) := by decide +kernel
theorem zd114_6 : zop 114 6 = some (.ifCond .ne 5, 3) := by decide +kernel
theorem zd114_9 : zop 114 9 = some (.iconst 0, 1) := by decide +kernel
theorem zd114_10 : zop 114 10 = some (.ireturn, 1) := by decide +kernel
theorem zd114_11 : zop 114 11 = some (.aload_n 0, 1) := by decide +kernel
theorem zd114_12 : zop 114 12 = some (.getfield 9, 3) := by decide +kernel
theorem zd114_15 : zop 114 15 = some (.iload_n 1, 1) := by decide +kernel
theorem zd114_16 : zop 114 16 = some (.aload_n 0, 1) := by decide +kernel
theorem zd114_17 : zop 114 17 = some (.getfield 15, 3) := by decide +kernel
theorem zd114_20 : zop 114 20 = some (.ifCond .ne 8, 3) := by decide +kernel
theorem zd114_23 : zop 114 23 = some (.iload_n 2, 1) := by decide +kernel
theorem zd114_24 : zop 114 24 = some (.i2b, 1) := by decide +kernel
theorem zd114_25 : zop 114 25 = some (.goto 17, 3) := by decide +kernel
theorem zd114_28 : zop 114 28 = some (.aload_n 0, 1) := by decide +kernel
theorem zd114_29 : zop 114 29 = some (.getfield 15, 3) := by decide +kernel
theorem zd114_32 : zop 114 32 = some (.iconst 1, 1) := by decide +kernel
theorem zd114_33 : zop 114 33 = some (.if_icmp .ne 8, 3) := by decide +kernel
theorem zd114_36 : zop 114 36 = some (.iload_n 2, 1) := by decide +kernel
theorem zd114_37 : zop 114 37 = some (.i2s, 1) := by decide +kernel
theorem zd114_38 : zop 114 38 = some (.goto 4, 3) := by decide +kernel
theorem zd114_41 : zop 114 41 = some (.iload_n 2, 1) := by decide +kernel
theorem zd114_42 : zop 114 42 = some (.iastore, 1) := by decide +kernel
theorem zd114_43 : zop 114 43 = some (.iconst 1, 1) := by decide +kernel
theorem zd114_44 : zop 114 44 = some (.ireturn, 1) := by decide +kernel
theorem b114_0 {x : zXs} {F : zF} (hF : zSh F) {d : Nat} {V : Nat → Nat → Int32} {T : Nat → Nat → Int64} {Q : Option Value → zG → Prop} {l0 : Nat} {l1 : Int32} {o2 : Option Value} (hl0 : zSt4 l0)  (k : E x F d 115 0 [some (.ref l0), some (.int l1), some (.int (Int32.ofInt 1))] [] (V, T) (fun r G' => E x F (d + 1) 114 6 [some (.ref l0), some (.int l1), o2] (r.toList ++ []) G' Q)) : E x F (d + 1) 114 0 [some (.ref l0), some (.int l1), o2] [] (V, T) Q := by
  refine e_aload_n zd114_0 rfl rfl ?_
  refine e_iload_n zd114_1 rfl ?_
  refine e_iconst zd114_2 ?_
  exact e_callV zd114_3 (own := 3) (nest := false) (w := 793) (by decide +kernel) (by decide +kernel) zs115 (as := [.int l1, .int (Int32.ofInt 1)]) (rest := []) rfl rfl (zSt4_s hF hl0).1 (by omega) (Nat.le_of_ble_eq_true rfl) rfl rfl rfl (by omega) k
theorem b114_6 {x : zXs} {F : zF} (hF : zSh F) {d : Nat} {V : Nat → Nat → Int32} {T : Nat → Nat → Int64} {Q : Option Value → zG → Prop} {o0 : Option Value} {o1 : Option Value} {o2 : Option Value} {s0 : Int32}   (kt : ¬ s0 = 0 → E x F d 114 11 [o0, o1, o2] [] (V, T) Q) (kf : ¬ (¬ s0 = 0) → E x F d 114 9 [o0, o1, o2] [] (V, T) Q) : E x F d 114 6 [o0, o1, o2] [.int s0] (V, T) Q := by
  exact e_if_ne zd114_6 (tg := 11) rfl kt kf
theorem b114_9 {x : zXs} {F : zF} (hF : zSh F) {d : Nat} {V : Nat → Nat → Int32} {T : Nat → Nat → Int64} {Q : Option Value → zG → Prop} {o0 : Option Value} {o1 : Option Value} {o2 : Option Value}   (k : Q (some (.int (Int32.ofInt 0))) (V, T)) : E x F d 114 9 [o0, o1, o2] [] (V, T) Q := by
  refine e_iconst zd114_9 ?_
  exact e_iretz zd114_10 zs114 (by decide +kernel) k
theorem b114_11 {x : zXs} {F : zF} (hF : zSh F) {d : Nat} {V : Nat → Nat → Int32} {T : Nat → Nat → Int64} {Q : Option Value → zG → Prop} {l0 : Nat} {l1 : Int32} {o2 : Option Value} (hl0 : zSt4 l0)  (kt : ¬ (V l0 1) = 0 → E x F d 114 28 [some (.ref l0), some (.int l1), o2] [.int l1, .ref (l0 + 1)] (V, T) Q) (kf : ¬ (¬ (V l0 1) = 0) → E x F d 114 23 [some (.ref l0), some (.int l1), o2] [.int l1, .ref (l0 + 1)] (V, T) Q) : E x F d 114 11 [some (.ref l0), some (.int l1), o2] [] (V, T) Q := by
  refine e_aload_n zd114_11 rfl rfl ?_
  refine e_getA zd114_12 (own := 3) (ci := 3) (kf := 0) (w := 284) (by decide +kernel) (by decide +kernel) (zSt4_s hF hl0).1 (by decide +kernel) rfl (zSt4_f0 hF hl0) ?_
  refine e_iload_n zd114_15 rfl ?_
  refine e_aload_n zd114_16 rfl rfl ?_
  refine e_getI zd114_17 (own := 3) (ci := 3) (kf := 1) (w := 286) (by decide +kernel) (by decide +kernel) (zSt4_s hF hl0).1 (by decide +kernel) rfl ?_
  exact e_if_ne zd114_20 (tg := 28) rfl kt kf
theorem b114_23 {x : zXs} {F : zF} (hF : zSh F) {d : Nat} {V : Nat → Nat → Int32} {T : Nat → Nat → Int64} {Q : Option Value → zG → Prop} {o0 : Option Value} {o1 : Option Value} {l2 : Int32} {s0 : Nat} {ns0 : Nat} {s1 : Int32} (hs0 : zsh F s0 = 100 ∧ zln F s0 = ns0) (qns0 : ns0 < 2 ^ 31)  (k : E x F d 114 42 [o0, o1, some (.int l2)] [.int l2.toInt8.toInt32, .int s1, .ref s0] (V, T) Q) : E x F d 114 23 [o0, o1, some (.int l2)] [.int s1, .ref s0] (V, T) Q := by
  refine e_iload_n zd114_23 rfl ?_
  refine e_i2b zd114_24 ?_
  exact e_goto zd114_25 (tg := 42) rfl k
theorem b114_28 {x : zXs} {F : zF} (hF : zSh F) {d : Nat} {V : Nat → Nat → Int32} {T : Nat → Nat → Int64} {Q : Option Value → zG → Prop} {l0 : Nat} {o1 : Option Value} {o2 : Option Value} {s0 : Nat} {ns0 : Nat} {s1 : Int32} (hl0 : zSt4 l0) (hs0 : zsh F s0 = 100 ∧ zln F s0 = ns0) (qns0 : ns0 < 2 ^ 31)  (kt : ¬ (V l0 1) = (Int32.ofInt 1) → E x F d 114 41 [some (.ref l0), o1, o2] [.int s1, .ref s0] (V, T) Q) (kf : ¬ (¬ (V l0 1) = (Int32.ofInt 1)) → E x F d 114 36 [some (.ref l0), o1, o2] [.int s1, .ref s0] (V, T) Q) : E x F d 114 28 [some (.ref l0), o1, o2] [.int s1, .ref s0] (V, T) Q := by
  refine e_aload_n zd114_28 rfl rfl ?_
  refine e_getI zd114_29 (own := 3) (ci := 3) (kf := 1) (w := 286) (by decide +kernel) (by decide +kernel) (zSt4_s hF hl0).1 (by decide +kernel) rfl ?_
  refine e_iconst zd114_32 ?_
  exact e_icmp_ne zd114_33 (tg := 41) rfl kt kf
theorem b114_36 {x : zXs} {F : zF} (hF : zSh F) {d : Nat} {V : Nat → Nat → Int32} {T : Nat → Nat → Int64} {Q : Option Value → zG → Prop} {o0 : Option Value} {o1 : Option Value} {l2 : Int32} {s0 : Nat} {ns0 : Nat} {s1 : Int32} (hs0 : zsh F s0 = 100 ∧ zln F s0 = ns0) (qns0 : ns0 < 2 ^ 31)  (k : E x F d 114 42 [o0, o1, some (.int l2)] [.int l2.toInt16.toInt32, .int s1, .ref s0] (V, T) Q) : E x F d 114 36 [o0, o1, some (.int l2)] [.int s1, .ref s0] (V, T) Q := by
  refine e_iload_n zd114_36 rfl ?_
  refine e_i2s zd114_37 ?_
  exact e_goto zd114_38 (tg := 42) rfl k
theorem b114_41 {x : zXs} {F : zF} (hF : zSh F) {d : Nat} {V : Nat → Nat → Int32} {T : Nat → Nat → Int64} {Q : Option Value → zG → Prop} {o0 : Option Value} {o1 : Option Value} {l2 : Int32} {s0 : Nat} {ns0 : Nat} {s1 : Int32} (hs0 : zsh F s0 = 100 ∧ zln F s0 = ns0) (qns0 : ns0 < 2 ^ 31)  (k : E x F d 114 42 [o0, o1, some (.int l2)] [.int l2, .int s1, .ref s0] (V, T) Q) : E x F d 114 41 [o0, o1, some (.int l2)] [.int s1, .ref s0] (V, T) Q := by
  refine e_iload_n zd114_41 rfl ?_
  exact k
theorem b114_42 {x : zXs} {F : zF} (hF : zSh F) {d : Nat} {V : Nat → Nat → Int32} {T : Nat → Nat → Int64} {Q : Option Value → zG → Prop} {o0 : Option Value} {o1 : Option Value} {o2 : Option Value} {s0 : Nat} {ns0 : Nat} {s1 : Int32} {s2 : Int32} (hs0 : zsh F s0 = 100 ∧ zln F s0 = ns0) (qns0 : ns0 < 2 ^ 31) {i1 : Nat} (e1 : s1 = nI i1) (h1 : i1 < ns0) (k : Q (some (.int (Int32.ofInt 1))) (zu V s0 i1 s2, T)) : E x F d 114 42 [o0, o1, o2] [.int s2, .int s1, .ref s0] (V, T) Q := by
  refine e_iast zd114_42 (i := i1) (hs0) e1 h1 qns0 ?_
  refine e_iconst zd114_43 ?_
  exact e_iretz zd114_44 zs114 (by decide +kernel) k
theorem zd115_0 : zop 115 0 = some (.iload_n 2, 1) := by decide +kernel
theorem zd115_1 : zop 115 1 = some (.ifCond .lt 21, 3) := by decide +kernel
theorem zd115_4 : zop 115 4 = some (.iload_n 1, 1) := by decide +kernel
theorem zd115_5 : zop 115 5 = some (.ifCond .lt 17, 3) := by decide +kernel
theorem zd115_8 : zop 115 8 = some (.iload_n 1, 1) := by decide +kernel
theorem zd115_9 : zop 115 9 = some (.aload_n 0, 1) := by decide +kernel
theorem zd115_10 : zop 115 10 = some (.getfield 23, 3) := by decide +kernel
theorem zd115_13 : zop 115 13 = some (.iload_n 2, 1) := by decide +kernel
theorem zd115_14 : zop 115 14 = some (.isub, 1) := by decide +kernel
theorem zd115_15 : zop 115 15 = some (.if_icmp .gt 7, 3) := by decide +kernel
theorem zd115_18 : zop 115 18 = some (.iconst 1, 1) := by decide +kernel
theorem zd115_19 : zop 115 19 = some (.goto 4, 3) := by decide +kernel
theorem zd115_22 : zop 115 22 = some (.iconst 0, 1) := by decide +kernel
theorem zd115_23 : zop 115 23 = some (.ireturn, 1) := by decide +kernel
theorem b115_0 {x : zXs} {F : zF} (hF : zSh F) {d : Nat} {V : Nat → Nat → Int32} {T : Nat → Nat → Int64} {Q : Option Value → zG → Prop} {o0 : Option Value} {o1 : Option Value} {l2 : Int32}   (kt : l2 < 0 → E x F d 115 22 [o0, o1, some (.int l2)] [] (V, T) Q) (kf : ¬ (l2 < 0) → E x F d 115 4 [o0, o1, some (.int l2)] [] (V, T) Q) : E x F d 115 0 [o0, o1, some (.int l2)] [] (V, T) Q := by
  refine e_iload_n zd115_0 rfl ?_
  exact e_if_lt zd115_1 (tg := 22) rfl kt kf
theorem b115_4 {x : zXs} {F : zF} (hF : zSh F) {d : Nat} {V : Nat → Nat → Int32} {T : Nat → Nat → Int64} {Q : Option Value → zG → Prop} {o0 : Option Value} {l1 : Int32} {o2 : Option Value}   (kt : l1 < 0 → E x F d 115 22 [o0, some (.int l1), o2] [] (V, T) Q) (kf : ¬ (l1 < 0) → E x F d 115 8 [o0, some (.int l1), o2] [] (V, T) Q) : E x F d 115 4 [o0, some (.int l1), o2] [] (V, T) Q := by
  refine e_iload_n zd115_4 rfl ?_
  exact e_if_lt zd115_5 (tg := 22) rfl kt kf
theorem b115_8 {x : zXs} {F : zF} (hF : zSh F) {d : Nat} {V : Nat → Nat → Int32} {T : Nat → Nat → Int64} {Q : Option Value → zG → Prop} {l0 : Nat} {l1 : Int32} {l2 : Int32} (hl0 : zSt4 l0)  (kt : ((V l0 2) - l2) < l1 → E x F d 115 22 [some (.ref l0), some (.int l1), some (.int l2)] [] (V, T) Q) (kf : ¬ (((V l0 2) - l2) < l1) → E x F d 115 18 [some (.ref l0), some (.int l1), some (.int l2)] [] (V, T) Q) : E x F d 115 8 [some (.ref l0), some (.int l1), some (.int l2)] [] (V, T) Q := by
  refine e_iload_n zd115_8 rfl ?_
  refine e_aload_n zd115_9 rfl rfl ?_
  refine e_getI zd115_10 (own := 3) (ci := 3) (kf := 2) (w := 288) (by decide +kernel) (by decide +kernel) (zSt4_s hF hl0).1 (by decide +kernel) rfl ?_
  refine e_iload_n zd115_13 rfl ?_
  refine e_isub zd115_14 ?_
  exact e_icmp_gt zd115_15 (tg := 22) rfl kt kf
theorem b115_18 {x : zXs} {F : zF} (hF : zSh F) {d : Nat} {V : Nat → Nat → Int32} {T : Nat → Nat → Int64} {Q : Option Value → zG → Prop} {o0 : Option Value} {o1 : Option Value} {o2 : Option Value}   (k : E x F d 115 23 [o0, o1, o2] [.int (Int32.ofInt 1)] (V, T) Q) : E x F d 115 18 [o0, o1, o2] [] (V, T) Q := by
  refine e_iconst zd115_18 ?_
  exact e_goto zd115_19 (tg := 23) rfl k
theorem b115_22 {x : zXs} {F : zF} (hF : zSh F) {d : Nat} {V : Nat → Nat → Int32} {T : Nat → Nat → Int64} {Q : Option Value → zG → Prop} {o0 : Option Value} {o1 : Option Value} {o2 : Option Value}   (k : E x F d 115 23 [o0, o1, o2] [.int (Int32.ofInt 0)] (V, T) Q) : E x F d 115 22 [o0, o1, o2] [] (V, T) Q := by
  refine e_iconst zd115_22 ?_
  exact k
theorem b115_23 {x : zXs} {F : zF} (hF : zSh F) {d : Nat} {V : Nat → Nat → Int32} {T : Nat → Nat → Int64} {Q : Option Value → zG → Prop} {o0 : Option Value} {o1 : Option Value} {o2 : Option Value} {s0 : Int32}  (b1 : narrow .boolean (.int s0) = .int s0) (k : Q (some (.int s0)) (V, T)) : E x F d 115 23 [o0, o1, o2] [.int s0] (V, T) Q := by
  exact e_iretz zd115_23 zs115 b1 k
theorem zd116_0 : zop 116 0 = some (.aload_n 0, 1) := by decide +kernel
theorem zd116_1 : zop 116 1 = some (.getfield 10, 3) := by decide +kernel
theorem zd116_4 : zop 116 4 = some (.iload_n 2, 1) := by decide +kernel
theorem zd116_5 : zop 116 5 = some (.invokevirtual 91, 3) := by decide +kernel
theorem zd116_8 : zop 116 8 = some (.ifCond .eq 12, 3) := by decide +kernel
theorem zd116_11 : zop 116 11 = some (.aload_n 0, 1) := by decide +kernel
theorem zd116_12 : zop 116 12 = some (.iload_n 1, 1) := by decide +kernel
theorem zd116_13 : zop 116 13 = some (.iload_n 2, 1) := by decide +kernel
theorem zd116_14 : zop 116 14 = some (.invokevirtual 259, 3) := by decide +kernel
theorem zd116_17 : zop 116 17 = some (.goto 5, 3) := by decide +kernel
theorem zd116_20 : zop 116 20 = some (.bipush (-100), 2) := by decide +kernel
theorem zd116_22 : zop 116 22 = some (.ireturn, 1) := by decide +kernel
theorem b116_0 {x : zXs} {F : zF} (hF : zSh F) {d : Nat} {V : Nat → Nat → Int32} {T : Nat → Nat → Int64} {Q : Option Value → zG → Prop} {o1 : Option Value} {l2 : Int32}   (k : E x F d 19 0 [some (.ref 1), some (.int l2)] [] (V, T) (fun r G' => E x F (d + 1) 116 8 [some (.ref 0), o1, some (.int l2)] (r.toList ++ []) G' Q)) : E x F (d + 1) 116 0 [some (.ref 0), o1, some (.int l2)] [] (V, T) Q := by
  refine e_aload_n zd116_0 rfl rfl ?_
  refine e_getO zd116_1 (own := 7) (ci := 7) (kf := 0) (w := 297) (by decide +kernel) (by decide +kernel) (zsh_at hF rfl).1 (by decide +kernel) rfl (zrf_at hF (i := 0) rfl) ?_
  refine e_iload_n zd116_4 rfl ?_
  exact e_callV zd116_5 (own := 7) (nest := false) (w := 361) (by decide +kernel) (by decide +kernel) zs19 (as := [.int l2]) (rest := []) rfl rfl (zsh_at hF rfl).1 (by omega) (Nat.le_of_ble_eq_true rfl) rfl rfl rfl (by omega) k
theorem b116_8 {x : zXs} {F : zF} (hF : zSh F) {d : Nat} {V : Nat → Nat → Int32} {T : Nat → Nat → Int64} {Q : Option Value → zG → Prop} {o0 : Option Value} {o1 : Option Value} {o2 : Option Value} {s0 : Int32}   (kt : s0 = 0 → E x F d 116 20 [o0, o1, o2] [] (V, T) Q) (kf : ¬ (s0 = 0) → E x F d 116 11 [o0, o1, o2] [] (V, T) Q) : E x F d 116 8 [o0, o1, o2] [.int s0] (V, T) Q := by
  exact e_if_eq zd116_8 (tg := 20) rfl kt kf
theorem b116_11 {x : zXs} {F : zF} (hF : zSh F) {d : Nat} {V : Nat → Nat → Int32} {T : Nat → Nat → Int64} {Q : Option Value → zG → Prop} {l1 : Int32} {l2 : Int32}   (k : E x F d 117 0 [some (.ref 0), some (.int l1), some (.int l2), none, none, none] [] (V, T) (fun r G' => E x F (d + 1) 116 17 [some (.ref 0), some (.int l1), some (.int l2)] (r.toList ++ []) G' Q)) : E x F (d + 1) 116 11 [some (.ref 0), some (.int l1), some (.int l2)] [] (V, T) Q := by
  refine e_aload_n zd116_11 rfl rfl ?_
  refine e_iload_n zd116_12 rfl ?_
  refine e_iload_n zd116_13 rfl ?_
  exact e_callV zd116_14 (own := 7) (nest := false) (w := 801) (by decide +kernel) (by decide +kernel) zs117 (as := [.int l1, .int l2]) (rest := []) rfl rfl (zsh_at hF rfl).1 (by omega) (Nat.le_of_ble_eq_true rfl) rfl rfl rfl (by omega) k
theorem b116_17 {x : zXs} {F : zF} (hF : zSh F) {d : Nat} {V : Nat → Nat → Int32} {T : Nat → Nat → Int64} {Q : Option Value → zG → Prop} {o0 : Option Value} {o1 : Option Value} {o2 : Option Value} {s0 : Int32}   (k : E x F d 116 22 [o0, o1, o2] [.int s0] (V, T) Q) : E x F d 116 17 [o0, o1, o2] [.int s0] (V, T) Q := by
  exact e_goto zd116_17 (tg := 22) rfl k
theorem b116_20 {x : zXs} {F : zF} (hF : zSh F) {d : Nat} {V : Nat → Nat → Int32} {T : Nat → Nat → Int64} {Q : Option Value → zG → Prop} {o0 : Option Value} {o1 : Option Value} {o2 : Option Value}   (k : E x F d 116 22 [o0, o1, o2] [.int (Int32.ofInt (-100))] (V, T) Q) : E x F d 116 20 [o0, o1, o2] [] (V, T) Q := by
  refine e_bipush zd116_20 (v := Int32.ofInt (-100)) (by decide +kernel) ?_
  exact k
theorem b116_22 {x : zXs} {F : zF} (hF : zSh F) {d : Nat} {V : Nat → Nat → Int32} {T : Nat → Nat → Int64} {Q : Option Value → zG → Prop} {o0 : Option Value} {o1 : Option Value} {o2 : Option Value} {s0 : Int32}   (k : Q (some (.int s0)) (V, T)) : E x F d 116 22 [o0, o1, o2] [.int s0] (V, T) Q := by
  exact e_ireti zd116_22 zs116 k
theorem zd117_0 : zop 117 0 = some (.iload_n 1, 1) := by decide +kernel
theorem zd117_1 : zop 117 1 = some (.istore_n 3, 1) := by decide +kernel
theorem zd117_2 : zop 117 2 = some (.iconst 0, 1) := by decide +kernel
theorem zd117_3 : zop 117 3 = some (.istore 4, 2) := by decide +kernel
theorem zd117_5 : zop 117 5 = some (.iconst 0, 1) := by decide +kernel
theorem zd117_6 : zop 117 6 = some (.istore 5, 2) := by decide +kernel
theorem zd117_8 : zop 117 8 = some (.iload 5, 2) := by decide +kernel
theorem zd117_10 : zop 117 10 = some (.bipush 24, 2) := by decide +kernel
theorem zd117_12 : zop 117 12 = some (.if_icmp .ge 43, 3) := by decide +kernel
theorem zd117_15 : zop 117 15 = some (.iload_n 3, 1) := by decide +kernel
theorem zd117_16 : zop 117 16 = some (.ldc_w 262, 3) := by decide +kernel
theorem zd117_19 : zop 117 19 = some (.imul, 1) := by decide +kernel
theorem zd117_20 : zop 117 20 = some (.sipush 12345, 3) := by decide +kernel
theorem zd117_23 : zop 117 23 = some (.iadd, 1) := by decide +kernel
theorem zd117_24 : zop 117 24 = some (.istore_n 3, 1) := by decide +kernel
theorem zd117_25 : zop 117 25 = some (.iload 4, 2) := by decide +kernel
theorem zd117_27 : zop 117 27 = some (.iload_n 3, 1) := by decide +kernel
theorem zd117_28 : zop 117 28 = some (.bipush 9, 2) := by decide +kernel
theorem zd117_30 : zop 117 30 = some (.iushr, 1) := by decide +kernel
theorem zd117_31 : zop 117 31 = some (.iconst 3, 1) := by decide +kernel
theorem zd117_32 : zop 117 32 = some (.irem, 1) := by decide +kernel
theorem zd117_33 : zop 117 33 = some (.ifCond .eq 7, 3) := by decide +kernel
theorem zd117_36 : zop 117 36 = some (.iconst 1, 1) := by decide +kernel
theorem zd117_37 : zop 117 37 = some (.goto 4, 3) := by decide +kernel
theorem zd117_40 : zop 117 40 = some (.iconst 0, 1) := by decide +kernel
theorem zd117_41 : zop 117 41 = some (.iload 5, 2) := by decide +kernel
theorem zd117_43 : zop 117 43 = some (.invokestatic 249, 3) := by decide +kernel
theorem zd117_46 : zop 117 46 = some (.ior, 1) := by decide +kernel
theorem zd117_47 : zop 117 47 = some (.istore 4, 2) := by decide +kernel
theorem zd117_49 : zop 117 49 = some (.iinc 5 1, 3) := by decide +kernel
theorem zd117_52 : zop 117 52 = some (.goto (-44), 3) := by decide +kernel
theorem zd117_55 : zop 117 55 = some (.aload_n 0, 1) := by decide +kernel
theorem zd117_56 : zop 117 56 = some (.getfield 16, 3) := by decide +kernel
theorem zd117_59 : zop 117 59 = some (.aload_n 0, 1) := by decide +kernel
theorem zd117_60 : zop 117 60 = some (.getfield 10, 3) := by decide +kernel
theorem zd117_63 : zop 117 63 = some (.invokevirtual 178, 3) := by decide +kernel
theorem zd117_66 : zop 117 66 = some (.aload_n 0, 1) := by decide +kernel
theorem zd117_67 : zop 117 67 = some (.getfield 16, 3) := by decide +kernel
theorem zd117_70 : zop 117 70 = some (.getfield 63, 3) := by decide +kernel
theorem zd117_73 : zop 117 73 = some (.iconst 0, 1) := by decide +kernel
theorem zd117_74 : zop 117 74 = some (.bipush 24, 2) := by decide +kernel
theorem zd117_76 : zop 117 76 = some (.iastore, 1) := by decide +kernel
theorem zd117_77 : zop 117 77 = some (.aload_n 0, 1) := by decide +kernel
theorem zd117_78 : zop 117 78 = some (.getfield 16, 3) := by decide +kernel
theorem zd117_81 : zop 117 81 = some (.getfield 67, 3) := by decide +kernel
theorem zd117_84 : zop 117 84 = some (.iconst 0, 1) := by decide +kernel
theorem zd117_85 : zop 117 85 = some (.iload 4, 2) := by decide +kernel
theorem zd117_87 : zop 117 87 = some (.iastore, 1) := by decide +kernel
theorem zd117_88 : zop 117 88 = some (.aload_n 0, 1) := by decide +kernel
theorem zd117_89 : zop 117 89 = some (.getfield 25, 3) := by decide +kernel
theorem zd117_92 : zop 117 92 = some (.aload_n 0, 1) := by decide +kernel
theorem zd117_93 : zop 117 93 = some (.getfield 16, 3) := by decide +kernel
theorem zd117_96 : zop 117 96 = some (.iload_n 2, 1) := by decide +kernel
theorem zd117_97 : zop 117 97 = some (.iconst 0, 1) := by decide +kernel
theorem zd117_98 : zop 117 98 = some (.invokevirtual 156, 3) := by decide +kernel
theorem zd117_101 : zop 117 101 = some (.ireturn, 1) := by decide +kernel
theorem b117_0 {x : zXs} {F : zF} (hF : zSh F) {d : Nat} {V : Nat → Nat → Int32} {T : Nat → Nat → Int64} {Q : Option Value → zG → Prop} {o0 : Option Value} {l1 : Int32} {o2 : Option Value} {o3 : Option Value} {o4 : Option Value} {o5 : Option Value}   (k : E x F d 117 8 [o0, some (.int l1), o2, some (.int l1), some (.int (Int32.ofInt 0)), some (.int (Int32.ofInt 0))] [] (V, T) Q) : E x F d 117 0 [o0, some (.int l1), o2, o3, o4, o5] [] (V, T) Q := by
  refine e_iload_n zd117_0 rfl ?_
  refine e_istore_n zd117_1 (by decide +kernel) (Nat.le_of_ble_eq_true rfl) ?_
  refine e_iconst zd117_2 ?_
  refine e_istore zd117_3 (by decide +kernel) (Nat.le_of_ble_eq_true rfl) ?_
  refine e_iconst zd117_5 ?_
  refine e_istore zd117_6 (by decide +kernel) (Nat.le_of_ble_eq_true rfl) ?_
  exact k
theorem b117_8 {x : zXs} {F : zF} (hF : zSh F) {d : Nat} {V : Nat → Nat → Int32} {T : Nat → Nat → Int64} {Q : Option Value → zG → Prop} {o0 : Option Value} {o1 : Option Value} {o2 : Option Value} {o3 : Option Value} {o4 : Option Value} {l5 : Int32}   (kt : (Int32.ofInt 24) ≤ l5 → E x F d 117 55 [o0, o1, o2, o3, o4, some (.int l5)] [] (V, T) Q) (kf : ¬ ((Int32.ofInt 24) ≤ l5) → E x F d 117 15 [o0, o1, o2, o3, o4, some (.int l5)] [] (V, T) Q) : E x F d 117 8 [o0, o1, o2, o3, o4, some (.int l5)] [] (V, T) Q := by
  refine e_iload zd117_8 rfl ?_
  refine e_bipush zd117_10 (v := Int32.ofInt 24) (by decide +kernel) ?_
  exact e_icmp_ge zd117_12 (tg := 55) rfl kt kf
theorem b117_15 {x : zXs} {F : zF} (hF : zSh F) {d : Nat} {V : Nat → Nat → Int32} {T : Nat → Nat → Int64} {Q : Option Value → zG → Prop} {o0 : Option Value} {o1 : Option Value} {o2 : Option Value} {l3 : Int32} {l4 : Int32} {o5 : Option Value}   (kt : (((((l3 * (1103515245 : Int32)) + (Int32.ofInt 12345)).toUInt32 >>> ((Int32.ofInt 9).toUInt32 &&& Int32.toUInt32 31)).toInt32) - ((((l3 * (1103515245 : Int32)) + (Int32.ofInt 12345)).toUInt32 >>> ((Int32.ofInt 9).toUInt32 &&& Int32.toUInt32 31)).toInt32) / (Int32.ofInt 3) * (Int32.ofInt 3)) = 0 → E x F d 117 40 [o0, o1, o2, some (.int ((l3 * (1103515245 : Int32)) + (Int32.ofInt 12345))), some (.int l4), o5] [.int l4] (V, T) Q) (kf : ¬ ((((((l3 * (1103515245 : Int32)) + (Int32.ofInt 12345)).toUInt32 >>> ((Int32.ofInt 9).toUInt32 &&& Int32.toUInt32 31)).toInt32) - ((((l3 * (1103515245 : Int32)) + (Int32.ofInt 12345)).toUInt32 >>> ((Int32.ofInt 9).toUInt32 &&& Int32.toUInt32 31)).toInt32) / (Int32.ofInt 3) * (Int32.ofInt 3)) = 0) → E x F d 117 36 [o0, o1, o2, some (.int ((l3 * (1103515245 : Int32)) + (Int32.ofInt 12345))), some (.int l4), o5] [.int l4] (V, T) Q) : E x F d 117 15 [o0, o1, o2, some (.int l3), some (.int l4), o5] [] (V, T) Q := by
  refine e_iload_n zd117_15 rfl ?_
  refine e_ldcw zd117_16 (own := 7) (w := 805) (v := 1103515245) (by decide +kernel) (by decide +kernel) ?_
  refine e_imul zd117_19 ?_
  refine e_sipush zd117_20 (v := Int32.ofInt 12345) (by decide +kernel) ?_
  refine e_iadd zd117_23 ?_
  refine e_istore_n zd117_24 (by decide +kernel) (Nat.le_of_ble_eq_true rfl) ?_
  refine e_iload zd117_25 rfl ?_
  refine e_iload_n zd117_27 rfl ?_
  refine e_bipush zd117_28 (v := Int32.ofInt 9) (by decide +kernel) ?_
  refine e_iushr zd117_30 ?_
  refine e_iconst zd117_31 ?_
  refine e_irem zd117_32 (by decide +kernel) ?_
  exact e_if_eq zd117_33 (tg := 40) rfl kt kf
theorem b117_36 {x : zXs} {F : zF} (hF : zSh F) {d : Nat} {V : Nat → Nat → Int32} {T : Nat → Nat → Int64} {Q : Option Value → zG → Prop} {o0 : Option Value} {o1 : Option Value} {o2 : Option Value} {o3 : Option Value} {o4 : Option Value} {o5 : Option Value} {s0 : Int32}   (k : E x F d 117 41 [o0, o1, o2, o3, o4, o5] [.int (Int32.ofInt 1), .int s0] (V, T) Q) : E x F d 117 36 [o0, o1, o2, o3, o4, o5] [.int s0] (V, T) Q := by
  refine e_iconst zd117_36 ?_
  exact e_goto zd117_37 (tg := 41) rfl k
theorem b117_40 {x : zXs} {F : zF} (hF : zSh F) {d : Nat} {V : Nat → Nat → Int32} {T : Nat → Nat → Int64} {Q : Option Value → zG → Prop} {o0 : Option Value} {o1 : Option Value} {o2 : Option Value} {o3 : Option Value} {o4 : Option Value} {o5 : Option Value} {s0 : Int32}   (k : E x F d 117 41 [o0, o1, o2, o3, o4, o5] [.int (Int32.ofInt 0), .int s0] (V, T) Q) : E x F d 117 40 [o0, o1, o2, o3, o4, o5] [.int s0] (V, T) Q := by
  refine e_iconst zd117_40 ?_
  exact k
theorem b117_41 {x : zXs} {F : zF} (hF : zSh F) {d : Nat} {V : Nat → Nat → Int32} {T : Nat → Nat → Int64} {Q : Option Value → zG → Prop} {o0 : Option Value} {o1 : Option Value} {o2 : Option Value} {o3 : Option Value} {o4 : Option Value} {l5 : Int32} {s0 : Int32} {s1 : Int32}   (k : E x F d 105 0 [some (.int s1), some (.int l5)] [] (V, T) (fun r G' => E x F (d + 1) 117 46 [o0, o1, o2, o3, o4, some (.int l5)] (r.toList ++ [.int s0]) G' Q)) : E x F (d + 1) 117 41 [o0, o1, o2, o3, o4, some (.int l5)] [.int s1, .int s0] (V, T) Q := by
  refine e_iload zd117_41 rfl ?_
  exact e_callS zd117_43 (own := 7) (nest := false) (w := 754) (by decide +kernel) (by decide +kernel) zs105 (as := [.int s1, .int l5]) (rest := [.int s0]) rfl rfl (Nat.le_of_ble_eq_true rfl) rfl rfl rfl (by omega) k
theorem b117_46 {x : zXs} {F : zF} (hF : zSh F) {d : Nat} {V : Nat → Nat → Int32} {T : Nat → Nat → Int64} {Q : Option Value → zG → Prop} {o0 : Option Value} {o1 : Option Value} {o2 : Option Value} {o3 : Option Value} {o4 : Option Value} {l5 : Int32} {s0 : Int32} {s1 : Int32}   (k : E x F d 117 8 [o0, o1, o2, o3, some (.int (s0 ||| s1)), some (.int (l5 + Int32.ofInt 1))] [] (V, T) Q) : E x F d 117 46 [o0, o1, o2, o3, o4, some (.int l5)] [.int s1, .int s0] (V, T) Q := by
  refine e_ior zd117_46 ?_
  refine e_istore zd117_47 (by decide +kernel) (Nat.le_of_ble_eq_true rfl) ?_
  refine e_iinc zd117_49 rfl (by decide +kernel) ?_
  exact e_goto zd117_52 (tg := 8) rfl k
theorem b117_55 {x : zXs} {F : zF} (hF : zSh F) {d : Nat} {V : Nat → Nat → Int32} {T : Nat → Nat → Int64} {Q : Option Value → zG → Prop} {o1 : Option Value} {o2 : Option Value} {o3 : Option Value} {o4 : Option Value} {o5 : Option Value}   (k : E x F d 83 0 [some (.ref 7), some (.ref 1)] [] (V, T) (fun r G' => E x F (d + 1) 117 66 [some (.ref 0), o1, o2, o3, o4, o5] (r.toList ++ []) G' Q)) : E x F (d + 1) 117 55 [some (.ref 0), o1, o2, o3, o4, o5] [] (V, T) Q := by
  refine e_aload_n zd117_55 rfl rfl ?_
  refine e_getO zd117_56 (own := 7) (ci := 7) (kf := 1) (w := 298) (by decide +kernel) (by decide +kernel) (zsh_at hF rfl).1 (by decide +kernel) rfl (zrf_at hF (i := 1) rfl) ?_
  refine e_aload_n zd117_59 rfl rfl ?_
  refine e_getO zd117_60 (own := 7) (ci := 7) (kf := 0) (w := 297) (by decide +kernel) (by decide +kernel) (zsh_at hF rfl).1 (by decide +kernel) rfl (zrf_at hF (i := 0) rfl) ?_
  exact e_callV zd117_63 (own := 7) (nest := false) (w := 666) (by decide +kernel) (by decide +kernel) zs83 (as := [.ref 1]) (rest := []) rfl rfl (zsh_at hF rfl).1 (by omega) (Nat.le_of_ble_eq_true rfl) rfl rfl rfl (by omega) k
theorem b117_66 {x : zXs} {F : zF} (hF : zSh F) {d : Nat} {V : Nat → Nat → Int32} {T : Nat → Nat → Int64} {Q : Option Value → zG → Prop} {o1 : Option Value} {l2 : Int32} {o3 : Option Value} {l4 : Int32} {o5 : Option Value}   (k : E x F d 74 0 [some (.ref 19), some (.ref 7), some (.int l2), some (.int (Int32.ofInt 0)), none, none, none, none, none, none, none, none, none, none] [] (zu (zu V 8 0 (Int32.ofInt 24)) 9 0 l4, T) (fun r G' => E x F (d + 1) 117 101 [some (.ref 0), o1, some (.int l2), o3, some (.int l4), o5] (r.toList ++ []) G' Q)) : E x F (d + 1) 117 66 [some (.ref 0), o1, some (.int l2), o3, some (.int l4), o5] [] (V, T) Q := by
  refine e_aload_n zd117_66 rfl rfl ?_
  refine e_getO zd117_67 (own := 7) (ci := 7) (kf := 1) (w := 298) (by decide +kernel) (by decide +kernel) (zsh_at hF rfl).1 (by decide +kernel) rfl (zrf_at hF (i := 1) rfl) ?_
  refine e_getA zd117_70 (own := 7) (ci := 4) (kf := 0) (w := 111) (by decide +kernel) (by decide +kernel) (zsh_at hF rfl).1 (by decide +kernel) rfl (zrf_at hF (i := 13) rfl) ?_
  refine e_iconst zd117_73 ?_
  refine e_bipush zd117_74 (v := Int32.ofInt 24) (by decide +kernel) ?_
  refine e_iast zd117_76 (i := 0) (zsh_at hF rfl) rfl (by omega) (by omega) ?_
  refine e_aload_n zd117_77 rfl rfl ?_
  refine e_getO zd117_78 (own := 7) (ci := 7) (kf := 1) (w := 298) (by decide +kernel) (by decide +kernel) (zsh_at hF rfl).1 (by decide +kernel) rfl (zrf_at hF (i := 1) rfl) ?_
  refine e_getA zd117_81 (own := 7) (ci := 4) (kf := 1) (w := 114) (by decide +kernel) (by decide +kernel) (zsh_at hF rfl).1 (by decide +kernel) rfl (zrf_at hF (i := 14) rfl) ?_
  refine e_iconst zd117_84 ?_
  refine e_iload zd117_85 rfl ?_
  refine e_iast zd117_87 (i := 0) (zsh_at hF rfl) rfl (by omega) (by omega) ?_
  refine e_aload_n zd117_88 rfl rfl ?_
  refine e_getO zd117_89 (own := 7) (ci := 7) (kf := 3) (w := 300) (by decide +kernel) (by decide +kernel) (zsh_at hF rfl).1 (by decide +kernel) rfl (zrf_at hF (i := 3) rfl) ?_
  refine e_aload_n zd117_92 rfl rfl ?_
  refine e_getO zd117_93 (own := 7) (ci := 7) (kf := 1) (w := 298) (by decide +kernel) (by decide +kernel) (zsh_at hF rfl).1 (by decide +kernel) rfl (zrf_at hF (i := 1) rfl) ?_
  refine e_iload_n zd117_96 rfl ?_
  refine e_iconst zd117_97 ?_
  exact e_callV zd117_98 (own := 7) (nest := false) (w := 618) (by decide +kernel) (by decide +kernel) zs74 (as := [.ref 7, .int l2, .int (Int32.ofInt 0)]) (rest := []) rfl rfl (zsh_at hF rfl).1 (by omega) (Nat.le_of_ble_eq_true rfl) rfl rfl rfl (by omega) k
theorem b117_101 {x : zXs} {F : zF} (hF : zSh F) {d : Nat} {V : Nat → Nat → Int32} {T : Nat → Nat → Int64} {Q : Option Value → zG → Prop} {o0 : Option Value} {o1 : Option Value} {o2 : Option Value} {o3 : Option Value} {o4 : Option Value} {o5 : Option Value} {s0 : Int32}   (k : Q (some (.int s0)) (V, T)) : E x F d 117 101 [o0, o1, o2, o3, o4, o5] [.int s0] (V, T) Q := by
  exact e_ireti zd117_101 zs117 k
theorem zd118_0 : zop 118 0 = some (.iload_n 2, 1) := by decide +kernel
theorem zd118_1 : zop 118 1 = some (.iconst 1, 1) := by decide +kernel
theorem zd118_2 : zop 118 2 = some (.bipush 20, 2) := by decide +kernel
theorem zd118_4 : zop 118 4 = some (.invokestatic 59, 3) := by decide +kernel
theorem zd118_7 : zop 118 7 = some (.ifCond .eq 35, 3) := by decide +kernel
theorem zd118_10 : zop 118 10 = some (.aload_n 0, 1) := by decide +kernel
theorem zd118_11 : zop 118 11 = some (.getfield 10, 3) := by decide +kernel
theorem zd118_14 : zop 118 14 = some (.iload_n 3, 1) := by decide +kernel
theorem zd118_15 : zop 118 15 = some (.invokevirtual 91, 3) := by decide +kernel
theorem zd118_18 : zop 118 18 = some (.ifCond .eq 24, 3) := by decide +kernel
theorem zd118_21 : zop 118 21 = some (.iload 4, 2) := by decide +kernel
theorem zd118_23 : zop 118 23 = some (.iconst 0, 1) := by decide +kernel
theorem zd118_24 : zop 118 24 = some (.bipush 24, 2) := by decide +kernel
theorem zd118_26 : zop 118 26 = some (.invokestatic 59, 3) := by decide +kernel
theorem zd118_29 : zop 118 29 = some (.ifCond .eq 13, 3) := by decide +kernel
theorem zd118_32 : zop 118 32 = some (.iload 5, 2) := by decide +kernel
theorem zd118_34 : zop 118 34 = some (.iconst 0, 1) := by decide +kernel
theorem zd118_35 : zop 118 35 = some (.iconst 1, 1) := by decide +kernel
theorem zd118_36 : zop 118 36 = some (.invokestatic 59, 3) := by decide +kernel
theorem zd118_39 : zop 118 39 = some (.ifCond .ne 7, 3) := by decide +kernel
theorem zd118_42 : zop 118 42 = some (.ldc2_w 204, 3) := by decide +kernel
theorem zd118_45 : zop 118 45 = some (.lreturn, 1) := by decide +kernel
theorem zd118_46 : zop 118 46 = some (.iconst 0, 1) := by decide +kernel
theorem zd118_47 : zop 118 47 = some (.istore 6, 2) := by decide +kernel
theorem zd118_49 : zop 118 49 = some (.iconst 0, 1) := by decide +kernel
theorem zd118_50 : zop 118 50 = some (.istore 7, 2) := by decide +kernel
theorem zd118_52 : zop 118 52 = some (.iload 7, 2) := by decide +kernel
theorem zd118_54 : zop 118 54 = some (.iload_n 2, 1) := by decide +kernel
theorem zd118_55 : zop 118 55 = some (.if_icmp .ge 26, 3) := by decide +kernel
theorem zd118_58 : zop 118 58 = some (.aload_n 0, 1) := by decide +kernel
theorem zd118_59 : zop 118 59 = some (.iload_n 1, 1) := by decide +kernel
theorem zd118_60 : zop 118 60 = some (.iload 7, 2) := by decide +kernel
theorem zd118_62 : zop 118 62 = some (.iadd, 1) := by decide +kernel
theorem zd118_63 : zop 118 63 = some (.iload_n 3, 1) := by decide +kernel
theorem zd118_64 : zop 118 64 = some (.invokevirtual 259, 3) := by decide +kernel
theorem zd118_67 : zop 118 67 = some (.iload 4, 2) := by decide +kernel
theorem zd118_69 : zop 118 69 = some (.if_icmp .lt 6, 3) := by decide +kernel
theorem zd118_72 : zop 118 72 = some (.iinc 6 1, 3) := by decide +kernel
theorem zd118_75 : zop 118 75 = some (.iinc 7 1, 3) := by decide +kernel
theorem zd118_78 : zop 118 78 = some (.goto (-26), 3) := by decide +kernel
theorem zd118_81 : zop 118 81 = some (.iload 6, 2) := by decide +kernel
theorem zd118_83 : zop 118 83 = some (.iload_n 2, 1) := by decide +kernel
theorem zd118_84 : zop 118 84 = some (.iload 5, 2) := by decide +kernel
theorem zd118_86 : zop 118 86 = some (.invokestatic 206, 3) := by decide +kernel
theorem zd118_89 : zop 118 89 = some (.lreturn, 1) := by decide +kernel
theorem b118_0 {x : zXs} {F : zF} (hF : zSh F) {d : Nat} {V : Nat → Nat → Int32} {T : Nat → Nat → Int64} {Q : Option Value → zG → Prop} {o0 : Option Value} {o1 : Option Value} {l2 : Int32} {o3 : Option Value} {o4 : Option Value} {o5 : Option Value} {o6 : Option Value} {o7 : Option Value}   (k : E x F d 7 0 [some (.int l2), some (.int (Int32.ofInt 1)), some (.int (Int32.ofInt 20))] [] (V, T) (fun r G' => E x F (d + 1) 118 7 [o0, o1, some (.int l2), o3, o4, o5, o6, o7] (r.toList ++ []) G' Q)) : E x F (d + 1) 118 0 [o0, o1, some (.int l2), o3, o4, o5, o6, o7] [] (V, T) Q := by
  refine e_iload_n zd118_0 rfl ?_
  refine e_iconst zd118_1 ?_
  refine e_bipush zd118_2 (v := Int32.ofInt 20) (by decide +kernel) ?_
  exact e_callS zd118_4 (own := 7) (nest := false) (w := 334) (by decide +kernel) (by decide +kernel) zs7 (as := [.int l2, .int (Int32.ofInt 1), .int (Int32.ofInt 20)]) (rest := []) rfl rfl (Nat.le_of_ble_eq_true rfl) rfl rfl rfl (by omega) k
theorem b118_7 {x : zXs} {F : zF} (hF : zSh F) {d : Nat} {V : Nat → Nat → Int32} {T : Nat → Nat → Int64} {Q : Option Value → zG → Prop} {o0 : Option Value} {o1 : Option Value} {o2 : Option Value} {o3 : Option Value} {o4 : Option Value} {o5 : Option Value} {o6 : Option Value} {o7 : Option Value} {s0 : Int32}   (kt : s0 = 0 → E x F d 118 42 [o0, o1, o2, o3, o4, o5, o6, o7] [] (V, T) Q) (kf : ¬ (s0 = 0) → E x F d 118 10 [o0, o1, o2, o3, o4, o5, o6, o7] [] (V, T) Q) : E x F d 118 7 [o0, o1, o2, o3, o4, o5, o6, o7] [.int s0] (V, T) Q := by
  exact e_if_eq zd118_7 (tg := 42) rfl kt kf
theorem b118_10 {x : zXs} {F : zF} (hF : zSh F) {d : Nat} {V : Nat → Nat → Int32} {T : Nat → Nat → Int64} {Q : Option Value → zG → Prop} {o1 : Option Value} {o2 : Option Value} {l3 : Int32} {o4 : Option Value} {o5 : Option Value} {o6 : Option Value} {o7 : Option Value}   (k : E x F d 19 0 [some (.ref 1), some (.int l3)] [] (V, T) (fun r G' => E x F (d + 1) 118 18 [some (.ref 0), o1, o2, some (.int l3), o4, o5, o6, o7] (r.toList ++ []) G' Q)) : E x F (d + 1) 118 10 [some (.ref 0), o1, o2, some (.int l3), o4, o5, o6, o7] [] (V, T) Q := by
  refine e_aload_n zd118_10 rfl rfl ?_
  refine e_getO zd118_11 (own := 7) (ci := 7) (kf := 0) (w := 297) (by decide +kernel) (by decide +kernel) (zsh_at hF rfl).1 (by decide +kernel) rfl (zrf_at hF (i := 0) rfl) ?_
  refine e_iload_n zd118_14 rfl ?_
  exact e_callV zd118_15 (own := 7) (nest := false) (w := 361) (by decide +kernel) (by decide +kernel) zs19 (as := [.int l3]) (rest := []) rfl rfl (zsh_at hF rfl).1 (by omega) (Nat.le_of_ble_eq_true rfl) rfl rfl rfl (by omega) k
theorem b118_18 {x : zXs} {F : zF} (hF : zSh F) {d : Nat} {V : Nat → Nat → Int32} {T : Nat → Nat → Int64} {Q : Option Value → zG → Prop} {o0 : Option Value} {o1 : Option Value} {o2 : Option Value} {o3 : Option Value} {o4 : Option Value} {o5 : Option Value} {o6 : Option Value} {o7 : Option Value} {s0 : Int32}   (kt : s0 = 0 → E x F d 118 42 [o0, o1, o2, o3, o4, o5, o6, o7] [] (V, T) Q) (kf : ¬ (s0 = 0) → E x F d 118 21 [o0, o1, o2, o3, o4, o5, o6, o7] [] (V, T) Q) : E x F d 118 18 [o0, o1, o2, o3, o4, o5, o6, o7] [.int s0] (V, T) Q := by
  exact e_if_eq zd118_18 (tg := 42) rfl kt kf
theorem b118_21 {x : zXs} {F : zF} (hF : zSh F) {d : Nat} {V : Nat → Nat → Int32} {T : Nat → Nat → Int64} {Q : Option Value → zG → Prop} {o0 : Option Value} {o1 : Option Value} {o2 : Option Value} {o3 : Option Value} {l4 : Int32} {o5 : Option Value} {o6 : Option Value} {o7 : Option Value}   (k : E x F d 7 0 [some (.int l4), some (.int (Int32.ofInt 0)), some (.int (Int32.ofInt 24))] [] (V, T) (fun r G' => E x F (d + 1) 118 29 [o0, o1, o2, o3, some (.int l4), o5, o6, o7] (r.toList ++ []) G' Q)) : E x F (d + 1) 118 21 [o0, o1, o2, o3, some (.int l4), o5, o6, o7] [] (V, T) Q := by
  refine e_iload zd118_21 rfl ?_
  refine e_iconst zd118_23 ?_
  refine e_bipush zd118_24 (v := Int32.ofInt 24) (by decide +kernel) ?_
  exact e_callS zd118_26 (own := 7) (nest := false) (w := 334) (by decide +kernel) (by decide +kernel) zs7 (as := [.int l4, .int (Int32.ofInt 0), .int (Int32.ofInt 24)]) (rest := []) rfl rfl (Nat.le_of_ble_eq_true rfl) rfl rfl rfl (by omega) k
theorem b118_29 {x : zXs} {F : zF} (hF : zSh F) {d : Nat} {V : Nat → Nat → Int32} {T : Nat → Nat → Int64} {Q : Option Value → zG → Prop} {o0 : Option Value} {o1 : Option Value} {o2 : Option Value} {o3 : Option Value} {o4 : Option Value} {o5 : Option Value} {o6 : Option Value} {o7 : Option Value} {s0 : Int32}   (kt : s0 = 0 → E x F d 118 42 [o0, o1, o2, o3, o4, o5, o6, o7] [] (V, T) Q) (kf : ¬ (s0 = 0) → E x F d 118 32 [o0, o1, o2, o3, o4, o5, o6, o7] [] (V, T) Q) : E x F d 118 29 [o0, o1, o2, o3, o4, o5, o6, o7] [.int s0] (V, T) Q := by
  exact e_if_eq zd118_29 (tg := 42) rfl kt kf
theorem b118_32 {x : zXs} {F : zF} (hF : zSh F) {d : Nat} {V : Nat → Nat → Int32} {T : Nat → Nat → Int64} {Q : Option Value → zG → Prop} {o0 : Option Value} {o1 : Option Value} {o2 : Option Value} {o3 : Option Value} {o4 : Option Value} {l5 : Int32} {o6 : Option Value} {o7 : Option Value}   (k : E x F d 7 0 [some (.int l5), some (.int (Int32.ofInt 0)), some (.int (Int32.ofInt 1))] [] (V, T) (fun r G' => E x F (d + 1) 118 39 [o0, o1, o2, o3, o4, some (.int l5), o6, o7] (r.toList ++ []) G' Q)) : E x F (d + 1) 118 32 [o0, o1, o2, o3, o4, some (.int l5), o6, o7] [] (V, T) Q := by
  refine e_iload zd118_32 rfl ?_
  refine e_iconst zd118_34 ?_
  refine e_iconst zd118_35 ?_
  exact e_callS zd118_36 (own := 7) (nest := false) (w := 334) (by decide +kernel) (by decide +kernel) zs7 (as := [.int l5, .int (Int32.ofInt 0), .int (Int32.ofInt 1)]) (rest := []) rfl rfl (Nat.le_of_ble_eq_true rfl) rfl rfl rfl (by omega) k
theorem b118_39 {x : zXs} {F : zF} (hF : zSh F) {d : Nat} {V : Nat → Nat → Int32} {T : Nat → Nat → Int64} {Q : Option Value → zG → Prop} {o0 : Option Value} {o1 : Option Value} {o2 : Option Value} {o3 : Option Value} {o4 : Option Value} {o5 : Option Value} {o6 : Option Value} {o7 : Option Value} {s0 : Int32}   (kt : ¬ s0 = 0 → E x F d 118 46 [o0, o1, o2, o3, o4, o5, o6, o7] [] (V, T) Q) (kf : ¬ (¬ s0 = 0) → E x F d 118 42 [o0, o1, o2, o3, o4, o5, o6, o7] [] (V, T) Q) : E x F d 118 39 [o0, o1, o2, o3, o4, o5, o6, o7] [.int s0] (V, T) Q := by
  exact e_if_ne zd118_39 (tg := 46) rfl kt kf
theorem b118_42 {x : zXs} {F : zF} (hF : zSh F) {d : Nat} {V : Nat → Nat → Int32} {T : Nat → Nat → Int64} {Q : Option Value → zG → Prop} {o0 : Option Value} {o1 : Option Value} {o2 : Option Value} {o3 : Option Value} {o4 : Option Value} {o5 : Option Value} {o6 : Option Value} {o7 : Option Value}   (k : Q (some (.long (-4611686018427387904 : Int64))) (V, T)) : E x F d 118 42 [o0, o1, o2, o3, o4, o5, o6, o7] [] (V, T) Q := by
  refine e_ldc2 zd118_42 (own := 7) (w := 727) (v := (-4611686018427387904)) (by decide +kernel) (by decide +kernel) ?_
  exact e_lret zd118_45 zs118 k
theorem b118_46 {x : zXs} {F : zF} (hF : zSh F) {d : Nat} {V : Nat → Nat → Int32} {T : Nat → Nat → Int64} {Q : Option Value → zG → Prop} {o0 : Option Value} {o1 : Option Value} {o2 : Option Value} {o3 : Option Value} {o4 : Option Value} {o5 : Option Value} {o6 : Option Value} {o7 : Option Value}   (k : E x F d 118 52 [o0, o1, o2, o3, o4, o5, some (.int (Int32.ofInt 0)), some (.int (Int32.ofInt 0))] [] (V, T) Q) : E x F d 118 46 [o0, o1, o2, o3, o4, o5, o6, o7] [] (V, T) Q := by
  refine e_iconst zd118_46 ?_
  refine e_istore zd118_47 (by decide +kernel) (Nat.le_of_ble_eq_true rfl) ?_
  refine e_iconst zd118_49 ?_
  refine e_istore zd118_50 (by decide +kernel) (Nat.le_of_ble_eq_true rfl) ?_
  exact k
theorem b118_52 {x : zXs} {F : zF} (hF : zSh F) {d : Nat} {V : Nat → Nat → Int32} {T : Nat → Nat → Int64} {Q : Option Value → zG → Prop} {o0 : Option Value} {o1 : Option Value} {l2 : Int32} {o3 : Option Value} {o4 : Option Value} {o5 : Option Value} {o6 : Option Value} {l7 : Int32}   (kt : l2 ≤ l7 → E x F d 118 81 [o0, o1, some (.int l2), o3, o4, o5, o6, some (.int l7)] [] (V, T) Q) (kf : ¬ (l2 ≤ l7) → E x F d 118 58 [o0, o1, some (.int l2), o3, o4, o5, o6, some (.int l7)] [] (V, T) Q) : E x F d 118 52 [o0, o1, some (.int l2), o3, o4, o5, o6, some (.int l7)] [] (V, T) Q := by
  refine e_iload zd118_52 rfl ?_
  refine e_iload_n zd118_54 rfl ?_
  exact e_icmp_ge zd118_55 (tg := 81) rfl kt kf
theorem b118_58 {x : zXs} {F : zF} (hF : zSh F) {d : Nat} {V : Nat → Nat → Int32} {T : Nat → Nat → Int64} {Q : Option Value → zG → Prop} {l1 : Int32} {o2 : Option Value} {l3 : Int32} {o4 : Option Value} {o5 : Option Value} {o6 : Option Value} {l7 : Int32}   (k : E x F d 117 0 [some (.ref 0), some (.int (l1 + l7)), some (.int l3), none, none, none] [] (V, T) (fun r G' => E x F (d + 1) 118 67 [some (.ref 0), some (.int l1), o2, some (.int l3), o4, o5, o6, some (.int l7)] (r.toList ++ []) G' Q)) : E x F (d + 1) 118 58 [some (.ref 0), some (.int l1), o2, some (.int l3), o4, o5, o6, some (.int l7)] [] (V, T) Q := by
  refine e_aload_n zd118_58 rfl rfl ?_
  refine e_iload_n zd118_59 rfl ?_
  refine e_iload zd118_60 rfl ?_
  refine e_iadd zd118_62 ?_
  refine e_iload_n zd118_63 rfl ?_
  exact e_callV zd118_64 (own := 7) (nest := false) (w := 801) (by decide +kernel) (by decide +kernel) zs117 (as := [.int (l1 + l7), .int l3]) (rest := []) rfl rfl (zsh_at hF rfl).1 (by omega) (Nat.le_of_ble_eq_true rfl) rfl rfl rfl (by omega) k
theorem b118_67 {x : zXs} {F : zF} (hF : zSh F) {d : Nat} {V : Nat → Nat → Int32} {T : Nat → Nat → Int64} {Q : Option Value → zG → Prop} {o0 : Option Value} {o1 : Option Value} {o2 : Option Value} {o3 : Option Value} {l4 : Int32} {o5 : Option Value} {o6 : Option Value} {o7 : Option Value} {s0 : Int32}   (kt : s0 < l4 → E x F d 118 75 [o0, o1, o2, o3, some (.int l4), o5, o6, o7] [] (V, T) Q) (kf : ¬ (s0 < l4) → E x F d 118 72 [o0, o1, o2, o3, some (.int l4), o5, o6, o7] [] (V, T) Q) : E x F d 118 67 [o0, o1, o2, o3, some (.int l4), o5, o6, o7] [.int s0] (V, T) Q := by
  refine e_iload zd118_67 rfl ?_
  exact e_icmp_lt zd118_69 (tg := 75) rfl kt kf
theorem b118_72 {x : zXs} {F : zF} (hF : zSh F) {d : Nat} {V : Nat → Nat → Int32} {T : Nat → Nat → Int64} {Q : Option Value → zG → Prop} {o0 : Option Value} {o1 : Option Value} {o2 : Option Value} {o3 : Option Value} {o4 : Option Value} {o5 : Option Value} {l6 : Int32} {o7 : Option Value}   (k : E x F d 118 75 [o0, o1, o2, o3, o4, o5, some (.int (l6 + Int32.ofInt 1)), o7] [] (V, T) Q) : E x F d 118 72 [o0, o1, o2, o3, o4, o5, some (.int l6), o7] [] (V, T) Q := by
  refine e_iinc zd118_72 rfl (by decide +kernel) ?_
  exact k
theorem b118_75 {x : zXs} {F : zF} (hF : zSh F) {d : Nat} {V : Nat → Nat → Int32} {T : Nat → Nat → Int64} {Q : Option Value → zG → Prop} {o0 : Option Value} {o1 : Option Value} {o2 : Option Value} {o3 : Option Value} {o4 : Option Value} {o5 : Option Value} {o6 : Option Value} {l7 : Int32}   (k : E x F d 118 52 [o0, o1, o2, o3, o4, o5, o6, some (.int (l7 + Int32.ofInt 1))] [] (V, T) Q) : E x F d 118 75 [o0, o1, o2, o3, o4, o5, o6, some (.int l7)] [] (V, T) Q := by
  refine e_iinc zd118_75 rfl (by decide +kernel) ?_
  exact e_goto zd118_78 (tg := 52) rfl k
theorem b118_81 {x : zXs} {F : zF} (hF : zSh F) {d : Nat} {V : Nat → Nat → Int32} {T : Nat → Nat → Int64} {Q : Option Value → zG → Prop} {o0 : Option Value} {o1 : Option Value} {l2 : Int32} {o3 : Option Value} {o4 : Option Value} {l5 : Int32} {l6 : Int32} {o7 : Option Value}   (k : E x F d 98 0 [some (.int l6), some (.int l2), some (.int l5), none] [] (V, T) (fun r G' => E x F (d + 1) 118 89 [o0, o1, some (.int l2), o3, o4, some (.int l5), some (.int l6), o7] (r.toList ++ []) G' Q)) : E x F (d + 1) 118 81 [o0, o1, some (.int l2), o3, o4, some (.int l5), some (.int l6), o7] [] (V, T) Q := by
  refine e_iload zd118_81 rfl ?_
  refine e_iload_n zd118_83 rfl ?_
  refine e_iload zd118_84 rfl ?_
  exact e_callS zd118_86 (own := 7) (nest := false) (w := 728) (by decide +kernel) (by decide +kernel) zs98 (as := [.int l6, .int l2, .int l5]) (rest := []) rfl rfl (Nat.le_of_ble_eq_true rfl) rfl rfl rfl (by omega) k
theorem b118_89 {x : zXs} {F : zF} (hF : zSh F) {d : Nat} {V : Nat → Nat → Int32} {T : Nat → Nat → Int64} {Q : Option Value → zG → Prop} {o0 : Option Value} {o1 : Option Value} {o2 : Option Value} {o3 : Option Value} {o4 : Option Value} {o5 : Option Value} {o6 : Option Value} {o7 : Option Value} {s0 : Int64}   (k : Q (some (.long s0)) (V, T)) : E x F d 118 89 [o0, o1, o2, o3, o4, o5, o6, o7] [.long s0] (V, T) Q := by
  exact e_lret zd118_89 zs118 k
theorem zd119_0 : zop 119 0 = some (.aload_n 0, 1) := by decide +kernel
theorem zd119_1 : zop 119 1 = some (.getfield 19, 3) := by decide +kernel
theorem zd119_4 : zop 119 4 = some (.aload_n 0, 1) := by decide +kernel
theorem zd119_5 : zop 119 5 = some (.getfield 10, 3) := by decide +kernel
theorem zd119_8 : zop 119 8 = some (.invokevirtual 178, 3) := by decide +kernel
theorem zd119_11 : zop 119 11 = some (.aload_n 0, 1) := by decide +kernel
theorem zd119_12 : zop 119 12 = some (.iconst 1, 1) := by decide +kernel
theorem zd119_13 : zop 119 13 = some (.putfield 263, 3) := by decide +kernel
theorem zd119_16 : zop 119 16 = some (.aload_n 0, 1) := by decide +kernel
theorem zd119_17 : zop 119 17 = some (.getfield 10, 3) := by decide +kernel
theorem zd119_20 : zop 119 20 = some (.getfield 160, 3) := by decide +kernel
theorem zd119_23 : zop 119 23 = some (.ireturn, 1) := by decide +kernel
theorem b119_0 {x : zXs} {F : zF} (hF : zSh F) {d : Nat} {V : Nat → Nat → Int32} {T : Nat → Nat → Int64} {Q : Option Value → zG → Prop}    (k : E x F d 83 0 [some (.ref 13), some (.ref 1)] [] (V, T) (fun r G' => E x F (d + 1) 119 11 [some (.ref 0)] (r.toList ++ []) G' Q)) : E x F (d + 1) 119 0 [some (.ref 0)] [] (V, T) Q := by
  refine e_aload_n zd119_0 rfl rfl ?_
  refine e_getO zd119_1 (own := 7) (ci := 7) (kf := 2) (w := 299) (by decide +kernel) (by decide +kernel) (zsh_at hF rfl).1 (by decide +kernel) rfl (zrf_at hF (i := 2) rfl) ?_
  refine e_aload_n zd119_4 rfl rfl ?_
  refine e_getO zd119_5 (own := 7) (ci := 7) (kf := 0) (w := 297) (by decide +kernel) (by decide +kernel) (zsh_at hF rfl).1 (by decide +kernel) rfl (zrf_at hF (i := 0) rfl) ?_
  exact e_callV zd119_8 (own := 7) (nest := false) (w := 666) (by decide +kernel) (by decide +kernel) zs83 (as := [.ref 1]) (rest := []) rfl rfl (zsh_at hF rfl).1 (by omega) (Nat.le_of_ble_eq_true rfl) rfl rfl rfl (by omega) k
theorem b119_11 {x : zXs} {F : zF} (hF : zSh F) {d : Nat} {V : Nat → Nat → Int32} {T : Nat → Nat → Int64} {Q : Option Value → zG → Prop}    (k : Q (some (.int ((zu V 0 8 (Int32.ofInt 1)) 1 5))) (zu V 0 8 (Int32.ofInt 1), T)) : E x F d 119 11 [some (.ref 0)] [] (V, T) Q := by
  refine e_aload_n zd119_11 rfl rfl ?_
  refine e_iconst zd119_12 ?_
  refine e_putZ zd119_13 (own := 7) (ci := 7) (kf := 8) (w := 305) (by decide +kernel) (by decide +kernel) (zsh_at hF rfl).1 (by decide +kernel) rfl (by decide +kernel) ?_
  refine e_aload_n zd119_16 rfl rfl ?_
  refine e_getO zd119_17 (own := 7) (ci := 7) (kf := 0) (w := 297) (by decide +kernel) (by decide +kernel) (zsh_at hF rfl).1 (by decide +kernel) rfl (zrf_at hF (i := 0) rfl) ?_
  refine e_getI zd119_20 (own := 7) (ci := 4) (kf := 5) (w := 129) (by decide +kernel) (by decide +kernel) (zsh_at hF rfl).1 (by decide +kernel) rfl ?_
  exact e_ireti zd119_23 zs119 k
theorem zd120_0 : zop 120 0 = some (.aload_n 0, 1) := by decide +kernel
theorem zd120_1 : zop 120 1 = some (.getfield 263, 3) := by decide +kernel
theorem zd120_4 : zop 120 4 = some (.ifCond .ne 6, 3) := by decide +kernel
theorem zd120_7 : zop 120 7 = some (.bipush (-3), 2) := by decide +kernel
theorem zd120_9 : zop 120 9 = some (.ireturn, 1) := by decide +kernel
theorem zd120_10 : zop 120 10 = some (.aload_n 0, 1) := by decide +kernel
theorem zd120_11 : zop 120 11 = some (.getfield 10, 3) := by decide +kernel
theorem zd120_14 : zop 120 14 = some (.aload_n 0, 1) := by decide +kernel
theorem zd120_15 : zop 120 15 = some (.getfield 19, 3) := by decide +kernel
theorem zd120_18 : zop 120 18 = some (.invokevirtual 178, 3) := by decide +kernel
theorem zd120_21 : zop 120 21 = some (.aload_n 0, 1) := by decide +kernel
theorem zd120_22 : zop 120 22 = some (.getfield 10, 3) := by decide +kernel
theorem zd120_25 : zop 120 25 = some (.getfield 160, 3) := by decide +kernel
theorem zd120_28 : zop 120 28 = some (.ireturn, 1) := by decide +kernel
theorem b120_0 {x : zXs} {F : zF} (hF : zSh F) {d : Nat} {V : Nat → Nat → Int32} {T : Nat → Nat → Int64} {Q : Option Value → zG → Prop}    (kt : ¬ (V 0 8) = 0 → E x F d 120 10 [some (.ref 0)] [] (V, T) Q) (kf : ¬ (¬ (V 0 8) = 0) → E x F d 120 7 [some (.ref 0)] [] (V, T) Q) : E x F d 120 0 [some (.ref 0)] [] (V, T) Q := by
  refine e_aload_n zd120_0 rfl rfl ?_
  refine e_getZ zd120_1 (own := 7) (ci := 7) (kf := 8) (w := 305) (by decide +kernel) (by decide +kernel) (zsh_at hF rfl).1 (by decide +kernel) rfl ?_
  exact e_if_ne zd120_4 (tg := 10) rfl kt kf
theorem b120_7 {x : zXs} {F : zF} (hF : zSh F) {d : Nat} {V : Nat → Nat → Int32} {T : Nat → Nat → Int64} {Q : Option Value → zG → Prop} {o0 : Option Value}   (k : Q (some (.int (Int32.ofInt (-3)))) (V, T)) : E x F d 120 7 [o0] [] (V, T) Q := by
  refine e_bipush zd120_7 (v := Int32.ofInt (-3)) (by decide +kernel) ?_
  exact e_ireti zd120_9 zs120 k
theorem b120_10 {x : zXs} {F : zF} (hF : zSh F) {d : Nat} {V : Nat → Nat → Int32} {T : Nat → Nat → Int64} {Q : Option Value → zG → Prop}    (k : E x F d 83 0 [some (.ref 1), some (.ref 13)] [] (V, T) (fun r G' => E x F (d + 1) 120 21 [some (.ref 0)] (r.toList ++ []) G' Q)) : E x F (d + 1) 120 10 [some (.ref 0)] [] (V, T) Q := by
  refine e_aload_n zd120_10 rfl rfl ?_
  refine e_getO zd120_11 (own := 7) (ci := 7) (kf := 0) (w := 297) (by decide +kernel) (by decide +kernel) (zsh_at hF rfl).1 (by decide +kernel) rfl (zrf_at hF (i := 0) rfl) ?_
  refine e_aload_n zd120_14 rfl rfl ?_
  refine e_getO zd120_15 (own := 7) (ci := 7) (kf := 2) (w := 299) (by decide +kernel) (by decide +kernel) (zsh_at hF rfl).1 (by decide +kernel) rfl (zrf_at hF (i := 2) rfl) ?_
  exact e_callV zd120_18 (own := 7) (nest := false) (w := 666) (by decide +kernel) (by decide +kernel) zs83 (as := [.ref 13]) (rest := []) rfl rfl (zsh_at hF rfl).1 (by omega) (Nat.le_of_ble_eq_true rfl) rfl rfl rfl (by omega) k
theorem b120_21 {x : zXs} {F : zF} (hF : zSh F) {d : Nat} {V : Nat → Nat → Int32} {T : Nat → Nat → Int64} {Q : Option Value → zG → Prop}    (k : Q (some (.int (V 1 5))) (V, T)) : E x F d 120 21 [some (.ref 0)] [] (V, T) Q := by
  refine e_aload_n zd120_21 rfl rfl ?_
  refine e_getO zd120_22 (own := 7) (ci := 7) (kf := 0) (w := 297) (by decide +kernel) (by decide +kernel) (zsh_at hF rfl).1 (by decide +kernel) rfl (zrf_at hF (i := 0) rfl) ?_
  refine e_getI zd120_25 (own := 7) (ci := 4) (kf := 5) (w := 129) (by decide +kernel) (by decide +kernel) (zsh_at hF rfl).1 (by decide +kernel) rfl ?_
  exact e_ireti zd120_28 zs120 k
theorem zd121_0 : zop 121 0 = some (.iload_n 1, 1) := by decide +kernel
theorem zd121_1 : zop 121 1 = some (.tableswitch 87 0 5 #[39, 47, 55, 63, 71, 79], 39) := by decide +kernel
theorem zd121_40 : zop 121 40 = some (.aload_n 0, 1) := by decide +kernel
theorem zd121_41 : zop 121 41 = some (.getfield 10, 3) := by decide +kernel
theorem zd121_44 : zop 121 44 = some (.getfield 160, 3) := by decide +kernel
theorem zd121_47 : zop 121 47 = some (.ireturn, 1) := by decide +kernel
theorem zd121_48 : zop 121 48 = some (.aload_n 0, 1) := by decide +kernel
theorem zd121_49 : zop 121 49 = some (.getfield 10, 3) := by decide +kernel
theorem zd121_52 : zop 121 52 = some (.invokevirtual 175, 3) := by decide +kernel
theorem zd121_55 : zop 121 55 = some (.ireturn, 1) := by decide +kernel
theorem zd121_56 : zop 121 56 = some (.aload_n 0, 1) := by decide +kernel
theorem zd121_57 : zop 121 57 = some (.getfield 10, 3) := by decide +kernel
theorem zd121_60 : zop 121 60 = some (.getfield 87, 3) := by decide +kernel
theorem zd121_63 : zop 121 63 = some (.ireturn, 1) := by decide +kernel
theorem zd121_64 : zop 121 64 = some (.aload_n 0, 1) := by decide +kernel
theorem zd121_65 : zop 121 65 = some (.getfield 33, 3) := by decide +kernel
theorem zd121_68 : zop 121 68 = some (.getfield 139, 3) := by decide +kernel
theorem zd121_71 : zop 121 71 = some (.ireturn, 1) := by decide +kernel
theorem zd121_72 : zop 121 72 = some (.aload_n 0, 1) := by decide +kernel
theorem zd121_73 : zop 121 73 = some (.getfield 44, 3) := by decide +kernel
theorem zd121_76 : zop 121 76 = some (.getfield 136, 3) := by decide +kernel
theorem zd121_79 : zop 121 79 = some (.ireturn, 1) := by decide +kernel
theorem zd121_80 : zop 121 80 = some (.aload_n 0, 1) := by decide +kernel
theorem zd121_81 : zop 121 81 = some (.getfield 10, 3) := by decide +kernel
theorem zd121_84 : zop 121 84 = some (.getfield 154, 3) := by decide +kernel
theorem zd121_87 : zop 121 87 = some (.ireturn, 1) := by decide +kernel
theorem zd121_88 : zop 121 88 = some (.bipush (-2), 2) := by decide +kernel
theorem zd121_90 : zop 121 90 = some (.ireturn, 1) := by decide +kernel
theorem b121_0 {x : zXs} {F : zF} (hF : zSh F) {d : Nat} {V : Nat → Nat → Int32} {T : Nat → Nat → Int64} {Q : Option Value → zG → Prop} {o0 : Option Value} {l1 : Int32}   (k0 : l1 = Int32.ofInt 0 → E x F d 121 40 [o0, some (.int l1)] [] (V, T) Q) (k1 : l1 = Int32.ofInt 1 → E x F d 121 48 [o0, some (.int l1)] [] (V, T) Q) (k2 : l1 = Int32.ofInt 2 → E x F d 121 56 [o0, some (.int l1)] [] (V, T) Q) (k3 : l1 = Int32.ofInt 3 → E x F d 121 64 [o0, some (.int l1)] [] (V, T) Q) (k4 : l1 = Int32.ofInt 4 → E x F d 121 72 [o0, some (.int l1)] [] (V, T) Q) (k5 : l1 = Int32.ofInt 5 → E x F d 121 80 [o0, some (.int l1)] [] (V, T) Q) (kd : ¬ l1 = Int32.ofInt 0 ∧ ¬ l1 = Int32.ofInt 1 ∧ ¬ l1 = Int32.ofInt 2 ∧ ¬ l1 = Int32.ofInt 3 ∧ ¬ l1 = Int32.ofInt 4 ∧ ¬ l1 = Int32.ofInt 5 → E x F d 121 88 [o0, some (.int l1)] [] (V, T) Q) : E x F d 121 0 [o0, some (.int l1)] [] (V, T) Q := by
  refine e_iload_n zd121_0 rfl ?_
  by_cases c0 : l1 = Int32.ofInt 0
  · exact e_tableIn zd121_1 (off := 39) (by rw [c0]; decide +kernel) (by rw [c0]; decide +kernel) (tg := 40) rfl (k0 c0)
  by_cases c1 : l1 = Int32.ofInt 1
  · exact e_tableIn zd121_1 (off := 47) (by rw [c1]; decide +kernel) (by rw [c1]; decide +kernel) (tg := 48) rfl (k1 c1)
  by_cases c2 : l1 = Int32.ofInt 2
  · exact e_tableIn zd121_1 (off := 55) (by rw [c2]; decide +kernel) (by rw [c2]; decide +kernel) (tg := 56) rfl (k2 c2)
  by_cases c3 : l1 = Int32.ofInt 3
  · exact e_tableIn zd121_1 (off := 63) (by rw [c3]; decide +kernel) (by rw [c3]; decide +kernel) (tg := 64) rfl (k3 c3)
  by_cases c4 : l1 = Int32.ofInt 4
  · exact e_tableIn zd121_1 (off := 71) (by rw [c4]; decide +kernel) (by rw [c4]; decide +kernel) (tg := 72) rfl (k4 c4)
  by_cases c5 : l1 = Int32.ofInt 5
  · exact e_tableIn zd121_1 (off := 79) (by rw [c5]; decide +kernel) (by rw [c5]; decide +kernel) (tg := 80) rfl (k5 c5)
  exact e_tableOut zd121_1 (zsw_out (lo := 0) (hi := 5) (by decide) (by decide) (fun v h1 h2 h => by
    rcases (show v = 0 ∨ v = 1 ∨ v = 2 ∨ v = 3 ∨ v = 4 ∨ v = 5 by omega) with rfl | rfl | rfl | rfl | rfl | rfl
    · exact c0 h
    · exact c1 h
    · exact c2 h
    · exact c3 h
    · exact c4 h
    · exact c5 h)) (tg := 88) rfl (kd ⟨c0, c1, c2, c3, c4, c5⟩)
theorem b121_40 {x : zXs} {F : zF} (hF : zSh F) {d : Nat} {V : Nat → Nat → Int32} {T : Nat → Nat → Int64} {Q : Option Value → zG → Prop} {o1 : Option Value}   (k : Q (some (.int (V 1 5))) (V, T)) : E x F d 121 40 [some (.ref 0), o1] [] (V, T) Q := by
  refine e_aload_n zd121_40 rfl rfl ?_
  refine e_getO zd121_41 (own := 7) (ci := 7) (kf := 0) (w := 297) (by decide +kernel) (by decide +kernel) (zsh_at hF rfl).1 (by decide +kernel) rfl (zrf_at hF (i := 0) rfl) ?_
  refine e_getI zd121_44 (own := 7) (ci := 4) (kf := 5) (w := 129) (by decide +kernel) (by decide +kernel) (zsh_at hF rfl).1 (by decide +kernel) rfl ?_
  exact e_ireti zd121_47 zs121 k
theorem b121_48 {x : zXs} {F : zF} (hF : zSh F) {d : Nat} {V : Nat → Nat → Int32} {T : Nat → Nat → Int64} {Q : Option Value → zG → Prop} {o1 : Option Value}   (k : E x F d 81 0 [some (.ref 1), none, none] [] (V, T) (fun r G' => E x F (d + 1) 121 55 [some (.ref 0), o1] (r.toList ++ []) G' Q)) : E x F (d + 1) 121 48 [some (.ref 0), o1] [] (V, T) Q := by
  refine e_aload_n zd121_48 rfl rfl ?_
  refine e_getO zd121_49 (own := 7) (ci := 7) (kf := 0) (w := 297) (by decide +kernel) (by decide +kernel) (zsh_at hF rfl).1 (by decide +kernel) rfl (zrf_at hF (i := 0) rfl) ?_
  exact e_callV zd121_52 (own := 7) (nest := false) (w := 657) (by decide +kernel) (by decide +kernel) zs81 (as := []) (rest := []) rfl rfl (zsh_at hF rfl).1 (by omega) (Nat.le_of_ble_eq_true rfl) rfl rfl rfl (by omega) k
theorem b121_55 {x : zXs} {F : zF} (hF : zSh F) {d : Nat} {V : Nat → Nat → Int32} {T : Nat → Nat → Int64} {Q : Option Value → zG → Prop} {o0 : Option Value} {o1 : Option Value} {s0 : Int32}   (k : Q (some (.int s0)) (V, T)) : E x F d 121 55 [o0, o1] [.int s0] (V, T) Q := by
  exact e_ireti zd121_55 zs121 k
theorem b121_56 {x : zXs} {F : zF} (hF : zSh F) {d : Nat} {V : Nat → Nat → Int32} {T : Nat → Nat → Int64} {Q : Option Value → zG → Prop} {o1 : Option Value}   (k : Q (some (.int (V 1 6))) (V, T)) : E x F d 121 56 [some (.ref 0), o1] [] (V, T) Q := by
  refine e_aload_n zd121_56 rfl rfl ?_
  refine e_getO zd121_57 (own := 7) (ci := 7) (kf := 0) (w := 297) (by decide +kernel) (by decide +kernel) (zsh_at hF rfl).1 (by decide +kernel) rfl (zrf_at hF (i := 0) rfl) ?_
  refine e_getI zd121_60 (own := 7) (ci := 4) (kf := 6) (w := 131) (by decide +kernel) (by decide +kernel) (zsh_at hF rfl).1 (by decide +kernel) rfl ?_
  exact e_ireti zd121_63 zs121 k
theorem b121_64 {x : zXs} {F : zF} (hF : zSh F) {d : Nat} {V : Nat → Nat → Int32} {T : Nat → Nat → Int64} {Q : Option Value → zG → Prop} {o1 : Option Value}   (k : Q (some (.int (V 20 3))) (V, T)) : E x F d 121 64 [some (.ref 0), o1] [] (V, T) Q := by
  refine e_aload_n zd121_64 rfl rfl ?_
  refine e_getO zd121_65 (own := 7) (ci := 7) (kf := 4) (w := 301) (by decide +kernel) (by decide +kernel) (zsh_at hF rfl).1 (by decide +kernel) rfl (zrf_at hF (i := 4) rfl) ?_
  refine e_getI zd121_68 (own := 7) (ci := 2) (kf := 3) (w := 201) (by decide +kernel) (by decide +kernel) (zsh_at hF rfl).1 (by decide +kernel) rfl ?_
  exact e_ireti zd121_71 zs121 k
theorem b121_72 {x : zXs} {F : zF} (hF : zSh F) {d : Nat} {V : Nat → Nat → Int32} {T : Nat → Nat → Int64} {Q : Option Value → zG → Prop} {o1 : Option Value}   (k : Q (some (.int (V 45 1))) (V, T)) : E x F d 121 72 [some (.ref 0), o1] [] (V, T) Q := by
  refine e_aload_n zd121_72 rfl rfl ?_
  refine e_getO zd121_73 (own := 7) (ci := 7) (kf := 6) (w := 303) (by decide +kernel) (by decide +kernel) (zsh_at hF rfl).1 (by decide +kernel) rfl (zrf_at hF (i := 6) rfl) ?_
  refine e_getI zd121_76 (own := 7) (ci := 5) (kf := 1) (w := 249) (by decide +kernel) (by decide +kernel) (zsh_at hF rfl).1 (by decide +kernel) rfl ?_
  exact e_ireti zd121_79 zs121 k
theorem b121_80 {x : zXs} {F : zF} (hF : zSh F) {d : Nat} {V : Nat → Nat → Int32} {T : Nat → Nat → Int64} {Q : Option Value → zG → Prop} {o1 : Option Value}   (k : Q (some (.int (V 1 7))) (V, T)) : E x F d 121 80 [some (.ref 0), o1] [] (V, T) Q := by
  refine e_aload_n zd121_80 rfl rfl ?_
  refine e_getO zd121_81 (own := 7) (ci := 7) (kf := 0) (w := 297) (by decide +kernel) (by decide +kernel) (zsh_at hF rfl).1 (by decide +kernel) rfl (zrf_at hF (i := 0) rfl) ?_
  refine e_getI zd121_84 (own := 7) (ci := 4) (kf := 7) (w := 136) (by decide +kernel) (by decide +kernel) (zsh_at hF rfl).1 (by decide +kernel) rfl ?_
  exact e_ireti zd121_87 zs121 k
theorem b121_88 {x : zXs} {F : zF} (hF : zSh F) {d : Nat} {V : Nat → Nat → Int32} {T : Nat → Nat → Int64} {Q : Option Value → zG → Prop} {o0 : Option Value} {o1 : Option Value}   (k : Q (some (.int (Int32.ofInt (-2)))) (V, T)) : E x F d 121 88 [o0, o1] [] (V, T) Q := by
  refine e_bipush zd121_88 (v := Int32.ofInt (-2)) (by decide +kernel) ?_
  exact e_ireti zd121_90 zs121 k
theorem zd122_0 : zop 122 0 = some (.aload_n 0, 1) := by decide +kernel
theorem zd122_1 : zop 122 1 = some (.iload_n 1, 1) := by decide +kernel
theorem zd122_2 : zop 122 2 = some (.invokevirtual 210, 3) := by decide +kernel
theorem zd122_5 : zop 122 5 = some (.ifCond .eq 12, 3) := by decide +kernel
theorem zd122_8 : zop 122 8 = some (.iload_n 2, 1) := by decide +kernel
theorem zd122_9 : zop 122 9 = some (.iconst (-1), 1) := by decide +kernel
theorem zd122_10 : zop 122 10 = some (.iconst 2, 1) := by decide +kernel
theorem zd122_11 : zop 122 11 = some (.invokestatic 59, 3) := by decide +kernel
theorem zd122_14 : zop 122 14 = some (.ifCond .ne 6, 3) := by decide +kernel
theorem zd122_17 : zop 122 17 = some (.bipush (-2), 2) := by decide +kernel
theorem zd122_19 : zop 122 19 = some (.ireturn, 1) := by decide +kernel
theorem zd122_20 : zop 122 20 = some (.iload_n 2, 1) := by decide +kernel
theorem zd122_21 : zop 122 21 = some (.iconst (-1), 1) := by decide +kernel
theorem zd122_22 : zop 122 22 = some (.if_icmp .ne 16, 3) := by decide +kernel
theorem zd122_25 : zop 122 25 = some (.aload_n 0, 1) := by decide +kernel
theorem zd122_26 : zop 122 26 = some (.getfield 50, 3) := by decide +kernel
theorem zd122_29 : zop 122 29 = some (.iload_n 1, 1) := by decide +kernel
theorem zd122_30 : zop 122 30 = some (.aaload, 1) := by decide +kernel
theorem zd122_31 : zop 122 31 = some (.iconst (-1), 1) := by decide +kernel
theorem zd122_32 : zop 122 32 = some (.iconst 0, 1) := by decide +kernel
theorem zd122_33 : zop 122 33 = some (.invokevirtual 253, 3) := by decide +kernel
theorem zd122_36 : zop 122 36 = some (.iconst 1, 1) := by decide +kernel
theorem zd122_37 : zop 122 37 = some (.ireturn, 1) := by decide +kernel
theorem zd122_38 : zop 122 38 = some (.iload_n 3, 1) := by decide +kernel
theorem zd122_39 : zop 122 39 = some (.bipush 40, 2) := by decide +kernel
theorem zd122_41 : zop 122 41 = some (.if_icmp .le 6, 3) := by decide +kernel
theorem zd122_44 : zop 122 44 = some (.bipush (-2), 2) := by decide +kernel
theorem zd122_46 : zop 122 46 = some (.ireturn, 1) := by decide +kernel
theorem zd122_47 : zop 122 47 = some (.iload_n 3, 1) := by decide +kernel
theorem zd122_48 : zop 122 48 = some (.ifCond .ge 6, 3) := by decide +kernel
theorem zd122_51 : zop 122 51 = some (.bipush (-14), 2) := by decide +kernel
theorem zd122_53 : zop 122 53 = some (.ireturn, 1) := by decide +kernel
theorem zd122_54 : zop 122 54 = some (.aload_n 0, 1) := by decide +kernel
theorem zd122_55 : zop 122 55 = some (.getfield 50, 3) := by decide +kernel
theorem zd122_58 : zop 122 58 = some (.iload_n 1, 1) := by decide +kernel
theorem zd122_59 : zop 122 59 = some (.aaload, 1) := by decide +kernel
theorem zd122_60 : zop 122 60 = some (.iload_n 2, 1) := by decide +kernel
theorem zd122_61 : zop 122 61 = some (.iload_n 3, 1) := by decide +kernel
theorem zd122_62 : zop 122 62 = some (.invokevirtual 253, 3) := by decide +kernel
theorem zd122_65 : zop 122 65 = some (.iconst 1, 1) := by decide +kernel
theorem zd122_66 : zop 122 66 = some (.ireturn, 1) := by decide +kernel
theorem b122_0 {x : zXs} {F : zF} (hF : zSh F) {d : Nat} {V : Nat → Nat → Int32} {T : Nat → Nat → Int64} {Q : Option Value → zG → Prop} {l1 : Int32} {o2 : Option Value} {o3 : Option Value}   (k : E x F d 101 0 [some (.ref 0), some (.int l1)] [] (V, T) (fun r G' => E x F (d + 1) 122 5 [some (.ref 0), some (.int l1), o2, o3] (r.toList ++ []) G' Q)) : E x F (d + 1) 122 0 [some (.ref 0), some (.int l1), o2, o3] [] (V, T) Q := by
  refine e_aload_n zd122_0 rfl rfl ?_
  refine e_iload_n zd122_1 rfl ?_
  exact e_callV zd122_2 (own := 7) (nest := false) (w := 738) (by decide +kernel) (by decide +kernel) zs101 (as := [.int l1]) (rest := []) rfl rfl (zsh_at hF rfl).1 (by omega) (Nat.le_of_ble_eq_true rfl) rfl rfl rfl (by omega) k
theorem b122_5 {x : zXs} {F : zF} (hF : zSh F) {d : Nat} {V : Nat → Nat → Int32} {T : Nat → Nat → Int64} {Q : Option Value → zG → Prop} {o0 : Option Value} {o1 : Option Value} {o2 : Option Value} {o3 : Option Value} {s0 : Int32}   (kt : s0 = 0 → E x F d 122 17 [o0, o1, o2, o3] [] (V, T) Q) (kf : ¬ (s0 = 0) → E x F d 122 8 [o0, o1, o2, o3] [] (V, T) Q) : E x F d 122 5 [o0, o1, o2, o3] [.int s0] (V, T) Q := by
  exact e_if_eq zd122_5 (tg := 17) rfl kt kf
theorem b122_8 {x : zXs} {F : zF} (hF : zSh F) {d : Nat} {V : Nat → Nat → Int32} {T : Nat → Nat → Int64} {Q : Option Value → zG → Prop} {o0 : Option Value} {o1 : Option Value} {l2 : Int32} {o3 : Option Value}   (k : E x F d 7 0 [some (.int l2), some (.int (Int32.ofInt (-1))), some (.int (Int32.ofInt 2))] [] (V, T) (fun r G' => E x F (d + 1) 122 14 [o0, o1, some (.int l2), o3] (r.toList ++ []) G' Q)) : E x F (d + 1) 122 8 [o0, o1, some (.int l2), o3] [] (V, T) Q := by
  refine e_iload_n zd122_8 rfl ?_
  refine e_iconst zd122_9 ?_
  refine e_iconst zd122_10 ?_
  exact e_callS zd122_11 (own := 7) (nest := false) (w := 334) (by decide +kernel) (by decide +kernel) zs7 (as := [.int l2, .int (Int32.ofInt (-1)), .int (Int32.ofInt 2)]) (rest := []) rfl rfl (Nat.le_of_ble_eq_true rfl) rfl rfl rfl (by omega) k
theorem b122_14 {x : zXs} {F : zF} (hF : zSh F) {d : Nat} {V : Nat → Nat → Int32} {T : Nat → Nat → Int64} {Q : Option Value → zG → Prop} {o0 : Option Value} {o1 : Option Value} {o2 : Option Value} {o3 : Option Value} {s0 : Int32}   (kt : ¬ s0 = 0 → E x F d 122 20 [o0, o1, o2, o3] [] (V, T) Q) (kf : ¬ (¬ s0 = 0) → E x F d 122 17 [o0, o1, o2, o3] [] (V, T) Q) : E x F d 122 14 [o0, o1, o2, o3] [.int s0] (V, T) Q := by
  exact e_if_ne zd122_14 (tg := 20) rfl kt kf
theorem b122_17 {x : zXs} {F : zF} (hF : zSh F) {d : Nat} {V : Nat → Nat → Int32} {T : Nat → Nat → Int64} {Q : Option Value → zG → Prop} {o0 : Option Value} {o1 : Option Value} {o2 : Option Value} {o3 : Option Value}   (k : Q (some (.int (Int32.ofInt (-2)))) (V, T)) : E x F d 122 17 [o0, o1, o2, o3] [] (V, T) Q := by
  refine e_bipush zd122_17 (v := Int32.ofInt (-2)) (by decide +kernel) ?_
  exact e_ireti zd122_19 zs122 k
theorem b122_20 {x : zXs} {F : zF} (hF : zSh F) {d : Nat} {V : Nat → Nat → Int32} {T : Nat → Nat → Int64} {Q : Option Value → zG → Prop} {o0 : Option Value} {o1 : Option Value} {l2 : Int32} {o3 : Option Value}   (kt : ¬ l2 = (Int32.ofInt (-1)) → E x F d 122 38 [o0, o1, some (.int l2), o3] [] (V, T) Q) (kf : ¬ (¬ l2 = (Int32.ofInt (-1))) → E x F d 122 25 [o0, o1, some (.int l2), o3] [] (V, T) Q) : E x F d 122 20 [o0, o1, some (.int l2), o3] [] (V, T) Q := by
  refine e_iload_n zd122_20 rfl ?_
  refine e_iconst zd122_21 ?_
  exact e_icmp_ne zd122_22 (tg := 38) rfl kt kf
theorem b122_25 {x : zXs} {F : zF} (hF : zSh F) {d : Nat} {V : Nat → Nat → Int32} {T : Nat → Nat → Int64} {Q : Option Value → zG → Prop} {l1 : Int32} {o2 : Option Value} {o3 : Option Value}  {i1 : Nat} (e1 : l1 = nI i1) (h1 : i1 < 4) (k : E x F d 112 0 [some (.ref (51 + 2 * i1)), some (.int (Int32.ofInt (-1))), some (.int (Int32.ofInt 0))] [] (V, T) (fun r G' => E x F (d + 1) 122 36 [some (.ref 0), some (.int l1), o2, o3] (r.toList ++ []) G' Q)) : E x F (d + 1) 122 25 [some (.ref 0), some (.int l1), o2, o3] [] (V, T) Q := by
  refine e_aload_n zd122_25 rfl rfl ?_
  refine e_getA zd122_26 (own := 7) (ci := 7) (kf := 7) (w := 304) (by decide +kernel) (by decide +kernel) (zsh_at hF rfl).1 (by decide +kernel) rfl (zrf_at hF (i := 7) rfl) ?_
  refine e_iload_n zd122_29 rfl ?_
  refine e_aald zd122_30 (i := i1) (n := 4) ⟨Or.inr (zsh_at hF rfl).1, (zsh_at hF rfl).2⟩ e1 h1 (by omega) (zSht_at hF h1).1 ?_
  refine e_iconst zd122_31 ?_
  refine e_iconst zd122_32 ?_
  exact e_callV zd122_33 (own := 7) (nest := false) (w := 781) (by decide +kernel) (by decide +kernel) zs112 (as := [.int (Int32.ofInt (-1)), .int (Int32.ofInt 0)]) (rest := []) rfl rfl (zSt4_s hF (zSht_in (i := i1) h1)).1 (by omega) (Nat.le_of_ble_eq_true rfl) rfl rfl rfl (by omega) k
theorem b122_36 {x : zXs} {F : zF} (hF : zSh F) {d : Nat} {V : Nat → Nat → Int32} {T : Nat → Nat → Int64} {Q : Option Value → zG → Prop} {o0 : Option Value} {o1 : Option Value} {o2 : Option Value} {o3 : Option Value}   (k : Q (some (.int (Int32.ofInt 1))) (V, T)) : E x F d 122 36 [o0, o1, o2, o3] [] (V, T) Q := by
  refine e_iconst zd122_36 ?_
  exact e_ireti zd122_37 zs122 k
theorem b122_38 {x : zXs} {F : zF} (hF : zSh F) {d : Nat} {V : Nat → Nat → Int32} {T : Nat → Nat → Int64} {Q : Option Value → zG → Prop} {o0 : Option Value} {o1 : Option Value} {o2 : Option Value} {l3 : Int32}   (kt : l3 ≤ (Int32.ofInt 40) → E x F d 122 47 [o0, o1, o2, some (.int l3)] [] (V, T) Q) (kf : ¬ (l3 ≤ (Int32.ofInt 40)) → E x F d 122 44 [o0, o1, o2, some (.int l3)] [] (V, T) Q) : E x F d 122 38 [o0, o1, o2, some (.int l3)] [] (V, T) Q := by
  refine e_iload_n zd122_38 rfl ?_
  refine e_bipush zd122_39 (v := Int32.ofInt 40) (by decide +kernel) ?_
  exact e_icmp_le zd122_41 (tg := 47) rfl kt kf
theorem b122_44 {x : zXs} {F : zF} (hF : zSh F) {d : Nat} {V : Nat → Nat → Int32} {T : Nat → Nat → Int64} {Q : Option Value → zG → Prop} {o0 : Option Value} {o1 : Option Value} {o2 : Option Value} {o3 : Option Value}   (k : Q (some (.int (Int32.ofInt (-2)))) (V, T)) : E x F d 122 44 [o0, o1, o2, o3] [] (V, T) Q := by
  refine e_bipush zd122_44 (v := Int32.ofInt (-2)) (by decide +kernel) ?_
  exact e_ireti zd122_46 zs122 k
theorem b122_47 {x : zXs} {F : zF} (hF : zSh F) {d : Nat} {V : Nat → Nat → Int32} {T : Nat → Nat → Int64} {Q : Option Value → zG → Prop} {o0 : Option Value} {o1 : Option Value} {o2 : Option Value} {l3 : Int32}   (kt : 0 ≤ l3 → E x F d 122 54 [o0, o1, o2, some (.int l3)] [] (V, T) Q) (kf : ¬ (0 ≤ l3) → E x F d 122 51 [o0, o1, o2, some (.int l3)] [] (V, T) Q) : E x F d 122 47 [o0, o1, o2, some (.int l3)] [] (V, T) Q := by
  refine e_iload_n zd122_47 rfl ?_
  exact e_if_ge zd122_48 (tg := 54) rfl kt kf
theorem b122_51 {x : zXs} {F : zF} (hF : zSh F) {d : Nat} {V : Nat → Nat → Int32} {T : Nat → Nat → Int64} {Q : Option Value → zG → Prop} {o0 : Option Value} {o1 : Option Value} {o2 : Option Value} {o3 : Option Value}   (k : Q (some (.int (Int32.ofInt (-14)))) (V, T)) : E x F d 122 51 [o0, o1, o2, o3] [] (V, T) Q := by
  refine e_bipush zd122_51 (v := Int32.ofInt (-14)) (by decide +kernel) ?_
  exact e_ireti zd122_53 zs122 k
theorem b122_54 {x : zXs} {F : zF} (hF : zSh F) {d : Nat} {V : Nat → Nat → Int32} {T : Nat → Nat → Int64} {Q : Option Value → zG → Prop} {l1 : Int32} {l2 : Int32} {l3 : Int32}  {i1 : Nat} (e1 : l1 = nI i1) (h1 : i1 < 4) (k : E x F d 112 0 [some (.ref (51 + 2 * i1)), some (.int l2), some (.int l3)] [] (V, T) (fun r G' => E x F (d + 1) 122 65 [some (.ref 0), some (.int l1), some (.int l2), some (.int l3)] (r.toList ++ []) G' Q)) : E x F (d + 1) 122 54 [some (.ref 0), some (.int l1), some (.int l2), some (.int l3)] [] (V, T) Q := by
  refine e_aload_n zd122_54 rfl rfl ?_
  refine e_getA zd122_55 (own := 7) (ci := 7) (kf := 7) (w := 304) (by decide +kernel) (by decide +kernel) (zsh_at hF rfl).1 (by decide +kernel) rfl (zrf_at hF (i := 7) rfl) ?_
  refine e_iload_n zd122_58 rfl ?_
  refine e_aald zd122_59 (i := i1) (n := 4) ⟨Or.inr (zsh_at hF rfl).1, (zsh_at hF rfl).2⟩ e1 h1 (by omega) (zSht_at hF h1).1 ?_
  refine e_iload_n zd122_60 rfl ?_
  refine e_iload_n zd122_61 rfl ?_
  exact e_callV zd122_62 (own := 7) (nest := false) (w := 781) (by decide +kernel) (by decide +kernel) zs112 (as := [.int l2, .int l3]) (rest := []) rfl rfl (zSt4_s hF (zSht_in (i := i1) h1)).1 (by omega) (Nat.le_of_ble_eq_true rfl) rfl rfl rfl (by omega) k
theorem b122_65 {x : zXs} {F : zF} (hF : zSh F) {d : Nat} {V : Nat → Nat → Int32} {T : Nat → Nat → Int64} {Q : Option Value → zG → Prop} {o0 : Option Value} {o1 : Option Value} {o2 : Option Value} {o3 : Option Value}   (k : Q (some (.int (Int32.ofInt 1))) (V, T)) : E x F d 122 65 [o0, o1, o2, o3] [] (V, T) Q := by
  refine e_iconst zd122_65 ?_
  exact e_ireti zd122_66 zs122 k
theorem zd123_0 : zop 123 0 = some (.aload_n 0, 1) := by decide +kernel
theorem zd123_1 : zop 123 1 = some (.iload_n 1, 1) := by decide +kernel
theorem zd123_2 : zop 123 2 = some (.invokevirtual 210, 3) := by decide +kernel
theorem zd123_5 : zop 123 5 = some (.ifCond .ne 6, 3) := by decide +kernel
theorem zd123_8 : zop 123 8 = some (.bipush (-2), 2) := by decide +kernel
theorem zd123_10 : zop 123 10 = some (.ireturn, 1) := by decide +kernel
theorem zd123_11 : zop 123 11 = some (.aload_n 0, 1) := by decide +kernel
theorem zd123_12 : zop 123 12 = some (.getfield 50, 3) := by decide +kernel
theorem zd123_15 : zop 123 15 = some (.iload_n 1, 1) := by decide +kernel
theorem zd123_16 : zop 123 16 = some (.aaload, 1) := by decide +kernel
theorem zd123_17 : zop 123 17 = some (.astore 4, 2) := by decide +kernel
theorem zd123_19 : zop 123 19 = some (.aload 4, 2) := by decide +kernel
theorem zd123_21 : zop 123 21 = some (.invokevirtual 213, 3) := by decide +kernel
theorem zd123_24 : zop 123 24 = some (.ifCond .eq 6, 3) := by decide +kernel
theorem zd123_27 : zop 123 27 = some (.bipush (-11), 2) := by decide +kernel
theorem zd123_29 : zop 123 29 = some (.ireturn, 1) := by decide +kernel
theorem zd123_30 : zop 123 30 = some (.aload 4, 2) := by decide +kernel
theorem zd123_32 : zop 123 32 = some (.iload_n 2, 1) := by decide +kernel
theorem zd123_33 : zop 123 33 = some (.iload_n 3, 1) := by decide +kernel
theorem zd123_34 : zop 123 34 = some (.invokevirtual 256, 3) := by decide +kernel
theorem zd123_37 : zop 123 37 = some (.ifCond .eq 7, 3) := by decide +kernel
theorem zd123_40 : zop 123 40 = some (.iconst 1, 1) := by decide +kernel
theorem zd123_41 : zop 123 41 = some (.goto 5, 3) := by decide +kernel
theorem zd123_44 : zop 123 44 = some (.bipush (-12), 2) := by decide +kernel
theorem zd123_46 : zop 123 46 = some (.ireturn, 1) := by decide +kernel
theorem b123_0 {x : zXs} {F : zF} (hF : zSh F) {d : Nat} {V : Nat → Nat → Int32} {T : Nat → Nat → Int64} {Q : Option Value → zG → Prop} {l1 : Int32} {o2 : Option Value} {o3 : Option Value} {o4 : Option Value}   (k : E x F d 101 0 [some (.ref 0), some (.int l1)] [] (V, T) (fun r G' => E x F (d + 1) 123 5 [some (.ref 0), some (.int l1), o2, o3, o4] (r.toList ++ []) G' Q)) : E x F (d + 1) 123 0 [some (.ref 0), some (.int l1), o2, o3, o4] [] (V, T) Q := by
  refine e_aload_n zd123_0 rfl rfl ?_
  refine e_iload_n zd123_1 rfl ?_
  exact e_callV zd123_2 (own := 7) (nest := false) (w := 738) (by decide +kernel) (by decide +kernel) zs101 (as := [.int l1]) (rest := []) rfl rfl (zsh_at hF rfl).1 (by omega) (Nat.le_of_ble_eq_true rfl) rfl rfl rfl (by omega) k
theorem b123_5 {x : zXs} {F : zF} (hF : zSh F) {d : Nat} {V : Nat → Nat → Int32} {T : Nat → Nat → Int64} {Q : Option Value → zG → Prop} {o0 : Option Value} {o1 : Option Value} {o2 : Option Value} {o3 : Option Value} {o4 : Option Value} {s0 : Int32}   (kt : ¬ s0 = 0 → E x F d 123 11 [o0, o1, o2, o3, o4] [] (V, T) Q) (kf : ¬ (¬ s0 = 0) → E x F d 123 8 [o0, o1, o2, o3, o4] [] (V, T) Q) : E x F d 123 5 [o0, o1, o2, o3, o4] [.int s0] (V, T) Q := by
  exact e_if_ne zd123_5 (tg := 11) rfl kt kf
theorem b123_8 {x : zXs} {F : zF} (hF : zSh F) {d : Nat} {V : Nat → Nat → Int32} {T : Nat → Nat → Int64} {Q : Option Value → zG → Prop} {o0 : Option Value} {o1 : Option Value} {o2 : Option Value} {o3 : Option Value} {o4 : Option Value}   (k : Q (some (.int (Int32.ofInt (-2)))) (V, T)) : E x F d 123 8 [o0, o1, o2, o3, o4] [] (V, T) Q := by
  refine e_bipush zd123_8 (v := Int32.ofInt (-2)) (by decide +kernel) ?_
  exact e_ireti zd123_10 zs123 k
theorem b123_11 {x : zXs} {F : zF} (hF : zSh F) {d : Nat} {V : Nat → Nat → Int32} {T : Nat → Nat → Int64} {Q : Option Value → zG → Prop} {l1 : Int32} {o2 : Option Value} {o3 : Option Value} {o4 : Option Value}  {i1 : Nat} (e1 : l1 = nI i1) (h1 : i1 < 4) (k : E x F d 102 0 [some (.ref (51 + 2 * i1))] [] (V, T) (fun r G' => E x F (d + 1) 123 24 [some (.ref 0), some (.int l1), o2, o3, some (.ref (51 + 2 * i1))] (r.toList ++ []) G' Q)) : E x F (d + 1) 123 11 [some (.ref 0), some (.int l1), o2, o3, o4] [] (V, T) Q := by
  refine e_aload_n zd123_11 rfl rfl ?_
  refine e_getA zd123_12 (own := 7) (ci := 7) (kf := 7) (w := 304) (by decide +kernel) (by decide +kernel) (zsh_at hF rfl).1 (by decide +kernel) rfl (zrf_at hF (i := 7) rfl) ?_
  refine e_iload_n zd123_15 rfl ?_
  refine e_aald zd123_16 (i := i1) (n := 4) ⟨Or.inr (zsh_at hF rfl).1, (zsh_at hF rfl).2⟩ e1 h1 (by omega) (zSht_at hF h1).1 ?_
  refine e_astore zd123_17 rfl (by decide +kernel) (Nat.le_of_ble_eq_true rfl) ?_
  refine e_aload zd123_19 rfl rfl ?_
  exact e_callV zd123_21 (own := 7) (nest := false) (w := 742) (by decide +kernel) (by decide +kernel) zs102 (as := []) (rest := []) rfl rfl (zSt4_s hF (zSht_in (i := i1) h1)).1 (by omega) (Nat.le_of_ble_eq_true rfl) rfl rfl rfl (by omega) k
theorem b123_24 {x : zXs} {F : zF} (hF : zSh F) {d : Nat} {V : Nat → Nat → Int32} {T : Nat → Nat → Int64} {Q : Option Value → zG → Prop} {o0 : Option Value} {o1 : Option Value} {o2 : Option Value} {o3 : Option Value} {o4 : Option Value} {s0 : Int32}   (kt : s0 = 0 → E x F d 123 30 [o0, o1, o2, o3, o4] [] (V, T) Q) (kf : ¬ (s0 = 0) → E x F d 123 27 [o0, o1, o2, o3, o4] [] (V, T) Q) : E x F d 123 24 [o0, o1, o2, o3, o4] [.int s0] (V, T) Q := by
  exact e_if_eq zd123_24 (tg := 30) rfl kt kf
theorem b123_27 {x : zXs} {F : zF} (hF : zSh F) {d : Nat} {V : Nat → Nat → Int32} {T : Nat → Nat → Int64} {Q : Option Value → zG → Prop} {o0 : Option Value} {o1 : Option Value} {o2 : Option Value} {o3 : Option Value} {o4 : Option Value}   (k : Q (some (.int (Int32.ofInt (-11)))) (V, T)) : E x F d 123 27 [o0, o1, o2, o3, o4] [] (V, T) Q := by
  refine e_bipush zd123_27 (v := Int32.ofInt (-11)) (by decide +kernel) ?_
  exact e_ireti zd123_29 zs123 k
theorem b123_30 {x : zXs} {F : zF} (hF : zSh F) {d : Nat} {V : Nat → Nat → Int32} {T : Nat → Nat → Int64} {Q : Option Value → zG → Prop} {o0 : Option Value} {o1 : Option Value} {l2 : Int32} {l3 : Int32} {l4 : Nat} (hl4 : zSt4 l4)  (k : E x F d 114 0 [some (.ref l4), some (.int l2), some (.int l3)] [] (V, T) (fun r G' => E x F (d + 1) 123 37 [o0, o1, some (.int l2), some (.int l3), some (.ref l4)] (r.toList ++ []) G' Q)) : E x F (d + 1) 123 30 [o0, o1, some (.int l2), some (.int l3), some (.ref l4)] [] (V, T) Q := by
  refine e_aload zd123_30 rfl rfl ?_
  refine e_iload_n zd123_32 rfl ?_
  refine e_iload_n zd123_33 rfl ?_
  exact e_callV zd123_34 (own := 7) (nest := false) (w := 789) (by decide +kernel) (by decide +kernel) zs114 (as := [.int l2, .int l3]) (rest := []) rfl rfl (zSt4_s hF hl4).1 (by omega) (Nat.le_of_ble_eq_true rfl) rfl rfl rfl (by omega) k
theorem b123_37 {x : zXs} {F : zF} (hF : zSh F) {d : Nat} {V : Nat → Nat → Int32} {T : Nat → Nat → Int64} {Q : Option Value → zG → Prop} {o0 : Option Value} {o1 : Option Value} {o2 : Option Value} {o3 : Option Value} {o4 : Option Value} {s0 : Int32}   (kt : s0 = 0 → E x F d 123 44 [o0, o1, o2, o3, o4] [] (V, T) Q) (kf : ¬ (s0 = 0) → E x F d 123 40 [o0, o1, o2, o3, o4] [] (V, T) Q) : E x F d 123 37 [o0, o1, o2, o3, o4] [.int s0] (V, T) Q := by
  exact e_if_eq zd123_37 (tg := 44) rfl kt kf
theorem b123_40 {x : zXs} {F : zF} (hF : zSh F) {d : Nat} {V : Nat → Nat → Int32} {T : Nat → Nat → Int64} {Q : Option Value → zG → Prop} {o0 : Option Value} {o1 : Option Value} {o2 : Option Value} {o3 : Option Value} {o4 : Option Value}   (k : E x F d 123 46 [o0, o1, o2, o3, o4] [.int (Int32.ofInt 1)] (V, T) Q) : E x F d 123 40 [o0, o1, o2, o3, o4] [] (V, T) Q := by
  refine e_iconst zd123_40 ?_
  exact e_goto zd123_41 (tg := 46) rfl k
theorem b123_44 {x : zXs} {F : zF} (hF : zSh F) {d : Nat} {V : Nat → Nat → Int32} {T : Nat → Nat → Int64} {Q : Option Value → zG → Prop} {o0 : Option Value} {o1 : Option Value} {o2 : Option Value} {o3 : Option Value} {o4 : Option Value}   (k : E x F d 123 46 [o0, o1, o2, o3, o4] [.int (Int32.ofInt (-12))] (V, T) Q) : E x F d 123 44 [o0, o1, o2, o3, o4] [] (V, T) Q := by
  refine e_bipush zd123_44 (v := Int32.ofInt (-12)) (by decide +kernel) ?_
  exact k
theorem b123_46 {x : zXs} {F : zF} (hF : zSh F) {d : Nat} {V : Nat → Nat → Int32} {T : Nat → Nat → Int64} {Q : Option Value → zG → Prop} {o0 : Option Value} {o1 : Option Value} {o2 : Option Value} {o3 : Option Value} {o4 : Option Value} {s0 : Int32}   (k : Q (some (.int s0)) (V, T)) : E x F d 123 46 [o0, o1, o2, o3, o4] [.int s0] (V, T) Q := by
  exact e_ireti zd123_46 zs123 k
theorem zd124_0 : zop 124 0 = some (.aload_n 0, 1) := by decide +kernel
theorem zd124_1 : zop 124 1 = some (.iload_n 1, 1) := by decide +kernel
theorem zd124_2 : zop 124 2 = some (.invokevirtual 210, 3) := by decide +kernel
theorem zd124_5 : zop 124 5 = some (.ifCond .eq 11, 3) := by decide +kernel
theorem zd124_8 : zop 124 8 = some (.aload_n 0, 1) := by decide +kernel
theorem zd124_9 : zop 124 9 = some (.iload_n 3, 1) := by decide +kernel
theorem zd124_10 : zop 124 10 = some (.invokevirtual 210, 3) := by decide +kernel
theorem zd124_13 : zop 124 13 = some (.ifCond .ne 6, 3) := by decide +kernel
theorem zd124_16 : zop 124 16 = some (.bipush (-2), 2) := by decide +kernel
theorem zd124_18 : zop 124 18 = some (.ireturn, 1) := by decide +kernel
theorem zd124_19 : zop 124 19 = some (.aload_n 0, 1) := by decide +kernel
theorem zd124_20 : zop 124 20 = some (.getfield 50, 3) := by decide +kernel
theorem zd124_23 : zop 124 23 = some (.iload_n 1, 1) := by decide +kernel
theorem zd124_24 : zop 124 24 = some (.aaload, 1) := by decide +kernel
theorem zd124_25 : zop 124 25 = some (.astore 6, 2) := by decide +kernel
theorem zd124_27 : zop 124 27 = some (.aload_n 0, 1) := by decide +kernel
theorem zd124_28 : zop 124 28 = some (.getfield 50, 3) := by decide +kernel
theorem zd124_31 : zop 124 31 = some (.iload_n 3, 1) := by decide +kernel
theorem zd124_32 : zop 124 32 = some (.aaload, 1) := by decide +kernel
theorem zd124_33 : zop 124 33 = some (.astore 7, 2) := by decide +kernel
theorem zd124_35 : zop 124 35 = some (.aload 6, 2) := by decide +kernel
theorem zd124_37 : zop 124 37 = some (.invokevirtual 213, 3) := by decide +kernel
theorem zd124_40 : zop 124 40 = some (.ifCond .ne 11, 3) := by decide +kernel
theorem zd124_43 : zop 124 43 = some (.aload 7, 2) := by decide +kernel
theorem zd124_45 : zop 124 45 = some (.invokevirtual 213, 3) := by decide +kernel
theorem zd124_48 : zop 124 48 = some (.ifCond .eq 6, 3) := by decide +kernel
theorem zd124_51 : zop 124 51 = some (.bipush (-11), 2) := by decide +kernel
theorem zd124_53 : zop 124 53 = some (.ireturn, 1) := by decide +kernel
theorem zd124_54 : zop 124 54 = some (.aload 6, 2) := by decide +kernel
theorem zd124_56 : zop 124 56 = some (.getfield 267, 3) := by decide +kernel
theorem zd124_59 : zop 124 59 = some (.aload 7, 2) := by decide +kernel
theorem zd124_61 : zop 124 61 = some (.getfield 267, 3) := by decide +kernel
theorem zd124_64 : zop 124 64 = some (.if_icmp .eq 6, 3) := by decide +kernel
theorem zd124_67 : zop 124 67 = some (.bipush (-13), 2) := by decide +kernel
theorem zd124_69 : zop 124 69 = some (.ireturn, 1) := by decide +kernel
theorem zd124_70 : zop 124 70 = some (.aload 6, 2) := by decide +kernel
theorem zd124_72 : zop 124 72 = some (.iload_n 2, 1) := by decide +kernel
theorem zd124_73 : zop 124 73 = some (.iload 5, 2) := by decide +kernel
theorem zd124_75 : zop 124 75 = some (.invokevirtual 270, 3) := by decide +kernel
theorem zd124_78 : zop 124 78 = some (.ifCond .eq 15, 3) := by decide +kernel
theorem zd124_81 : zop 124 81 = some (.aload 7, 2) := by decide +kernel
theorem zd124_83 : zop 124 83 = some (.iload 4, 2) := by decide +kernel
theorem zd124_85 : zop 124 85 = some (.iload 5, 2) := by decide +kernel
theorem zd124_87 : zop 124 87 = some (.invokevirtual 270, 3) := by decide +kernel
theorem zd124_90 : zop 124 90 = some (.ifCond .ne 6, 3) := by decide +kernel
theorem zd124_93 : zop 124 93 = some (.bipush (-12), 2) := by decide +kernel
theorem zd124_95 : zop 124 95 = some (.ireturn, 1) := by decide +kernel
theorem zd124_96 : zop 124 96 = some (.aload 6, 2) := by decide +kernel
theorem zd124_98 : zop 124 98 = some (.getfield 243, 3) := by decide +kernel
theorem zd124_101 : zop 124 101 = some (.iload_n 2, 1) := by decide +kernel
theorem zd124_102 : zop 124 102 = some (.aload 7, 2) := by decide +kernel
theorem zd124_104 : zop 124 104 = some (.getfield 243, 3) := by decide +kernel
theorem zd124_107 : zop 124 107 = some (.iload 4, 2) := by decide +kernel
theorem zd124_109 : zop 124 109 = some (.iload 5, 2) := by decide +kernel
theorem zd124_111 : zop 124 111 = some (.invokestatic 273, 3) := by decide +kernel
theorem zd124_114 : zop 124 114 = some (.iload 5, 2) := by decide +kernel
theorem zd124_116 : zop 124 116 = some (.ireturn, 1) := by decide +kernel
theorem b124_0 {x : zXs} {F : zF} (hF : zSh F) {d : Nat} {V : Nat → Nat → Int32} {T : Nat → Nat → Int64} {Q : Option Value → zG → Prop} {l1 : Int32} {o2 : Option Value} {o3 : Option Value} {o4 : Option Value} {o5 : Option Value} {o6 : Option Value} {o7 : Option Value}   (k : E x F d 101 0 [some (.ref 0), some (.int l1)] [] (V, T) (fun r G' => E x F (d + 1) 124 5 [some (.ref 0), some (.int l1), o2, o3, o4, o5, o6, o7] (r.toList ++ []) G' Q)) : E x F (d + 1) 124 0 [some (.ref 0), some (.int l1), o2, o3, o4, o5, o6, o7] [] (V, T) Q := by
  refine e_aload_n zd124_0 rfl rfl ?_
  refine e_iload_n zd124_1 rfl ?_
  exact e_callV zd124_2 (own := 7) (nest := false) (w := 738) (by decide +kernel) (by decide +kernel) zs101 (as := [.int l1]) (rest := []) rfl rfl (zsh_at hF rfl).1 (by omega) (Nat.le_of_ble_eq_true rfl) rfl rfl rfl (by omega) k
theorem b124_5 {x : zXs} {F : zF} (hF : zSh F) {d : Nat} {V : Nat → Nat → Int32} {T : Nat → Nat → Int64} {Q : Option Value → zG → Prop} {o0 : Option Value} {o1 : Option Value} {o2 : Option Value} {o3 : Option Value} {o4 : Option Value} {o5 : Option Value} {o6 : Option Value} {o7 : Option Value} {s0 : Int32}   (kt : s0 = 0 → E x F d 124 16 [o0, o1, o2, o3, o4, o5, o6, o7] [] (V, T) Q) (kf : ¬ (s0 = 0) → E x F d 124 8 [o0, o1, o2, o3, o4, o5, o6, o7] [] (V, T) Q) : E x F d 124 5 [o0, o1, o2, o3, o4, o5, o6, o7] [.int s0] (V, T) Q := by
  exact e_if_eq zd124_5 (tg := 16) rfl kt kf
theorem b124_8 {x : zXs} {F : zF} (hF : zSh F) {d : Nat} {V : Nat → Nat → Int32} {T : Nat → Nat → Int64} {Q : Option Value → zG → Prop} {o1 : Option Value} {o2 : Option Value} {l3 : Int32} {o4 : Option Value} {o5 : Option Value} {o6 : Option Value} {o7 : Option Value}   (k : E x F d 101 0 [some (.ref 0), some (.int l3)] [] (V, T) (fun r G' => E x F (d + 1) 124 13 [some (.ref 0), o1, o2, some (.int l3), o4, o5, o6, o7] (r.toList ++ []) G' Q)) : E x F (d + 1) 124 8 [some (.ref 0), o1, o2, some (.int l3), o4, o5, o6, o7] [] (V, T) Q := by
  refine e_aload_n zd124_8 rfl rfl ?_
  refine e_iload_n zd124_9 rfl ?_
  exact e_callV zd124_10 (own := 7) (nest := false) (w := 738) (by decide +kernel) (by decide +kernel) zs101 (as := [.int l3]) (rest := []) rfl rfl (zsh_at hF rfl).1 (by omega) (Nat.le_of_ble_eq_true rfl) rfl rfl rfl (by omega) k
theorem b124_13 {x : zXs} {F : zF} (hF : zSh F) {d : Nat} {V : Nat → Nat → Int32} {T : Nat → Nat → Int64} {Q : Option Value → zG → Prop} {o0 : Option Value} {o1 : Option Value} {o2 : Option Value} {o3 : Option Value} {o4 : Option Value} {o5 : Option Value} {o6 : Option Value} {o7 : Option Value} {s0 : Int32}   (kt : ¬ s0 = 0 → E x F d 124 19 [o0, o1, o2, o3, o4, o5, o6, o7] [] (V, T) Q) (kf : ¬ (¬ s0 = 0) → E x F d 124 16 [o0, o1, o2, o3, o4, o5, o6, o7] [] (V, T) Q) : E x F d 124 13 [o0, o1, o2, o3, o4, o5, o6, o7] [.int s0] (V, T) Q := by
  exact e_if_ne zd124_13 (tg := 19) rfl kt kf
theorem b124_16 {x : zXs} {F : zF} (hF : zSh F) {d : Nat} {V : Nat → Nat → Int32} {T : Nat → Nat → Int64} {Q : Option Value → zG → Prop} {o0 : Option Value} {o1 : Option Value} {o2 : Option Value} {o3 : Option Value} {o4 : Option Value} {o5 : Option Value} {o6 : Option Value} {o7 : Option Value}   (k : Q (some (.int (Int32.ofInt (-2)))) (V, T)) : E x F d 124 16 [o0, o1, o2, o3, o4, o5, o6, o7] [] (V, T) Q := by
  refine e_bipush zd124_16 (v := Int32.ofInt (-2)) (by decide +kernel) ?_
  exact e_ireti zd124_18 zs124 k
theorem b124_19 {x : zXs} {F : zF} (hF : zSh F) {d : Nat} {V : Nat → Nat → Int32} {T : Nat → Nat → Int64} {Q : Option Value → zG → Prop} {l1 : Int32} {o2 : Option Value} {l3 : Int32} {o4 : Option Value} {o5 : Option Value} {o6 : Option Value} {o7 : Option Value}  {i1 : Nat} (e1 : l1 = nI i1) (h1 : i1 < 4) {i2 : Nat} (e2 : l3 = nI i2) (h2 : i2 < 4) (k : E x F d 102 0 [some (.ref (51 + 2 * i1))] [] (V, T) (fun r G' => E x F (d + 1) 124 40 [some (.ref 0), some (.int l1), o2, some (.int l3), o4, o5, some (.ref (51 + 2 * i1)), some (.ref (51 + 2 * i2))] (r.toList ++ []) G' Q)) : E x F (d + 1) 124 19 [some (.ref 0), some (.int l1), o2, some (.int l3), o4, o5, o6, o7] [] (V, T) Q := by
  refine e_aload_n zd124_19 rfl rfl ?_
  refine e_getA zd124_20 (own := 7) (ci := 7) (kf := 7) (w := 304) (by decide +kernel) (by decide +kernel) (zsh_at hF rfl).1 (by decide +kernel) rfl (zrf_at hF (i := 7) rfl) ?_
  refine e_iload_n zd124_23 rfl ?_
  refine e_aald zd124_24 (i := i1) (n := 4) ⟨Or.inr (zsh_at hF rfl).1, (zsh_at hF rfl).2⟩ e1 h1 (by omega) (zSht_at hF h1).1 ?_
  refine e_astore zd124_25 rfl (by decide +kernel) (Nat.le_of_ble_eq_true rfl) ?_
  refine e_aload_n zd124_27 rfl rfl ?_
  refine e_getA zd124_28 (own := 7) (ci := 7) (kf := 7) (w := 304) (by decide +kernel) (by decide +kernel) (zsh_at hF rfl).1 (by decide +kernel) rfl (zrf_at hF (i := 7) rfl) ?_
  refine e_iload_n zd124_31 rfl ?_
  refine e_aald zd124_32 (i := i2) (n := 4) ⟨Or.inr (zsh_at hF rfl).1, (zsh_at hF rfl).2⟩ e2 h2 (by omega) (zSht_at hF h2).1 ?_
  refine e_astore zd124_33 rfl (by decide +kernel) (Nat.le_of_ble_eq_true rfl) ?_
  refine e_aload zd124_35 rfl rfl ?_
  exact e_callV zd124_37 (own := 7) (nest := false) (w := 742) (by decide +kernel) (by decide +kernel) zs102 (as := []) (rest := []) rfl rfl (zSt4_s hF (zSht_in (i := i1) h1)).1 (by omega) (Nat.le_of_ble_eq_true rfl) rfl rfl rfl (by omega) k
theorem b124_40 {x : zXs} {F : zF} (hF : zSh F) {d : Nat} {V : Nat → Nat → Int32} {T : Nat → Nat → Int64} {Q : Option Value → zG → Prop} {o0 : Option Value} {o1 : Option Value} {o2 : Option Value} {o3 : Option Value} {o4 : Option Value} {o5 : Option Value} {o6 : Option Value} {o7 : Option Value} {s0 : Int32}   (kt : ¬ s0 = 0 → E x F d 124 51 [o0, o1, o2, o3, o4, o5, o6, o7] [] (V, T) Q) (kf : ¬ (¬ s0 = 0) → E x F d 124 43 [o0, o1, o2, o3, o4, o5, o6, o7] [] (V, T) Q) : E x F d 124 40 [o0, o1, o2, o3, o4, o5, o6, o7] [.int s0] (V, T) Q := by
  exact e_if_ne zd124_40 (tg := 51) rfl kt kf
theorem b124_43 {x : zXs} {F : zF} (hF : zSh F) {d : Nat} {V : Nat → Nat → Int32} {T : Nat → Nat → Int64} {Q : Option Value → zG → Prop} {o0 : Option Value} {o1 : Option Value} {o2 : Option Value} {o3 : Option Value} {o4 : Option Value} {o5 : Option Value} {o6 : Option Value} {l7 : Nat} (hl7 : zSt4 l7)  (k : E x F d 102 0 [some (.ref l7)] [] (V, T) (fun r G' => E x F (d + 1) 124 48 [o0, o1, o2, o3, o4, o5, o6, some (.ref l7)] (r.toList ++ []) G' Q)) : E x F (d + 1) 124 43 [o0, o1, o2, o3, o4, o5, o6, some (.ref l7)] [] (V, T) Q := by
  refine e_aload zd124_43 rfl rfl ?_
  exact e_callV zd124_45 (own := 7) (nest := false) (w := 742) (by decide +kernel) (by decide +kernel) zs102 (as := []) (rest := []) rfl rfl (zSt4_s hF hl7).1 (by omega) (Nat.le_of_ble_eq_true rfl) rfl rfl rfl (by omega) k
theorem b124_48 {x : zXs} {F : zF} (hF : zSh F) {d : Nat} {V : Nat → Nat → Int32} {T : Nat → Nat → Int64} {Q : Option Value → zG → Prop} {o0 : Option Value} {o1 : Option Value} {o2 : Option Value} {o3 : Option Value} {o4 : Option Value} {o5 : Option Value} {o6 : Option Value} {o7 : Option Value} {s0 : Int32}   (kt : s0 = 0 → E x F d 124 54 [o0, o1, o2, o3, o4, o5, o6, o7] [] (V, T) Q) (kf : ¬ (s0 = 0) → E x F d 124 51 [o0, o1, o2, o3, o4, o5, o6, o7] [] (V, T) Q) : E x F d 124 48 [o0, o1, o2, o3, o4, o5, o6, o7] [.int s0] (V, T) Q := by
  exact e_if_eq zd124_48 (tg := 54) rfl kt kf
theorem b124_51 {x : zXs} {F : zF} (hF : zSh F) {d : Nat} {V : Nat → Nat → Int32} {T : Nat → Nat → Int64} {Q : Option Value → zG → Prop} {o0 : Option Value} {o1 : Option Value} {o2 : Option Value} {o3 : Option Value} {o4 : Option Value} {o5 : Option Value} {o6 : Option Value} {o7 : Option Value}   (k : Q (some (.int (Int32.ofInt (-11)))) (V, T)) : E x F d 124 51 [o0, o1, o2, o3, o4, o5, o6, o7] [] (V, T) Q := by
  refine e_bipush zd124_51 (v := Int32.ofInt (-11)) (by decide +kernel) ?_
  exact e_ireti zd124_53 zs124 k
theorem b124_54 {x : zXs} {F : zF} (hF : zSh F) {d : Nat} {V : Nat → Nat → Int32} {T : Nat → Nat → Int64} {Q : Option Value → zG → Prop} {o0 : Option Value} {o1 : Option Value} {o2 : Option Value} {o3 : Option Value} {o4 : Option Value} {o5 : Option Value} {l6 : Nat} {l7 : Nat} (hl6 : zSt4 l6) (hl7 : zSt4 l7)  (kt : (V l6 1) = (V l7 1) → E x F d 124 70 [o0, o1, o2, o3, o4, o5, some (.ref l6), some (.ref l7)] [] (V, T) Q) (kf : ¬ ((V l6 1) = (V l7 1)) → E x F d 124 67 [o0, o1, o2, o3, o4, o5, some (.ref l6), some (.ref l7)] [] (V, T) Q) : E x F d 124 54 [o0, o1, o2, o3, o4, o5, some (.ref l6), some (.ref l7)] [] (V, T) Q := by
  refine e_aload zd124_54 rfl rfl ?_
  refine e_getI zd124_56 (own := 7) (ci := 3) (kf := 1) (w := 287) (by decide +kernel) (by decide +kernel) (zSt4_s hF hl6).1 (by decide +kernel) rfl ?_
  refine e_aload zd124_59 rfl rfl ?_
  refine e_getI zd124_61 (own := 7) (ci := 3) (kf := 1) (w := 287) (by decide +kernel) (by decide +kernel) (zSt4_s hF hl7).1 (by decide +kernel) rfl ?_
  exact e_icmp_eq zd124_64 (tg := 70) rfl kt kf
theorem b124_67 {x : zXs} {F : zF} (hF : zSh F) {d : Nat} {V : Nat → Nat → Int32} {T : Nat → Nat → Int64} {Q : Option Value → zG → Prop} {o0 : Option Value} {o1 : Option Value} {o2 : Option Value} {o3 : Option Value} {o4 : Option Value} {o5 : Option Value} {o6 : Option Value} {o7 : Option Value}   (k : Q (some (.int (Int32.ofInt (-13)))) (V, T)) : E x F d 124 67 [o0, o1, o2, o3, o4, o5, o6, o7] [] (V, T) Q := by
  refine e_bipush zd124_67 (v := Int32.ofInt (-13)) (by decide +kernel) ?_
  exact e_ireti zd124_69 zs124 k
theorem b124_70 {x : zXs} {F : zF} (hF : zSh F) {d : Nat} {V : Nat → Nat → Int32} {T : Nat → Nat → Int64} {Q : Option Value → zG → Prop} {o0 : Option Value} {o1 : Option Value} {l2 : Int32} {o3 : Option Value} {o4 : Option Value} {l5 : Int32} {l6 : Nat} {o7 : Option Value} (hl6 : zSt4 l6)  (k : E x F d 115 0 [some (.ref l6), some (.int l2), some (.int l5)] [] (V, T) (fun r G' => E x F (d + 1) 124 78 [o0, o1, some (.int l2), o3, o4, some (.int l5), some (.ref l6), o7] (r.toList ++ []) G' Q)) : E x F (d + 1) 124 70 [o0, o1, some (.int l2), o3, o4, some (.int l5), some (.ref l6), o7] [] (V, T) Q := by
  refine e_aload zd124_70 rfl rfl ?_
  refine e_iload_n zd124_72 rfl ?_
  refine e_iload zd124_73 rfl ?_
  exact e_callV zd124_75 (own := 7) (nest := false) (w := 834) (by decide +kernel) (by decide +kernel) zs115 (as := [.int l2, .int l5]) (rest := []) rfl rfl (zSt4_s hF hl6).1 (by omega) (Nat.le_of_ble_eq_true rfl) rfl rfl rfl (by omega) k
theorem b124_78 {x : zXs} {F : zF} (hF : zSh F) {d : Nat} {V : Nat → Nat → Int32} {T : Nat → Nat → Int64} {Q : Option Value → zG → Prop} {o0 : Option Value} {o1 : Option Value} {o2 : Option Value} {o3 : Option Value} {o4 : Option Value} {o5 : Option Value} {o6 : Option Value} {o7 : Option Value} {s0 : Int32}   (kt : s0 = 0 → E x F d 124 93 [o0, o1, o2, o3, o4, o5, o6, o7] [] (V, T) Q) (kf : ¬ (s0 = 0) → E x F d 124 81 [o0, o1, o2, o3, o4, o5, o6, o7] [] (V, T) Q) : E x F d 124 78 [o0, o1, o2, o3, o4, o5, o6, o7] [.int s0] (V, T) Q := by
  exact e_if_eq zd124_78 (tg := 93) rfl kt kf
theorem b124_81 {x : zXs} {F : zF} (hF : zSh F) {d : Nat} {V : Nat → Nat → Int32} {T : Nat → Nat → Int64} {Q : Option Value → zG → Prop} {o0 : Option Value} {o1 : Option Value} {o2 : Option Value} {o3 : Option Value} {l4 : Int32} {l5 : Int32} {o6 : Option Value} {l7 : Nat} (hl7 : zSt4 l7)  (k : E x F d 115 0 [some (.ref l7), some (.int l4), some (.int l5)] [] (V, T) (fun r G' => E x F (d + 1) 124 90 [o0, o1, o2, o3, some (.int l4), some (.int l5), o6, some (.ref l7)] (r.toList ++ []) G' Q)) : E x F (d + 1) 124 81 [o0, o1, o2, o3, some (.int l4), some (.int l5), o6, some (.ref l7)] [] (V, T) Q := by
  refine e_aload zd124_81 rfl rfl ?_
  refine e_iload zd124_83 rfl ?_
  refine e_iload zd124_85 rfl ?_
  exact e_callV zd124_87 (own := 7) (nest := false) (w := 834) (by decide +kernel) (by decide +kernel) zs115 (as := [.int l4, .int l5]) (rest := []) rfl rfl (zSt4_s hF hl7).1 (by omega) (Nat.le_of_ble_eq_true rfl) rfl rfl rfl (by omega) k
theorem b124_90 {x : zXs} {F : zF} (hF : zSh F) {d : Nat} {V : Nat → Nat → Int32} {T : Nat → Nat → Int64} {Q : Option Value → zG → Prop} {o0 : Option Value} {o1 : Option Value} {o2 : Option Value} {o3 : Option Value} {o4 : Option Value} {o5 : Option Value} {o6 : Option Value} {o7 : Option Value} {s0 : Int32}   (kt : ¬ s0 = 0 → E x F d 124 96 [o0, o1, o2, o3, o4, o5, o6, o7] [] (V, T) Q) (kf : ¬ (¬ s0 = 0) → E x F d 124 93 [o0, o1, o2, o3, o4, o5, o6, o7] [] (V, T) Q) : E x F d 124 90 [o0, o1, o2, o3, o4, o5, o6, o7] [.int s0] (V, T) Q := by
  exact e_if_ne zd124_90 (tg := 96) rfl kt kf
theorem b124_93 {x : zXs} {F : zF} (hF : zSh F) {d : Nat} {V : Nat → Nat → Int32} {T : Nat → Nat → Int64} {Q : Option Value → zG → Prop} {o0 : Option Value} {o1 : Option Value} {o2 : Option Value} {o3 : Option Value} {o4 : Option Value} {o5 : Option Value} {o6 : Option Value} {o7 : Option Value}   (k : Q (some (.int (Int32.ofInt (-12)))) (V, T)) : E x F d 124 93 [o0, o1, o2, o3, o4, o5, o6, o7] [] (V, T) Q := by
  refine e_bipush zd124_93 (v := Int32.ofInt (-12)) (by decide +kernel) ?_
  exact e_ireti zd124_95 zs124 k
theorem b124_96 {x : zXs} {F : zF} (hF : zSh F) {d : Nat} {V : Nat → Nat → Int32} {T : Nat → Nat → Int64} {Q : Option Value → zG → Prop} {o0 : Option Value} {o1 : Option Value} {l2 : Int32} {o3 : Option Value} {l4 : Int32} {l5 : Int32} {l6 : Nat} {l7 : Nat} (hl6 : zSt4 l6) (hl7 : zSt4 l7) {i1 : Nat} (e1 : l2 = nI i1) {i2 : Nat} (e2 : l4 = nI i2) {i3 : Nat} (e3 : l5 = nI i3) (g4 : i1 + i3 ≤ 40) (j4 : i2 + i3 ≤ 40) (k : Q (some (.int l5)) (zcpy V (l6 + 1) (l7 + 1) i1 i2 i3, T)) : E x F d 124 96 [o0, o1, some (.int l2), o3, some (.int l4), some (.int l5), some (.ref l6), some (.ref l7)] [] (V, T) Q := by
  refine e_aload zd124_96 rfl rfl ?_
  refine e_getA zd124_98 (own := 7) (ci := 3) (kf := 0) (w := 285) (by decide +kernel) (by decide +kernel) (zSt4_s hF hl6).1 (by decide +kernel) rfl (zSt4_f0 hF hl6) ?_
  refine e_iload_n zd124_101 rfl ?_
  refine e_aload zd124_102 rfl rfl ?_
  refine e_getA zd124_104 (own := 7) (ci := 3) (kf := 0) (w := 285) (by decide +kernel) (by decide +kernel) (zSt4_s hF hl7).1 (by decide +kernel) rfl (zSt4_f0 hF hl7) ?_
  refine e_iload zd124_107 rfl ?_
  refine e_iload zd124_109 rfl ?_
  refine e_acopy zd124_111 (sp := i1) (dp := i2) (n := i3) (own := 7) (w := 835) (by decide +kernel) (by decide +kernel) (by decide +kernel) (by decide +kernel) (Nat.le_of_ble_eq_true rfl) (zSt4_a0 hF hl6) (zSt4_a0 hF hl7) e1 e2 e3 g4 j4 (by omega) ?_
  refine e_iload zd124_114 rfl ?_
  exact e_ireti zd124_116 zs124 k
theorem zd125_0 : zop 125 0 = some (.aload_n 0, 1) := by decide +kernel
theorem zd125_1 : zop 125 1 = some (.iload_n 1, 1) := by decide +kernel
theorem zd125_2 : zop 125 2 = some (.invokevirtual 210, 3) := by decide +kernel
theorem zd125_5 : zop 125 5 = some (.ifCond .eq 22, 3) := by decide +kernel
theorem zd125_8 : zop 125 8 = some (.iload_n 2, 1) := by decide +kernel
theorem zd125_9 : zop 125 9 = some (.iconst 0, 1) := by decide +kernel
theorem zd125_10 : zop 125 10 = some (.iconst 2, 1) := by decide +kernel
theorem zd125_11 : zop 125 11 = some (.invokestatic 59, 3) := by decide +kernel
theorem zd125_14 : zop 125 14 = some (.ifCond .eq 13, 3) := by decide +kernel
theorem zd125_17 : zop 125 17 = some (.iload 4, 2) := by decide +kernel
theorem zd125_19 : zop 125 19 = some (.iconst 0, 1) := by decide +kernel
theorem zd125_20 : zop 125 20 = some (.iconst 5, 1) := by decide +kernel
theorem zd125_21 : zop 125 21 = some (.invokestatic 59, 3) := by decide +kernel
theorem zd125_24 : zop 125 24 = some (.ifCond .ne 6, 3) := by decide +kernel
theorem zd125_27 : zop 125 27 = some (.bipush (-2), 2) := by decide +kernel
theorem zd125_29 : zop 125 29 = some (.ireturn, 1) := by decide +kernel
theorem zd125_30 : zop 125 30 = some (.aload_n 0, 1) := by decide +kernel
theorem zd125_31 : zop 125 31 = some (.getfield 50, 3) := by decide +kernel
theorem zd125_34 : zop 125 34 = some (.iload_n 1, 1) := by decide +kernel
theorem zd125_35 : zop 125 35 = some (.aaload, 1) := by decide +kernel
theorem zd125_36 : zop 125 36 = some (.astore 5, 2) := by decide +kernel
theorem zd125_38 : zop 125 38 = some (.aload 5, 2) := by decide +kernel
theorem zd125_40 : zop 125 40 = some (.invokevirtual 213, 3) := by decide +kernel
theorem zd125_43 : zop 125 43 = some (.ifCond .ne 15, 3) := by decide +kernel
theorem zd125_46 : zop 125 46 = some (.aload 5, 2) := by decide +kernel
theorem zd125_48 : zop 125 48 = some (.getfield 267, 3) := by decide +kernel
theorem zd125_51 : zop 125 51 = some (.iload_n 2, 1) := by decide +kernel
theorem zd125_52 : zop 125 52 = some (.if_icmp .eq 6, 3) := by decide +kernel
theorem zd125_55 : zop 125 55 = some (.bipush (-13), 2) := by decide +kernel
theorem zd125_57 : zop 125 57 = some (.ireturn, 1) := by decide +kernel
theorem zd125_58 : zop 125 58 = some (.aload 5, 2) := by decide +kernel
theorem zd125_60 : zop 125 60 = some (.invokevirtual 213, 3) := by decide +kernel
theorem zd125_63 : zop 125 63 = some (.ifCond .eq 6, 3) := by decide +kernel
theorem zd125_66 : zop 125 66 = some (.bipush (-11), 2) := by decide +kernel
theorem zd125_68 : zop 125 68 = some (.ireturn, 1) := by decide +kernel
theorem zd125_69 : zop 125 69 = some (.iconst 0, 1) := by decide +kernel
theorem zd125_70 : zop 125 70 = some (.istore 6, 2) := by decide +kernel
theorem zd125_72 : zop 125 72 = some (.iload_n 3, 1) := by decide +kernel
theorem zd125_73 : zop 125 73 = some (.istore 7, 2) := by decide +kernel
theorem zd125_75 : zop 125 75 = some (.iconst 0, 1) := by decide +kernel
theorem zd125_76 : zop 125 76 = some (.istore 8, 2) := by decide +kernel
theorem zd125_78 : zop 125 78 = some (.iload 8, 2) := by decide +kernel
theorem zd125_80 : zop 125 80 = some (.iload 4, 2) := by decide +kernel
theorem zd125_82 : zop 125 82 = some (.if_icmp .ge 57, 3) := by decide +kernel
theorem zd125_85 : zop 125 85 = some (.aload 5, 2) := by decide +kernel
theorem zd125_87 : zop 125 87 = some (.iload 7, 2) := by decide +kernel
theorem zd125_89 : zop 125 89 = some (.iconst 2, 1) := by decide +kernel
theorem zd125_90 : zop 125 90 = some (.invokevirtual 270, 3) := by decide +kernel
theorem zd125_93 : zop 125 93 = some (.ifCond .ne 6, 3) := by decide +kernel
theorem zd125_96 : zop 125 96 = some (.bipush (-12), 2) := by decide +kernel
theorem zd125_98 : zop 125 98 = some (.ireturn, 1) := by decide +kernel
theorem zd125_99 : zop 125 99 = some (.aload_n 0, 1) := by decide +kernel
theorem zd125_100 : zop 125 100 = some (.getfield 10, 3) := by decide +kernel
theorem zd125_103 : zop 125 103 = some (.aload 5, 2) := by decide +kernel
theorem zd125_105 : zop 125 105 = some (.getfield 243, 3) := by decide +kernel
theorem zd125_108 : zop 125 108 = some (.iload 7, 2) := by decide +kernel
theorem zd125_110 : zop 125 110 = some (.iaload, 1) := by decide +kernel
theorem zd125_111 : zop 125 111 = some (.aload 5, 2) := by decide +kernel
theorem zd125_113 : zop 125 113 = some (.getfield 243, 3) := by decide +kernel
theorem zd125_116 : zop 125 116 = some (.iload 7, 2) := by decide +kernel
theorem zd125_118 : zop 125 118 = some (.iconst 1, 1) := by decide +kernel
theorem zd125_119 : zop 125 119 = some (.iadd, 1) := by decide +kernel
theorem zd125_120 : zop 125 120 = some (.iaload, 1) := by decide +kernel
theorem zd125_121 : zop 125 121 = some (.invokevirtual 94, 3) := by decide +kernel
theorem zd125_124 : zop 125 124 = some (.ifCond .lt 6, 3) := by decide +kernel
theorem zd125_127 : zop 125 127 = some (.iinc 6 1, 3) := by decide +kernel
theorem zd125_130 : zop 125 130 = some (.iinc 7 2, 3) := by decide +kernel
theorem zd125_133 : zop 125 133 = some (.iinc 8 1, 3) := by decide +kernel
theorem zd125_136 : zop 125 136 = some (.goto (-58), 3) := by decide +kernel
theorem zd125_139 : zop 125 139 = some (.iload 6, 2) := by decide +kernel
theorem zd125_141 : zop 125 141 = some (.ireturn, 1) := by decide +kernel
theorem b125_0 {x : zXs} {F : zF} (hF : zSh F) {d : Nat} {V : Nat → Nat → Int32} {T : Nat → Nat → Int64} {Q : Option Value → zG → Prop} {l1 : Int32} {o2 : Option Value} {o3 : Option Value} {o4 : Option Value} {o5 : Option Value} {o6 : Option Value} {o7 : Option Value} {o8 : Option Value}   (k : E x F d 101 0 [some (.ref 0), some (.int l1)] [] (V, T) (fun r G' => E x F (d + 1) 125 5 [some (.ref 0), some (.int l1), o2, o3, o4, o5, o6, o7, o8] (r.toList ++ []) G' Q)) : E x F (d + 1) 125 0 [some (.ref 0), some (.int l1), o2, o3, o4, o5, o6, o7, o8] [] (V, T) Q := by
  refine e_aload_n zd125_0 rfl rfl ?_
  refine e_iload_n zd125_1 rfl ?_
  exact e_callV zd125_2 (own := 7) (nest := false) (w := 738) (by decide +kernel) (by decide +kernel) zs101 (as := [.int l1]) (rest := []) rfl rfl (zsh_at hF rfl).1 (by omega) (Nat.le_of_ble_eq_true rfl) rfl rfl rfl (by omega) k
theorem b125_5 {x : zXs} {F : zF} (hF : zSh F) {d : Nat} {V : Nat → Nat → Int32} {T : Nat → Nat → Int64} {Q : Option Value → zG → Prop} {o0 : Option Value} {o1 : Option Value} {o2 : Option Value} {o3 : Option Value} {o4 : Option Value} {o5 : Option Value} {o6 : Option Value} {o7 : Option Value} {o8 : Option Value} {s0 : Int32}   (kt : s0 = 0 → E x F d 125 27 [o0, o1, o2, o3, o4, o5, o6, o7, o8] [] (V, T) Q) (kf : ¬ (s0 = 0) → E x F d 125 8 [o0, o1, o2, o3, o4, o5, o6, o7, o8] [] (V, T) Q) : E x F d 125 5 [o0, o1, o2, o3, o4, o5, o6, o7, o8] [.int s0] (V, T) Q := by
  exact e_if_eq zd125_5 (tg := 27) rfl kt kf
theorem b125_8 {x : zXs} {F : zF} (hF : zSh F) {d : Nat} {V : Nat → Nat → Int32} {T : Nat → Nat → Int64} {Q : Option Value → zG → Prop} {o0 : Option Value} {o1 : Option Value} {l2 : Int32} {o3 : Option Value} {o4 : Option Value} {o5 : Option Value} {o6 : Option Value} {o7 : Option Value} {o8 : Option Value}   (k : E x F d 7 0 [some (.int l2), some (.int (Int32.ofInt 0)), some (.int (Int32.ofInt 2))] [] (V, T) (fun r G' => E x F (d + 1) 125 14 [o0, o1, some (.int l2), o3, o4, o5, o6, o7, o8] (r.toList ++ []) G' Q)) : E x F (d + 1) 125 8 [o0, o1, some (.int l2), o3, o4, o5, o6, o7, o8] [] (V, T) Q := by
  refine e_iload_n zd125_8 rfl ?_
  refine e_iconst zd125_9 ?_
  refine e_iconst zd125_10 ?_
  exact e_callS zd125_11 (own := 7) (nest := false) (w := 334) (by decide +kernel) (by decide +kernel) zs7 (as := [.int l2, .int (Int32.ofInt 0), .int (Int32.ofInt 2)]) (rest := []) rfl rfl (Nat.le_of_ble_eq_true rfl) rfl rfl rfl (by omega) k
theorem b125_14 {x : zXs} {F : zF} (hF : zSh F) {d : Nat} {V : Nat → Nat → Int32} {T : Nat → Nat → Int64} {Q : Option Value → zG → Prop} {o0 : Option Value} {o1 : Option Value} {o2 : Option Value} {o3 : Option Value} {o4 : Option Value} {o5 : Option Value} {o6 : Option Value} {o7 : Option Value} {o8 : Option Value} {s0 : Int32}   (kt : s0 = 0 → E x F d 125 27 [o0, o1, o2, o3, o4, o5, o6, o7, o8] [] (V, T) Q) (kf : ¬ (s0 = 0) → E x F d 125 17 [o0, o1, o2, o3, o4, o5, o6, o7, o8] [] (V, T) Q) : E x F d 125 14 [o0, o1, o2, o3, o4, o5, o6, o7, o8] [.int s0] (V, T) Q := by
  exact e_if_eq zd125_14 (tg := 27) rfl kt kf
theorem b125_17 {x : zXs} {F : zF} (hF : zSh F) {d : Nat} {V : Nat → Nat → Int32} {T : Nat → Nat → Int64} {Q : Option Value → zG → Prop} {o0 : Option Value} {o1 : Option Value} {o2 : Option Value} {o3 : Option Value} {l4 : Int32} {o5 : Option Value} {o6 : Option Value} {o7 : Option Value} {o8 : Option Value}   (k : E x F d 7 0 [some (.int l4), some (.int (Int32.ofInt 0)), some (.int (Int32.ofInt 5))] [] (V, T) (fun r G' => E x F (d + 1) 125 24 [o0, o1, o2, o3, some (.int l4), o5, o6, o7, o8] (r.toList ++ []) G' Q)) : E x F (d + 1) 125 17 [o0, o1, o2, o3, some (.int l4), o5, o6, o7, o8] [] (V, T) Q := by
  refine e_iload zd125_17 rfl ?_
  refine e_iconst zd125_19 ?_
  refine e_iconst zd125_20 ?_
  exact e_callS zd125_21 (own := 7) (nest := false) (w := 334) (by decide +kernel) (by decide +kernel) zs7 (as := [.int l4, .int (Int32.ofInt 0), .int (Int32.ofInt 5)]) (rest := []) rfl rfl (Nat.le_of_ble_eq_true rfl) rfl rfl rfl (by omega) k
theorem b125_24 {x : zXs} {F : zF} (hF : zSh F) {d : Nat} {V : Nat → Nat → Int32} {T : Nat → Nat → Int64} {Q : Option Value → zG → Prop} {o0 : Option Value} {o1 : Option Value} {o2 : Option Value} {o3 : Option Value} {o4 : Option Value} {o5 : Option Value} {o6 : Option Value} {o7 : Option Value} {o8 : Option Value} {s0 : Int32}   (kt : ¬ s0 = 0 → E x F d 125 30 [o0, o1, o2, o3, o4, o5, o6, o7, o8] [] (V, T) Q) (kf : ¬ (¬ s0 = 0) → E x F d 125 27 [o0, o1, o2, o3, o4, o5, o6, o7, o8] [] (V, T) Q) : E x F d 125 24 [o0, o1, o2, o3, o4, o5, o6, o7, o8] [.int s0] (V, T) Q := by
  exact e_if_ne zd125_24 (tg := 30) rfl kt kf
theorem b125_27 {x : zXs} {F : zF} (hF : zSh F) {d : Nat} {V : Nat → Nat → Int32} {T : Nat → Nat → Int64} {Q : Option Value → zG → Prop} {o0 : Option Value} {o1 : Option Value} {o2 : Option Value} {o3 : Option Value} {o4 : Option Value} {o5 : Option Value} {o6 : Option Value} {o7 : Option Value} {o8 : Option Value}   (k : Q (some (.int (Int32.ofInt (-2)))) (V, T)) : E x F d 125 27 [o0, o1, o2, o3, o4, o5, o6, o7, o8] [] (V, T) Q := by
  refine e_bipush zd125_27 (v := Int32.ofInt (-2)) (by decide +kernel) ?_
  exact e_ireti zd125_29 zs125 k
theorem b125_30 {x : zXs} {F : zF} (hF : zSh F) {d : Nat} {V : Nat → Nat → Int32} {T : Nat → Nat → Int64} {Q : Option Value → zG → Prop} {l1 : Int32} {o2 : Option Value} {o3 : Option Value} {o4 : Option Value} {o5 : Option Value} {o6 : Option Value} {o7 : Option Value} {o8 : Option Value}  {i1 : Nat} (e1 : l1 = nI i1) (h1 : i1 < 4) (k : E x F d 102 0 [some (.ref (51 + 2 * i1))] [] (V, T) (fun r G' => E x F (d + 1) 125 43 [some (.ref 0), some (.int l1), o2, o3, o4, some (.ref (51 + 2 * i1)), o6, o7, o8] (r.toList ++ []) G' Q)) : E x F (d + 1) 125 30 [some (.ref 0), some (.int l1), o2, o3, o4, o5, o6, o7, o8] [] (V, T) Q := by
  refine e_aload_n zd125_30 rfl rfl ?_
  refine e_getA zd125_31 (own := 7) (ci := 7) (kf := 7) (w := 304) (by decide +kernel) (by decide +kernel) (zsh_at hF rfl).1 (by decide +kernel) rfl (zrf_at hF (i := 7) rfl) ?_
  refine e_iload_n zd125_34 rfl ?_
  refine e_aald zd125_35 (i := i1) (n := 4) ⟨Or.inr (zsh_at hF rfl).1, (zsh_at hF rfl).2⟩ e1 h1 (by omega) (zSht_at hF h1).1 ?_
  refine e_astore zd125_36 rfl (by decide +kernel) (Nat.le_of_ble_eq_true rfl) ?_
  refine e_aload zd125_38 rfl rfl ?_
  exact e_callV zd125_40 (own := 7) (nest := false) (w := 742) (by decide +kernel) (by decide +kernel) zs102 (as := []) (rest := []) rfl rfl (zSt4_s hF (zSht_in (i := i1) h1)).1 (by omega) (Nat.le_of_ble_eq_true rfl) rfl rfl rfl (by omega) k
theorem b125_43 {x : zXs} {F : zF} (hF : zSh F) {d : Nat} {V : Nat → Nat → Int32} {T : Nat → Nat → Int64} {Q : Option Value → zG → Prop} {o0 : Option Value} {o1 : Option Value} {o2 : Option Value} {o3 : Option Value} {o4 : Option Value} {o5 : Option Value} {o6 : Option Value} {o7 : Option Value} {o8 : Option Value} {s0 : Int32}   (kt : ¬ s0 = 0 → E x F d 125 58 [o0, o1, o2, o3, o4, o5, o6, o7, o8] [] (V, T) Q) (kf : ¬ (¬ s0 = 0) → E x F d 125 46 [o0, o1, o2, o3, o4, o5, o6, o7, o8] [] (V, T) Q) : E x F d 125 43 [o0, o1, o2, o3, o4, o5, o6, o7, o8] [.int s0] (V, T) Q := by
  exact e_if_ne zd125_43 (tg := 58) rfl kt kf
theorem b125_46 {x : zXs} {F : zF} (hF : zSh F) {d : Nat} {V : Nat → Nat → Int32} {T : Nat → Nat → Int64} {Q : Option Value → zG → Prop} {o0 : Option Value} {o1 : Option Value} {l2 : Int32} {o3 : Option Value} {o4 : Option Value} {l5 : Nat} {o6 : Option Value} {o7 : Option Value} {o8 : Option Value} (hl5 : zSt4 l5)  (kt : (V l5 1) = l2 → E x F d 125 58 [o0, o1, some (.int l2), o3, o4, some (.ref l5), o6, o7, o8] [] (V, T) Q) (kf : ¬ ((V l5 1) = l2) → E x F d 125 55 [o0, o1, some (.int l2), o3, o4, some (.ref l5), o6, o7, o8] [] (V, T) Q) : E x F d 125 46 [o0, o1, some (.int l2), o3, o4, some (.ref l5), o6, o7, o8] [] (V, T) Q := by
  refine e_aload zd125_46 rfl rfl ?_
  refine e_getI zd125_48 (own := 7) (ci := 3) (kf := 1) (w := 287) (by decide +kernel) (by decide +kernel) (zSt4_s hF hl5).1 (by decide +kernel) rfl ?_
  refine e_iload_n zd125_51 rfl ?_
  exact e_icmp_eq zd125_52 (tg := 58) rfl kt kf
theorem b125_55 {x : zXs} {F : zF} (hF : zSh F) {d : Nat} {V : Nat → Nat → Int32} {T : Nat → Nat → Int64} {Q : Option Value → zG → Prop} {o0 : Option Value} {o1 : Option Value} {o2 : Option Value} {o3 : Option Value} {o4 : Option Value} {o5 : Option Value} {o6 : Option Value} {o7 : Option Value} {o8 : Option Value}   (k : Q (some (.int (Int32.ofInt (-13)))) (V, T)) : E x F d 125 55 [o0, o1, o2, o3, o4, o5, o6, o7, o8] [] (V, T) Q := by
  refine e_bipush zd125_55 (v := Int32.ofInt (-13)) (by decide +kernel) ?_
  exact e_ireti zd125_57 zs125 k
theorem b125_58 {x : zXs} {F : zF} (hF : zSh F) {d : Nat} {V : Nat → Nat → Int32} {T : Nat → Nat → Int64} {Q : Option Value → zG → Prop} {o0 : Option Value} {o1 : Option Value} {o2 : Option Value} {o3 : Option Value} {o4 : Option Value} {l5 : Nat} {o6 : Option Value} {o7 : Option Value} {o8 : Option Value} (hl5 : zSt4 l5)  (k : E x F d 102 0 [some (.ref l5)] [] (V, T) (fun r G' => E x F (d + 1) 125 63 [o0, o1, o2, o3, o4, some (.ref l5), o6, o7, o8] (r.toList ++ []) G' Q)) : E x F (d + 1) 125 58 [o0, o1, o2, o3, o4, some (.ref l5), o6, o7, o8] [] (V, T) Q := by
  refine e_aload zd125_58 rfl rfl ?_
  exact e_callV zd125_60 (own := 7) (nest := false) (w := 742) (by decide +kernel) (by decide +kernel) zs102 (as := []) (rest := []) rfl rfl (zSt4_s hF hl5).1 (by omega) (Nat.le_of_ble_eq_true rfl) rfl rfl rfl (by omega) k
theorem b125_63 {x : zXs} {F : zF} (hF : zSh F) {d : Nat} {V : Nat → Nat → Int32} {T : Nat → Nat → Int64} {Q : Option Value → zG → Prop} {o0 : Option Value} {o1 : Option Value} {o2 : Option Value} {o3 : Option Value} {o4 : Option Value} {o5 : Option Value} {o6 : Option Value} {o7 : Option Value} {o8 : Option Value} {s0 : Int32}   (kt : s0 = 0 → E x F d 125 69 [o0, o1, o2, o3, o4, o5, o6, o7, o8] [] (V, T) Q) (kf : ¬ (s0 = 0) → E x F d 125 66 [o0, o1, o2, o3, o4, o5, o6, o7, o8] [] (V, T) Q) : E x F d 125 63 [o0, o1, o2, o3, o4, o5, o6, o7, o8] [.int s0] (V, T) Q := by
  exact e_if_eq zd125_63 (tg := 69) rfl kt kf
theorem b125_66 {x : zXs} {F : zF} (hF : zSh F) {d : Nat} {V : Nat → Nat → Int32} {T : Nat → Nat → Int64} {Q : Option Value → zG → Prop} {o0 : Option Value} {o1 : Option Value} {o2 : Option Value} {o3 : Option Value} {o4 : Option Value} {o5 : Option Value} {o6 : Option Value} {o7 : Option Value} {o8 : Option Value}   (k : Q (some (.int (Int32.ofInt (-11)))) (V, T)) : E x F d 125 66 [o0, o1, o2, o3, o4, o5, o6, o7, o8] [] (V, T) Q := by
  refine e_bipush zd125_66 (v := Int32.ofInt (-11)) (by decide +kernel) ?_
  exact e_ireti zd125_68 zs125 k
theorem b125_69 {x : zXs} {F : zF} (hF : zSh F) {d : Nat} {V : Nat → Nat → Int32} {T : Nat → Nat → Int64} {Q : Option Value → zG → Prop} {o0 : Option Value} {o1 : Option Value} {o2 : Option Value} {l3 : Int32} {o4 : Option Value} {o5 : Option Value} {o6 : Option Value} {o7 : Option Value} {o8 : Option Value}   (k : E x F d 125 78 [o0, o1, o2, some (.int l3), o4, o5, some (.int (Int32.ofInt 0)), some (.int l3), some (.int (Int32.ofInt 0))] [] (V, T) Q) : E x F d 125 69 [o0, o1, o2, some (.int l3), o4, o5, o6, o7, o8] [] (V, T) Q := by
  refine e_iconst zd125_69 ?_
  refine e_istore zd125_70 (by decide +kernel) (Nat.le_of_ble_eq_true rfl) ?_
  refine e_iload_n zd125_72 rfl ?_
  refine e_istore zd125_73 (by decide +kernel) (Nat.le_of_ble_eq_true rfl) ?_
  refine e_iconst zd125_75 ?_
  refine e_istore zd125_76 (by decide +kernel) (Nat.le_of_ble_eq_true rfl) ?_
  exact k
theorem b125_78 {x : zXs} {F : zF} (hF : zSh F) {d : Nat} {V : Nat → Nat → Int32} {T : Nat → Nat → Int64} {Q : Option Value → zG → Prop} {o0 : Option Value} {o1 : Option Value} {o2 : Option Value} {o3 : Option Value} {l4 : Int32} {o5 : Option Value} {o6 : Option Value} {o7 : Option Value} {l8 : Int32}   (kt : l4 ≤ l8 → E x F d 125 139 [o0, o1, o2, o3, some (.int l4), o5, o6, o7, some (.int l8)] [] (V, T) Q) (kf : ¬ (l4 ≤ l8) → E x F d 125 85 [o0, o1, o2, o3, some (.int l4), o5, o6, o7, some (.int l8)] [] (V, T) Q) : E x F d 125 78 [o0, o1, o2, o3, some (.int l4), o5, o6, o7, some (.int l8)] [] (V, T) Q := by
  refine e_iload zd125_78 rfl ?_
  refine e_iload zd125_80 rfl ?_
  exact e_icmp_ge zd125_82 (tg := 139) rfl kt kf
theorem b125_85 {x : zXs} {F : zF} (hF : zSh F) {d : Nat} {V : Nat → Nat → Int32} {T : Nat → Nat → Int64} {Q : Option Value → zG → Prop} {o0 : Option Value} {o1 : Option Value} {o2 : Option Value} {o3 : Option Value} {o4 : Option Value} {l5 : Nat} {o6 : Option Value} {l7 : Int32} {o8 : Option Value} (hl5 : zSt4 l5)  (k : E x F d 115 0 [some (.ref l5), some (.int l7), some (.int (Int32.ofInt 2))] [] (V, T) (fun r G' => E x F (d + 1) 125 93 [o0, o1, o2, o3, o4, some (.ref l5), o6, some (.int l7), o8] (r.toList ++ []) G' Q)) : E x F (d + 1) 125 85 [o0, o1, o2, o3, o4, some (.ref l5), o6, some (.int l7), o8] [] (V, T) Q := by
  refine e_aload zd125_85 rfl rfl ?_
  refine e_iload zd125_87 rfl ?_
  refine e_iconst zd125_89 ?_
  exact e_callV zd125_90 (own := 7) (nest := false) (w := 834) (by decide +kernel) (by decide +kernel) zs115 (as := [.int l7, .int (Int32.ofInt 2)]) (rest := []) rfl rfl (zSt4_s hF hl5).1 (by omega) (Nat.le_of_ble_eq_true rfl) rfl rfl rfl (by omega) k
theorem b125_93 {x : zXs} {F : zF} (hF : zSh F) {d : Nat} {V : Nat → Nat → Int32} {T : Nat → Nat → Int64} {Q : Option Value → zG → Prop} {o0 : Option Value} {o1 : Option Value} {o2 : Option Value} {o3 : Option Value} {o4 : Option Value} {o5 : Option Value} {o6 : Option Value} {o7 : Option Value} {o8 : Option Value} {s0 : Int32}   (kt : ¬ s0 = 0 → E x F d 125 99 [o0, o1, o2, o3, o4, o5, o6, o7, o8] [] (V, T) Q) (kf : ¬ (¬ s0 = 0) → E x F d 125 96 [o0, o1, o2, o3, o4, o5, o6, o7, o8] [] (V, T) Q) : E x F d 125 93 [o0, o1, o2, o3, o4, o5, o6, o7, o8] [.int s0] (V, T) Q := by
  exact e_if_ne zd125_93 (tg := 99) rfl kt kf
theorem b125_96 {x : zXs} {F : zF} (hF : zSh F) {d : Nat} {V : Nat → Nat → Int32} {T : Nat → Nat → Int64} {Q : Option Value → zG → Prop} {o0 : Option Value} {o1 : Option Value} {o2 : Option Value} {o3 : Option Value} {o4 : Option Value} {o5 : Option Value} {o6 : Option Value} {o7 : Option Value} {o8 : Option Value}   (k : Q (some (.int (Int32.ofInt (-12)))) (V, T)) : E x F d 125 96 [o0, o1, o2, o3, o4, o5, o6, o7, o8] [] (V, T) Q := by
  refine e_bipush zd125_96 (v := Int32.ofInt (-12)) (by decide +kernel) ?_
  exact e_ireti zd125_98 zs125 k
theorem b125_99 {x : zXs} {F : zF} (hF : zSh F) {d : Nat} {V : Nat → Nat → Int32} {T : Nat → Nat → Int64} {Q : Option Value → zG → Prop} {o1 : Option Value} {o2 : Option Value} {o3 : Option Value} {o4 : Option Value} {l5 : Nat} {o6 : Option Value} {l7 : Int32} {o8 : Option Value} (hl5 : zSt4 l5) {i1 : Nat} (e1 : l7 = nI i1) (h1 : i1 < 40) {i2 : Nat} (e2 : l7 + (Int32.ofInt 1) = nI i2) (h2 : i2 < 40) (k : E x F d 21 0 [some (.ref 1), some (.int (V (l5 + 1) i1)), some (.int (V (l5 + 1) i2)), none] [] (V, T) (fun r G' => E x F (d + 1) 125 124 [some (.ref 0), o1, o2, o3, o4, some (.ref l5), o6, some (.int l7), o8] (r.toList ++ []) G' Q)) : E x F (d + 1) 125 99 [some (.ref 0), o1, o2, o3, o4, some (.ref l5), o6, some (.int l7), o8] [] (V, T) Q := by
  refine e_aload_n zd125_99 rfl rfl ?_
  refine e_getO zd125_100 (own := 7) (ci := 7) (kf := 0) (w := 297) (by decide +kernel) (by decide +kernel) (zsh_at hF rfl).1 (by decide +kernel) rfl (zrf_at hF (i := 0) rfl) ?_
  refine e_aload zd125_103 rfl rfl ?_
  refine e_getA zd125_105 (own := 7) (ci := 3) (kf := 0) (w := 285) (by decide +kernel) (by decide +kernel) (zSt4_s hF hl5).1 (by decide +kernel) rfl (zSt4_f0 hF hl5) ?_
  refine e_iload zd125_108 rfl ?_
  refine e_iald zd125_110 (i := i1) (zSt4_a0 hF hl5) e1 h1 (by omega) ?_
  refine e_aload zd125_111 rfl rfl ?_
  refine e_getA zd125_113 (own := 7) (ci := 3) (kf := 0) (w := 285) (by decide +kernel) (by decide +kernel) (zSt4_s hF hl5).1 (by decide +kernel) rfl (zSt4_f0 hF hl5) ?_
  refine e_iload zd125_116 rfl ?_
  refine e_iconst zd125_118 ?_
  refine e_iadd zd125_119 ?_
  refine e_iald zd125_120 (i := i2) (zSt4_a0 hF hl5) e2 h2 (by omega) ?_
  exact e_callV zd125_121 (own := 7) (nest := false) (w := 369) (by decide +kernel) (by decide +kernel) zs21 (as := [.int (V (l5 + 1) i1), .int (V (l5 + 1) i2)]) (rest := []) rfl rfl (zsh_at hF rfl).1 (by omega) (Nat.le_of_ble_eq_true rfl) rfl rfl rfl (by omega) k
theorem b125_124 {x : zXs} {F : zF} (hF : zSh F) {d : Nat} {V : Nat → Nat → Int32} {T : Nat → Nat → Int64} {Q : Option Value → zG → Prop} {o0 : Option Value} {o1 : Option Value} {o2 : Option Value} {o3 : Option Value} {o4 : Option Value} {o5 : Option Value} {o6 : Option Value} {o7 : Option Value} {o8 : Option Value} {s0 : Int32}   (kt : s0 < 0 → E x F d 125 130 [o0, o1, o2, o3, o4, o5, o6, o7, o8] [] (V, T) Q) (kf : ¬ (s0 < 0) → E x F d 125 127 [o0, o1, o2, o3, o4, o5, o6, o7, o8] [] (V, T) Q) : E x F d 125 124 [o0, o1, o2, o3, o4, o5, o6, o7, o8] [.int s0] (V, T) Q := by
  exact e_if_lt zd125_124 (tg := 130) rfl kt kf
theorem b125_127 {x : zXs} {F : zF} (hF : zSh F) {d : Nat} {V : Nat → Nat → Int32} {T : Nat → Nat → Int64} {Q : Option Value → zG → Prop} {o0 : Option Value} {o1 : Option Value} {o2 : Option Value} {o3 : Option Value} {o4 : Option Value} {o5 : Option Value} {l6 : Int32} {o7 : Option Value} {o8 : Option Value}   (k : E x F d 125 130 [o0, o1, o2, o3, o4, o5, some (.int (l6 + Int32.ofInt 1)), o7, o8] [] (V, T) Q) : E x F d 125 127 [o0, o1, o2, o3, o4, o5, some (.int l6), o7, o8] [] (V, T) Q := by
  refine e_iinc zd125_127 rfl (by decide +kernel) ?_
  exact k
theorem b125_130 {x : zXs} {F : zF} (hF : zSh F) {d : Nat} {V : Nat → Nat → Int32} {T : Nat → Nat → Int64} {Q : Option Value → zG → Prop} {o0 : Option Value} {o1 : Option Value} {o2 : Option Value} {o3 : Option Value} {o4 : Option Value} {o5 : Option Value} {o6 : Option Value} {l7 : Int32} {l8 : Int32}   (k : E x F d 125 78 [o0, o1, o2, o3, o4, o5, o6, some (.int (l7 + Int32.ofInt 2)), some (.int (l8 + Int32.ofInt 1))] [] (V, T) Q) : E x F d 125 130 [o0, o1, o2, o3, o4, o5, o6, some (.int l7), some (.int l8)] [] (V, T) Q := by
  refine e_iinc zd125_130 rfl (by decide +kernel) ?_
  refine e_iinc zd125_133 rfl (by decide +kernel) ?_
  exact e_goto zd125_136 (tg := 78) rfl k
theorem b125_139 {x : zXs} {F : zF} (hF : zSh F) {d : Nat} {V : Nat → Nat → Int32} {T : Nat → Nat → Int64} {Q : Option Value → zG → Prop} {o0 : Option Value} {o1 : Option Value} {o2 : Option Value} {o3 : Option Value} {o4 : Option Value} {o5 : Option Value} {l6 : Int32} {o7 : Option Value} {o8 : Option Value}   (k : Q (some (.int l6)) (V, T)) : E x F d 125 139 [o0, o1, o2, o3, o4, o5, some (.int l6), o7, o8] [] (V, T) Q := by
  refine e_iload zd125_139 rfl ?_
  exact e_ireti zd125_141 zs125 k
theorem zd126_0 : zop 126 0 = some (.iload_n 2, 1) := by decide +kernel
theorem zd126_1 : zop 126 1 = some (.iconst 0, 1) := by decide +kernel
theorem zd126_2 : zop 126 2 = some (.iconst 5, 1) := by decide +kernel
theorem zd126_3 : zop 126 3 = some (.invokestatic 59, 3) := by decide +kernel
theorem zd126_6 : zop 126 6 = some (.ifCond .ne 6, 3) := by decide +kernel
theorem zd126_9 : zop 126 9 = some (.bipush (-2), 2) := by decide +kernel
theorem zd126_11 : zop 126 11 = some (.ireturn, 1) := by decide +kernel
theorem zd126_12 : zop 126 12 = some (.aload_n 0, 1) := by decide +kernel
theorem zd126_13 : zop 126 13 = some (.getfield 10, 3) := by decide +kernel
theorem zd126_16 : zop 126 16 = some (.iload_n 1, 1) := by decide +kernel
theorem zd126_17 : zop 126 17 = some (.invokevirtual 91, 3) := by decide +kernel
theorem zd126_20 : zop 126 20 = some (.ifCond .ne 6, 3) := by decide +kernel
theorem zd126_23 : zop 126 23 = some (.bipush (-11), 2) := by decide +kernel
theorem zd126_25 : zop 126 25 = some (.ireturn, 1) := by decide +kernel
theorem zd126_26 : zop 126 26 = some (.aload_n 0, 1) := by decide +kernel
theorem zd126_27 : zop 126 27 = some (.getfield 10, 3) := by decide +kernel
theorem zd126_30 : zop 126 30 = some (.getfield 104, 3) := by decide +kernel
theorem zd126_33 : zop 126 33 = some (.iload_n 1, 1) := by decide +kernel
theorem zd126_34 : zop 126 34 = some (.iaload, 1) := by decide +kernel
theorem zd126_35 : zop 126 35 = some (.iload_n 2, 1) := by decide +kernel
theorem zd126_36 : zop 126 36 = some (.invokestatic 279, 3) := by decide +kernel
theorem zd126_39 : zop 126 39 = some (.ifCond .eq 15, 3) := by decide +kernel
theorem zd126_42 : zop 126 42 = some (.aload_n 0, 1) := by decide +kernel
theorem zd126_43 : zop 126 43 = some (.getfield 10, 3) := by decide +kernel
theorem zd126_46 : zop 126 46 = some (.getfield 77, 3) := by decide +kernel
theorem zd126_49 : zop 126 49 = some (.iload_n 1, 1) := by decide +kernel
theorem zd126_50 : zop 126 50 = some (.iaload, 1) := by decide +kernel
theorem zd126_51 : zop 126 51 = some (.goto 5, 3) := by decide +kernel
theorem zd126_54 : zop 126 54 = some (.bipush (-13), 2) := by decide +kernel
theorem zd126_56 : zop 126 56 = some (.ireturn, 1) := by decide +kernel
theorem b126_0 {x : zXs} {F : zF} (hF : zSh F) {d : Nat} {V : Nat → Nat → Int32} {T : Nat → Nat → Int64} {Q : Option Value → zG → Prop} {o0 : Option Value} {o1 : Option Value} {l2 : Int32}   (k : E x F d 7 0 [some (.int l2), some (.int (Int32.ofInt 0)), some (.int (Int32.ofInt 5))] [] (V, T) (fun r G' => E x F (d + 1) 126 6 [o0, o1, some (.int l2)] (r.toList ++ []) G' Q)) : E x F (d + 1) 126 0 [o0, o1, some (.int l2)] [] (V, T) Q := by
  refine e_iload_n zd126_0 rfl ?_
  refine e_iconst zd126_1 ?_
  refine e_iconst zd126_2 ?_
  exact e_callS zd126_3 (own := 7) (nest := false) (w := 334) (by decide +kernel) (by decide +kernel) zs7 (as := [.int l2, .int (Int32.ofInt 0), .int (Int32.ofInt 5)]) (rest := []) rfl rfl (Nat.le_of_ble_eq_true rfl) rfl rfl rfl (by omega) k
theorem b126_6 {x : zXs} {F : zF} (hF : zSh F) {d : Nat} {V : Nat → Nat → Int32} {T : Nat → Nat → Int64} {Q : Option Value → zG → Prop} {o0 : Option Value} {o1 : Option Value} {o2 : Option Value} {s0 : Int32}   (kt : ¬ s0 = 0 → E x F d 126 12 [o0, o1, o2] [] (V, T) Q) (kf : ¬ (¬ s0 = 0) → E x F d 126 9 [o0, o1, o2] [] (V, T) Q) : E x F d 126 6 [o0, o1, o2] [.int s0] (V, T) Q := by
  exact e_if_ne zd126_6 (tg := 12) rfl kt kf
theorem b126_9 {x : zXs} {F : zF} (hF : zSh F) {d : Nat} {V : Nat → Nat → Int32} {T : Nat → Nat → Int64} {Q : Option Value → zG → Prop} {o0 : Option Value} {o1 : Option Value} {o2 : Option Value}   (k : Q (some (.int (Int32.ofInt (-2)))) (V, T)) : E x F d 126 9 [o0, o1, o2] [] (V, T) Q := by
  refine e_bipush zd126_9 (v := Int32.ofInt (-2)) (by decide +kernel) ?_
  exact e_ireti zd126_11 zs126 k
theorem b126_12 {x : zXs} {F : zF} (hF : zSh F) {d : Nat} {V : Nat → Nat → Int32} {T : Nat → Nat → Int64} {Q : Option Value → zG → Prop} {l1 : Int32} {o2 : Option Value}   (k : E x F d 19 0 [some (.ref 1), some (.int l1)] [] (V, T) (fun r G' => E x F (d + 1) 126 20 [some (.ref 0), some (.int l1), o2] (r.toList ++ []) G' Q)) : E x F (d + 1) 126 12 [some (.ref 0), some (.int l1), o2] [] (V, T) Q := by
  refine e_aload_n zd126_12 rfl rfl ?_
  refine e_getO zd126_13 (own := 7) (ci := 7) (kf := 0) (w := 297) (by decide +kernel) (by decide +kernel) (zsh_at hF rfl).1 (by decide +kernel) rfl (zrf_at hF (i := 0) rfl) ?_
  refine e_iload_n zd126_16 rfl ?_
  exact e_callV zd126_17 (own := 7) (nest := false) (w := 361) (by decide +kernel) (by decide +kernel) zs19 (as := [.int l1]) (rest := []) rfl rfl (zsh_at hF rfl).1 (by omega) (Nat.le_of_ble_eq_true rfl) rfl rfl rfl (by omega) k
theorem b126_20 {x : zXs} {F : zF} (hF : zSh F) {d : Nat} {V : Nat → Nat → Int32} {T : Nat → Nat → Int64} {Q : Option Value → zG → Prop} {o0 : Option Value} {o1 : Option Value} {o2 : Option Value} {s0 : Int32}   (kt : ¬ s0 = 0 → E x F d 126 26 [o0, o1, o2] [] (V, T) Q) (kf : ¬ (¬ s0 = 0) → E x F d 126 23 [o0, o1, o2] [] (V, T) Q) : E x F d 126 20 [o0, o1, o2] [.int s0] (V, T) Q := by
  exact e_if_ne zd126_20 (tg := 26) rfl kt kf
theorem b126_23 {x : zXs} {F : zF} (hF : zSh F) {d : Nat} {V : Nat → Nat → Int32} {T : Nat → Nat → Int64} {Q : Option Value → zG → Prop} {o0 : Option Value} {o1 : Option Value} {o2 : Option Value}   (k : Q (some (.int (Int32.ofInt (-11)))) (V, T)) : E x F d 126 23 [o0, o1, o2] [] (V, T) Q := by
  refine e_bipush zd126_23 (v := Int32.ofInt (-11)) (by decide +kernel) ?_
  exact e_ireti zd126_25 zs126 k
theorem b126_26 {x : zXs} {F : zF} (hF : zSh F) {d : Nat} {V : Nat → Nat → Int32} {T : Nat → Nat → Int64} {Q : Option Value → zG → Prop} {l1 : Int32} {l2 : Int32}  {i1 : Nat} (e1 : l1 = nI i1) (h1 : i1 < 5) (k : E x F d 127 0 [some (.int (V 4 i1)), some (.int l2), none, none] [] (V, T) (fun r G' => E x F (d + 1) 126 39 [some (.ref 0), some (.int l1), some (.int l2)] (r.toList ++ []) G' Q)) : E x F (d + 1) 126 26 [some (.ref 0), some (.int l1), some (.int l2)] [] (V, T) Q := by
  refine e_aload_n zd126_26 rfl rfl ?_
  refine e_getO zd126_27 (own := 7) (ci := 7) (kf := 0) (w := 297) (by decide +kernel) (by decide +kernel) (zsh_at hF rfl).1 (by decide +kernel) rfl (zrf_at hF (i := 0) rfl) ?_
  refine e_getA zd126_30 (own := 7) (ci := 4) (kf := 2) (w := 118) (by decide +kernel) (by decide +kernel) (zsh_at hF rfl).1 (by decide +kernel) rfl (zrf_at hF (i := 10) rfl) ?_
  refine e_iload_n zd126_33 rfl ?_
  refine e_iald zd126_34 (i := i1) (zsh_at hF rfl) e1 h1 (by omega) ?_
  refine e_iload_n zd126_35 rfl ?_
  exact e_callS zd126_36 (own := 7) (nest := false) (w := 844) (by decide +kernel) (by decide +kernel) zs127 (as := [.int (V 4 i1), .int l2]) (rest := []) rfl rfl (Nat.le_of_ble_eq_true rfl) rfl rfl rfl (by omega) k
theorem b126_39 {x : zXs} {F : zF} (hF : zSh F) {d : Nat} {V : Nat → Nat → Int32} {T : Nat → Nat → Int64} {Q : Option Value → zG → Prop} {o0 : Option Value} {o1 : Option Value} {o2 : Option Value} {s0 : Int32}   (kt : s0 = 0 → E x F d 126 54 [o0, o1, o2] [] (V, T) Q) (kf : ¬ (s0 = 0) → E x F d 126 42 [o0, o1, o2] [] (V, T) Q) : E x F d 126 39 [o0, o1, o2] [.int s0] (V, T) Q := by
  exact e_if_eq zd126_39 (tg := 54) rfl kt kf
theorem b126_42 {x : zXs} {F : zF} (hF : zSh F) {d : Nat} {V : Nat → Nat → Int32} {T : Nat → Nat → Int64} {Q : Option Value → zG → Prop} {l1 : Int32} {o2 : Option Value}  {i1 : Nat} (e1 : l1 = nI i1) (h1 : i1 < 5) (k : E x F d 126 56 [some (.ref 0), some (.int l1), o2] [.int (V 5 i1)] (V, T) Q) : E x F d 126 42 [some (.ref 0), some (.int l1), o2] [] (V, T) Q := by
  refine e_aload_n zd126_42 rfl rfl ?_
  refine e_getO zd126_43 (own := 7) (ci := 7) (kf := 0) (w := 297) (by decide +kernel) (by decide +kernel) (zsh_at hF rfl).1 (by decide +kernel) rfl (zrf_at hF (i := 0) rfl) ?_
  refine e_getA zd126_46 (own := 7) (ci := 4) (kf := 3) (w := 121) (by decide +kernel) (by decide +kernel) (zsh_at hF rfl).1 (by decide +kernel) rfl (zrf_at hF (i := 11) rfl) ?_
  refine e_iload_n zd126_49 rfl ?_
  refine e_iald zd126_50 (i := i1) (zsh_at hF rfl) e1 h1 (by omega) ?_
  exact e_goto zd126_51 (tg := 56) rfl k
theorem b126_54 {x : zXs} {F : zF} (hF : zSh F) {d : Nat} {V : Nat → Nat → Int32} {T : Nat → Nat → Int64} {Q : Option Value → zG → Prop} {o0 : Option Value} {o1 : Option Value} {o2 : Option Value}   (k : E x F d 126 56 [o0, o1, o2] [.int (Int32.ofInt (-13))] (V, T) Q) : E x F d 126 54 [o0, o1, o2] [] (V, T) Q := by
  refine e_bipush zd126_54 (v := Int32.ofInt (-13)) (by decide +kernel) ?_
  exact k
theorem b126_56 {x : zXs} {F : zF} (hF : zSh F) {d : Nat} {V : Nat → Nat → Int32} {T : Nat → Nat → Int64} {Q : Option Value → zG → Prop} {o0 : Option Value} {o1 : Option Value} {o2 : Option Value} {s0 : Int32}   (k : Q (some (.int s0)) (V, T)) : E x F d 126 56 [o0, o1, o2] [.int s0] (V, T) Q := by
  exact e_ireti zd126_56 zs126 k
theorem zd127_0 : zop 127 0 = some (.iload_n 0, 1) := by decide +kernel
theorem zd127_1 : zop 127 1 = some (.istore_n 2, 1) := by decide +kernel
theorem zd127_2 : zop 127 2 = some (.iconst 0, 1) := by decide +kernel
theorem zd127_3 : zop 127 3 = some (.istore_n 3, 1) := by decide +kernel
theorem zd127_4 : zop 127 4 = some (.iload_n 3, 1) := by decide +kernel
theorem zd127_5 : zop 127 5 = some (.bipush 6, 2) := by decide +kernel
theorem zd127_7 : zop 127 7 = some (.if_icmp .ge 31, 3) := by decide +kernel
theorem zd127_10 : zop 127 10 = some (.iload_n 2, 1) := by decide +kernel
theorem zd127_11 : zop 127 11 = some (.iconst 0, 1) := by decide +kernel
theorem zd127_12 : zop 127 12 = some (.iconst 5, 1) := by decide +kernel
theorem zd127_13 : zop 127 13 = some (.invokestatic 59, 3) := by decide +kernel
theorem zd127_16 : zop 127 16 = some (.ifCond .eq 22, 3) := by decide +kernel
theorem zd127_19 : zop 127 19 = some (.iload_n 2, 1) := by decide +kernel
theorem zd127_20 : zop 127 20 = some (.iload_n 1, 1) := by decide +kernel
theorem zd127_21 : zop 127 21 = some (.if_icmp .ne 5, 3) := by decide +kernel
theorem zd127_24 : zop 127 24 = some (.iconst 1, 1) := by decide +kernel
theorem zd127_25 : zop 127 25 = some (.ireturn, 1) := by decide +kernel
theorem zd127_26 : zop 127 26 = some (.getstatic 282, 3) := by decide +kernel
theorem zd127_29 : zop 127 29 = some (.iload_n 2, 1) := by decide +kernel
theorem zd127_30 : zop 127 30 = some (.iaload, 1) := by decide +kernel
theorem zd127_31 : zop 127 31 = some (.istore_n 2, 1) := by decide +kernel
theorem zd127_32 : zop 127 32 = some (.iinc 3 1, 3) := by decide +kernel
theorem zd127_35 : zop 127 35 = some (.goto (-31), 3) := by decide +kernel
theorem zd127_38 : zop 127 38 = some (.iconst 0, 1) := by decide +kernel
theorem zd127_39 : zop 127 39 = some (.ireturn, 1) := by decide +kernel
theorem b127_0 {x : zXs} {F : zF} (hF : zSh F) {d : Nat} {V : Nat → Nat → Int32} {T : Nat → Nat → Int64} {Q : Option Value → zG → Prop} {l0 : Int32} {o1 : Option Value} {o2 : Option Value} {o3 : Option Value}   (k : E x F d 127 4 [some (.int l0), o1, some (.int l0), some (.int (Int32.ofInt 0))] [] (V, T) Q) : E x F d 127 0 [some (.int l0), o1, o2, o3] [] (V, T) Q := by
  refine e_iload_n zd127_0 rfl ?_
  refine e_istore_n zd127_1 (by decide +kernel) (Nat.le_of_ble_eq_true rfl) ?_
  refine e_iconst zd127_2 ?_
  refine e_istore_n zd127_3 (by decide +kernel) (Nat.le_of_ble_eq_true rfl) ?_
  exact k
theorem b127_4 {x : zXs} {F : zF} (hF : zSh F) {d : Nat} {V : Nat → Nat → Int32} {T : Nat → Nat → Int64} {Q : Option Value → zG → Prop} {o0 : Option Value} {o1 : Option Value} {o2 : Option Value} {l3 : Int32}   (kt : (Int32.ofInt 6) ≤ l3 → E x F d 127 38 [o0, o1, o2, some (.int l3)] [] (V, T) Q) (kf : ¬ ((Int32.ofInt 6) ≤ l3) → E x F d 127 10 [o0, o1, o2, some (.int l3)] [] (V, T) Q) : E x F d 127 4 [o0, o1, o2, some (.int l3)] [] (V, T) Q := by
  refine e_iload_n zd127_4 rfl ?_
  refine e_bipush zd127_5 (v := Int32.ofInt 6) (by decide +kernel) ?_
  exact e_icmp_ge zd127_7 (tg := 38) rfl kt kf
theorem b127_10 {x : zXs} {F : zF} (hF : zSh F) {d : Nat} {V : Nat → Nat → Int32} {T : Nat → Nat → Int64} {Q : Option Value → zG → Prop} {o0 : Option Value} {o1 : Option Value} {l2 : Int32} {o3 : Option Value}   (k : E x F d 7 0 [some (.int l2), some (.int (Int32.ofInt 0)), some (.int (Int32.ofInt 5))] [] (V, T) (fun r G' => E x F (d + 1) 127 16 [o0, o1, some (.int l2), o3] (r.toList ++ []) G' Q)) : E x F (d + 1) 127 10 [o0, o1, some (.int l2), o3] [] (V, T) Q := by
  refine e_iload_n zd127_10 rfl ?_
  refine e_iconst zd127_11 ?_
  refine e_iconst zd127_12 ?_
  exact e_callS zd127_13 (own := 7) (nest := false) (w := 334) (by decide +kernel) (by decide +kernel) zs7 (as := [.int l2, .int (Int32.ofInt 0), .int (Int32.ofInt 5)]) (rest := []) rfl rfl (Nat.le_of_ble_eq_true rfl) rfl rfl rfl (by omega) k
theorem b127_16 {x : zXs} {F : zF} (hF : zSh F) {d : Nat} {V : Nat → Nat → Int32} {T : Nat → Nat → Int64} {Q : Option Value → zG → Prop} {o0 : Option Value} {o1 : Option Value} {o2 : Option Value} {o3 : Option Value} {s0 : Int32}   (kt : s0 = 0 → E x F d 127 38 [o0, o1, o2, o3] [] (V, T) Q) (kf : ¬ (s0 = 0) → E x F d 127 19 [o0, o1, o2, o3] [] (V, T) Q) : E x F d 127 16 [o0, o1, o2, o3] [.int s0] (V, T) Q := by
  exact e_if_eq zd127_16 (tg := 38) rfl kt kf
theorem b127_19 {x : zXs} {F : zF} (hF : zSh F) {d : Nat} {V : Nat → Nat → Int32} {T : Nat → Nat → Int64} {Q : Option Value → zG → Prop} {o0 : Option Value} {l1 : Int32} {l2 : Int32} {o3 : Option Value}   (kt : ¬ l2 = l1 → E x F d 127 26 [o0, some (.int l1), some (.int l2), o3] [] (V, T) Q) (kf : ¬ (¬ l2 = l1) → E x F d 127 24 [o0, some (.int l1), some (.int l2), o3] [] (V, T) Q) : E x F d 127 19 [o0, some (.int l1), some (.int l2), o3] [] (V, T) Q := by
  refine e_iload_n zd127_19 rfl ?_
  refine e_iload_n zd127_20 rfl ?_
  exact e_icmp_ne zd127_21 (tg := 26) rfl kt kf
theorem b127_24 {x : zXs} {F : zF} (hF : zSh F) {d : Nat} {V : Nat → Nat → Int32} {T : Nat → Nat → Int64} {Q : Option Value → zG → Prop} {o0 : Option Value} {o1 : Option Value} {o2 : Option Value} {o3 : Option Value}   (k : Q (some (.int (Int32.ofInt 1))) (V, T)) : E x F d 127 24 [o0, o1, o2, o3] [] (V, T) Q := by
  refine e_iconst zd127_24 ?_
  exact e_iretz zd127_25 zs127 (by decide +kernel) k
theorem b127_26 {x : zXs} {F : zF} (hF : zSh F) {d : Nat} {V : Nat → Nat → Int32} {T : Nat → Nat → Int64} {Q : Option Value → zG → Prop} {o0 : Option Value} {o1 : Option Value} {l2 : Int32} {l3 : Int32}  {i1 : Nat} (e1 : l2 = nI i1) (h1 : i1 < 6) (k : E x F d 127 4 [o0, o1, some (.int (([-1, 0, 0, 1, 2, 0] : List Int32).getD i1 0)), some (.int (l3 + Int32.ofInt 1))] [] (V, T) Q) : E x F d 127 26 [o0, o1, some (.int l2), some (.int l3)] [] (V, T) Q := by
  refine e_gets zd127_26 (own := 7) (y := 1) (w := 847) (v := .double 0) (by decide +kernel) (by decide +kernel) rfl ?_
  refine e_iload_n zd127_29 rfl ?_
  refine e_ialdX zd127_30 (i := i1) (n := 6) (f := fun j => ([-1, 0, 0, 1, 2, 0] : List Int32).getD j 0) rfl e1 h1 (by omega) ?_
  refine e_istore_n zd127_31 (by decide +kernel) (Nat.le_of_ble_eq_true rfl) ?_
  refine e_iinc zd127_32 rfl (by decide +kernel) ?_
  exact e_goto zd127_35 (tg := 4) rfl k
theorem b127_38 {x : zXs} {F : zF} (hF : zSh F) {d : Nat} {V : Nat → Nat → Int32} {T : Nat → Nat → Int64} {Q : Option Value → zG → Prop} {o0 : Option Value} {o1 : Option Value} {o2 : Option Value} {o3 : Option Value}   (k : Q (some (.int (Int32.ofInt 0))) (V, T)) : E x F d 127 38 [o0, o1, o2, o3] [] (V, T) Q := by
  refine e_iconst zd127_38 ?_
  exact e_iretz zd127_39 zs127 (by decide +kernel) k
