/-! Blocks: 169-210 -/
theorem zd169_0 : zop 169 0 = some (.aload_n 0, 1) := by decide +kernel
theorem zd169_1 : zop 169 1 = some (.getfield 29, 3) := by decide +kernel
theorem zd169_4 : zop 169 4 = some (.iload_n 1, 1) := by decide +kernel
theorem zd169_5 : zop 169 5 = some (.iaload, 1) := by decide +kernel
theorem zd169_6 : zop 169 6 = some (.istore 5, 2) := by decide +kernel
theorem zd169_8 : zop 169 8 = some (.aload_n 0, 1) := by decide +kernel
theorem zd169_9 : zop 169 9 = some (.getfield 32, 3) := by decide +kernel
theorem zd169_12 : zop 169 12 = some (.iconst 2, 1) := by decide +kernel
theorem zd169_13 : zop 169 13 = some (.iload_n 1, 1) := by decide +kernel
theorem zd169_14 : zop 169 14 = some (.imul, 1) := by decide +kernel
theorem zd169_15 : zop 169 15 = some (.iaload, 1) := by decide +kernel
theorem zd169_16 : zop 169 16 = some (.istore 6, 2) := by decide +kernel
theorem zd169_18 : zop 169 18 = some (.aload_n 0, 1) := by decide +kernel
theorem zd169_19 : zop 169 19 = some (.getfield 32, 3) := by decide +kernel
theorem zd169_22 : zop 169 22 = some (.iconst 2, 1) := by decide +kernel
theorem zd169_23 : zop 169 23 = some (.iload_n 1, 1) := by decide +kernel
theorem zd169_24 : zop 169 24 = some (.imul, 1) := by decide +kernel
theorem zd169_25 : zop 169 25 = some (.iconst 1, 1) := by decide +kernel
theorem zd169_26 : zop 169 26 = some (.iadd, 1) := by decide +kernel
theorem zd169_27 : zop 169 27 = some (.iaload, 1) := by decide +kernel
theorem zd169_28 : zop 169 28 = some (.istore 7, 2) := by decide +kernel
theorem zd169_30 : zop 169 30 = some (.iload 5, 2) := by decide +kernel
theorem zd169_32 : zop 169 32 = some (.iconst 2, 1) := by decide +kernel
theorem zd169_33 : zop 169 33 = some (.if_icmp .eq 9, 3) := by decide +kernel
theorem zd169_36 : zop 169 36 = some (.iload 5, 2) := by decide +kernel
theorem zd169_38 : zop 169 38 = some (.iconst 4, 1) := by decide +kernel
theorem zd169_39 : zop 169 39 = some (.if_icmp .ne 24, 3) := by decide +kernel
theorem zd169_42 : zop 169 42 = some (.iload 5, 2) := by decide +kernel
theorem zd169_44 : zop 169 44 = some (.iconst 4, 1) := by decide +kernel
theorem zd169_45 : zop 169 45 = some (.if_icmp .ne 16, 3) := by decide +kernel
theorem zd169_48 : zop 169 48 = some (.iload 7, 2) := by decide +kernel
theorem zd169_50 : zop 169 50 = some (.iload 6, 2) := by decide +kernel
theorem zd169_52 : zop 169 52 = some (.if_icmp .lt 9, 3) := by decide +kernel
theorem zd169_55 : zop 169 55 = some (.iload 6, 2) := by decide +kernel
theorem zd169_57 : zop 169 57 = some (.ineg, 1) := by decide +kernel
theorem zd169_58 : zop 169 58 = some (.goto 4, 3) := by decide +kernel
theorem zd169_61 : zop 169 61 = some (.iload_n 2, 1) := by decide +kernel
theorem zd169_62 : zop 169 62 = some (.ireturn, 1) := by decide +kernel
theorem zd169_63 : zop 169 63 = some (.iload 5, 2) := by decide +kernel
theorem zd169_65 : zop 169 65 = some (.iconst 3, 1) := by decide +kernel
theorem zd169_66 : zop 169 66 = some (.if_icmp .ne 10, 3) := by decide +kernel
theorem zd169_69 : zop 169 69 = some (.iload_n 2, 1) := by decide +kernel
theorem zd169_70 : zop 169 70 = some (.iconst 1, 1) := by decide +kernel
theorem zd169_71 : zop 169 71 = some (.if_icmp .ne 5, 3) := by decide +kernel
theorem zd169_74 : zop 169 74 = some (.iconst 0, 1) := by decide +kernel
theorem zd169_75 : zop 169 75 = some (.ireturn, 1) := by decide +kernel
theorem zd169_76 : zop 169 76 = some (.aload_n 0, 1) := by decide +kernel
theorem zd169_77 : zop 169 77 = some (.iconst 0, 1) := by decide +kernel
theorem zd169_78 : zop 169 78 = some (.iload_n 2, 1) := by decide +kernel
theorem zd169_79 : zop 169 79 = some (.iload_n 3, 1) := by decide +kernel
theorem zd169_80 : zop 169 80 = some (.iload 6, 2) := by decide +kernel
theorem zd169_82 : zop 169 82 = some (.iload 7, 2) := by decide +kernel
theorem zd169_84 : zop 169 84 = some (.iload 4, 2) := by decide +kernel
theorem zd169_86 : zop 169 86 = some (.invokevirtual 271, 3) := by decide +kernel
theorem zd169_89 : zop 169 89 = some (.istore 8, 2) := by decide +kernel
theorem zd169_91 : zop 169 91 = some (.iload 5, 2) := by decide +kernel
theorem zd169_93 : zop 169 93 = some (.iconst 1, 1) := by decide +kernel
theorem zd169_94 : zop 169 94 = some (.if_icmp .eq 9, 3) := by decide +kernel
theorem zd169_97 : zop 169 97 = some (.iload 5, 2) := by decide +kernel
theorem zd169_99 : zop 169 99 = some (.iconst 3, 1) := by decide +kernel
theorem zd169_100 : zop 169 100 = some (.if_icmp .ne 12, 3) := by decide +kernel
theorem zd169_103 : zop 169 103 = some (.iload 8, 2) := by decide +kernel
theorem zd169_105 : zop 169 105 = some (.iload_n 2, 1) := by decide +kernel
theorem zd169_106 : zop 169 106 = some (.iconst 2, 1) := by decide +kernel
theorem zd169_107 : zop 169 107 = some (.irem, 1) := by decide +kernel
theorem zd169_108 : zop 169 108 = some (.iadd, 1) := by decide +kernel
theorem zd169_109 : zop 169 109 = some (.goto 18, 3) := by decide +kernel
theorem zd169_112 : zop 169 112 = some (.iload 5, 2) := by decide +kernel
theorem zd169_114 : zop 169 114 = some (.iconst 5, 1) := by decide +kernel
theorem zd169_115 : zop 169 115 = some (.if_icmp .ne 10, 3) := by decide +kernel
theorem zd169_118 : zop 169 118 = some (.iload 8, 2) := by decide +kernel
theorem zd169_120 : zop 169 120 = some (.iconst 2, 1) := by decide +kernel
theorem zd169_121 : zop 169 121 = some (.idiv, 1) := by decide +kernel
theorem zd169_122 : zop 169 122 = some (.goto 5, 3) := by decide +kernel
theorem zd169_125 : zop 169 125 = some (.iload 8, 2) := by decide +kernel
theorem zd169_127 : zop 169 127 = some (.iconst 0, 1) := by decide +kernel
theorem zd169_128 : zop 169 128 = some (.iload_n 2, 1) := by decide +kernel
theorem zd169_129 : zop 169 129 = some (.invokestatic 267, 3) := by decide +kernel
theorem zd169_132 : zop 169 132 = some (.ireturn, 1) := by decide +kernel
theorem b169_0 {x : zXs} {F : zF} (hF : zSh F) {d : Nat} {V : Nat → Nat → Int32} {T : Nat → Nat → Int64} {Q : Option Value → zG → Prop} {l1 : Int32} {o2 : Option Value} {o3 : Option Value} {o4 : Option Value} {o5 : Option Value} {o6 : Option Value} {o7 : Option Value} {o8 : Option Value}  {i1 : Nat} (e1 : l1 = nI i1) (h1 : i1 < 5) {i2 : Nat} (e2 : (Int32.ofInt 2) * l1 = nI i2) (h2 : i2 < 10) {i3 : Nat} (e3 : ((Int32.ofInt 2) * l1) + (Int32.ofInt 1) = nI i3) (h3 : i3 < 10) (kt : (V 65 i1) = (Int32.ofInt 2) → E x F d 169 42 [some (.ref 59), some (.int l1), o2, o3, o4, some (.int (V 65 i1)), some (.int (V 66 i2)), some (.int (V 66 i3)), o8] [] (V, T) Q) (kf : ¬ ((V 65 i1) = (Int32.ofInt 2)) → E x F d 169 36 [some (.ref 59), some (.int l1), o2, o3, o4, some (.int (V 65 i1)), some (.int (V 66 i2)), some (.int (V 66 i3)), o8] [] (V, T) Q) : E x F d 169 0 [some (.ref 59), some (.int l1), o2, o3, o4, o5, o6, o7, o8] [] (V, T) Q := by
  refine e_aload_n zd169_0 rfl rfl ?_
  refine e_getA zd169_1 (own := 8) (ci := 8) (kf := 10) (w := 868) (by decide +kernel) (by decide +kernel) (zsh_at hF rfl).1 (by decide +kernel) rfl (zrf_at hF (i := 64) rfl) ?_
  refine e_iload_n zd169_4 rfl ?_
  refine e_iald zd169_5 (i := i1) (zsh_at hF rfl) e1 h1 (by omega) ?_
  refine e_istore zd169_6 (by decide +kernel) (Nat.le_of_ble_eq_true rfl) ?_
  refine e_aload_n zd169_8 rfl rfl ?_
  refine e_getA zd169_9 (own := 8) (ci := 8) (kf := 11) (w := 869) (by decide +kernel) (by decide +kernel) (zsh_at hF rfl).1 (by decide +kernel) rfl (zrf_at hF (i := 65) rfl) ?_
  refine e_iconst zd169_12 ?_
  refine e_iload_n zd169_13 rfl ?_
  refine e_imul zd169_14 ?_
  refine e_iald zd169_15 (i := i2) (zsh_at hF rfl) e2 h2 (by omega) ?_
  refine e_istore zd169_16 (by decide +kernel) (Nat.le_of_ble_eq_true rfl) ?_
  refine e_aload_n zd169_18 rfl rfl ?_
  refine e_getA zd169_19 (own := 8) (ci := 8) (kf := 11) (w := 869) (by decide +kernel) (by decide +kernel) (zsh_at hF rfl).1 (by decide +kernel) rfl (zrf_at hF (i := 65) rfl) ?_
  refine e_iconst zd169_22 ?_
  refine e_iload_n zd169_23 rfl ?_
  refine e_imul zd169_24 ?_
  refine e_iconst zd169_25 ?_
  refine e_iadd zd169_26 ?_
  refine e_iald zd169_27 (i := i3) (zsh_at hF rfl) e3 h3 (by omega) ?_
  refine e_istore zd169_28 (by decide +kernel) (Nat.le_of_ble_eq_true rfl) ?_
  refine e_iload zd169_30 rfl ?_
  refine e_iconst zd169_32 ?_
  exact e_icmp_eq zd169_33 (tg := 42) rfl kt kf
theorem b169_36 {x : zXs} {F : zF} (hF : zSh F) {d : Nat} {V : Nat → Nat → Int32} {T : Nat → Nat → Int64} {Q : Option Value → zG → Prop} {o0 : Option Value} {o1 : Option Value} {o2 : Option Value} {o3 : Option Value} {o4 : Option Value} {l5 : Int32} {o6 : Option Value} {o7 : Option Value} {o8 : Option Value}   (kt : ¬ l5 = (Int32.ofInt 4) → E x F d 169 63 [o0, o1, o2, o3, o4, some (.int l5), o6, o7, o8] [] (V, T) Q) (kf : ¬ (¬ l5 = (Int32.ofInt 4)) → E x F d 169 42 [o0, o1, o2, o3, o4, some (.int l5), o6, o7, o8] [] (V, T) Q) : E x F d 169 36 [o0, o1, o2, o3, o4, some (.int l5), o6, o7, o8] [] (V, T) Q := by
  refine e_iload zd169_36 rfl ?_
  refine e_iconst zd169_38 ?_
  exact e_icmp_ne zd169_39 (tg := 63) rfl kt kf
theorem b169_42 {x : zXs} {F : zF} (hF : zSh F) {d : Nat} {V : Nat → Nat → Int32} {T : Nat → Nat → Int64} {Q : Option Value → zG → Prop} {o0 : Option Value} {o1 : Option Value} {o2 : Option Value} {o3 : Option Value} {o4 : Option Value} {l5 : Int32} {o6 : Option Value} {o7 : Option Value} {o8 : Option Value}   (kt : ¬ l5 = (Int32.ofInt 4) → E x F d 169 61 [o0, o1, o2, o3, o4, some (.int l5), o6, o7, o8] [] (V, T) Q) (kf : ¬ (¬ l5 = (Int32.ofInt 4)) → E x F d 169 48 [o0, o1, o2, o3, o4, some (.int l5), o6, o7, o8] [] (V, T) Q) : E x F d 169 42 [o0, o1, o2, o3, o4, some (.int l5), o6, o7, o8] [] (V, T) Q := by
  refine e_iload zd169_42 rfl ?_
  refine e_iconst zd169_44 ?_
  exact e_icmp_ne zd169_45 (tg := 61) rfl kt kf
theorem b169_48 {x : zXs} {F : zF} (hF : zSh F) {d : Nat} {V : Nat → Nat → Int32} {T : Nat → Nat → Int64} {Q : Option Value → zG → Prop} {o0 : Option Value} {o1 : Option Value} {o2 : Option Value} {o3 : Option Value} {o4 : Option Value} {o5 : Option Value} {l6 : Int32} {l7 : Int32} {o8 : Option Value}   (kt : l7 < l6 → E x F d 169 61 [o0, o1, o2, o3, o4, o5, some (.int l6), some (.int l7), o8] [] (V, T) Q) (kf : ¬ (l7 < l6) → E x F d 169 55 [o0, o1, o2, o3, o4, o5, some (.int l6), some (.int l7), o8] [] (V, T) Q) : E x F d 169 48 [o0, o1, o2, o3, o4, o5, some (.int l6), some (.int l7), o8] [] (V, T) Q := by
  refine e_iload zd169_48 rfl ?_
  refine e_iload zd169_50 rfl ?_
  exact e_icmp_lt zd169_52 (tg := 61) rfl kt kf
theorem b169_55 {x : zXs} {F : zF} (hF : zSh F) {d : Nat} {V : Nat → Nat → Int32} {T : Nat → Nat → Int64} {Q : Option Value → zG → Prop} {o0 : Option Value} {o1 : Option Value} {o2 : Option Value} {o3 : Option Value} {o4 : Option Value} {o5 : Option Value} {l6 : Int32} {o7 : Option Value} {o8 : Option Value}   (k : E x F d 169 62 [o0, o1, o2, o3, o4, o5, some (.int l6), o7, o8] [.int (-l6)] (V, T) Q) : E x F d 169 55 [o0, o1, o2, o3, o4, o5, some (.int l6), o7, o8] [] (V, T) Q := by
  refine e_iload zd169_55 rfl ?_
  refine e_ineg zd169_57 ?_
  exact e_goto zd169_58 (tg := 62) rfl k
theorem b169_61 {x : zXs} {F : zF} (hF : zSh F) {d : Nat} {V : Nat → Nat → Int32} {T : Nat → Nat → Int64} {Q : Option Value → zG → Prop} {o0 : Option Value} {o1 : Option Value} {l2 : Int32} {o3 : Option Value} {o4 : Option Value} {o5 : Option Value} {o6 : Option Value} {o7 : Option Value} {o8 : Option Value}   (k : E x F d 169 62 [o0, o1, some (.int l2), o3, o4, o5, o6, o7, o8] [.int l2] (V, T) Q) : E x F d 169 61 [o0, o1, some (.int l2), o3, o4, o5, o6, o7, o8] [] (V, T) Q := by
  refine e_iload_n zd169_61 rfl ?_
  exact k
theorem b169_62 {x : zXs} {F : zF} (hF : zSh F) {d : Nat} {V : Nat → Nat → Int32} {T : Nat → Nat → Int64} {Q : Option Value → zG → Prop} {o0 : Option Value} {o1 : Option Value} {o2 : Option Value} {o3 : Option Value} {o4 : Option Value} {o5 : Option Value} {o6 : Option Value} {o7 : Option Value} {o8 : Option Value} {s0 : Int32}   (k : Q (some (.int s0)) (V, T)) : E x F d 169 62 [o0, o1, o2, o3, o4, o5, o6, o7, o8] [.int s0] (V, T) Q := by
  exact e_ireti zd169_62 zs169 k
theorem b169_63 {x : zXs} {F : zF} (hF : zSh F) {d : Nat} {V : Nat → Nat → Int32} {T : Nat → Nat → Int64} {Q : Option Value → zG → Prop} {o0 : Option Value} {o1 : Option Value} {o2 : Option Value} {o3 : Option Value} {o4 : Option Value} {l5 : Int32} {o6 : Option Value} {o7 : Option Value} {o8 : Option Value}   (kt : ¬ l5 = (Int32.ofInt 3) → E x F d 169 76 [o0, o1, o2, o3, o4, some (.int l5), o6, o7, o8] [] (V, T) Q) (kf : ¬ (¬ l5 = (Int32.ofInt 3)) → E x F d 169 69 [o0, o1, o2, o3, o4, some (.int l5), o6, o7, o8] [] (V, T) Q) : E x F d 169 63 [o0, o1, o2, o3, o4, some (.int l5), o6, o7, o8] [] (V, T) Q := by
  refine e_iload zd169_63 rfl ?_
  refine e_iconst zd169_65 ?_
  exact e_icmp_ne zd169_66 (tg := 76) rfl kt kf
theorem b169_69 {x : zXs} {F : zF} (hF : zSh F) {d : Nat} {V : Nat → Nat → Int32} {T : Nat → Nat → Int64} {Q : Option Value → zG → Prop} {o0 : Option Value} {o1 : Option Value} {l2 : Int32} {o3 : Option Value} {o4 : Option Value} {o5 : Option Value} {o6 : Option Value} {o7 : Option Value} {o8 : Option Value}   (kt : ¬ l2 = (Int32.ofInt 1) → E x F d 169 76 [o0, o1, some (.int l2), o3, o4, o5, o6, o7, o8] [] (V, T) Q) (kf : ¬ (¬ l2 = (Int32.ofInt 1)) → E x F d 169 74 [o0, o1, some (.int l2), o3, o4, o5, o6, o7, o8] [] (V, T) Q) : E x F d 169 69 [o0, o1, some (.int l2), o3, o4, o5, o6, o7, o8] [] (V, T) Q := by
  refine e_iload_n zd169_69 rfl ?_
  refine e_iconst zd169_70 ?_
  exact e_icmp_ne zd169_71 (tg := 76) rfl kt kf
theorem b169_74 {x : zXs} {F : zF} (hF : zSh F) {d : Nat} {V : Nat → Nat → Int32} {T : Nat → Nat → Int64} {Q : Option Value → zG → Prop} {o0 : Option Value} {o1 : Option Value} {o2 : Option Value} {o3 : Option Value} {o4 : Option Value} {o5 : Option Value} {o6 : Option Value} {o7 : Option Value} {o8 : Option Value}   (k : Q (some (.int (Int32.ofInt 0))) (V, T)) : E x F d 169 74 [o0, o1, o2, o3, o4, o5, o6, o7, o8] [] (V, T) Q := by
  refine e_iconst zd169_74 ?_
  exact e_ireti zd169_75 zs169 k
theorem b169_76 {x : zXs} {F : zF} (hF : zSh F) {d : Nat} {V : Nat → Nat → Int32} {T : Nat → Nat → Int64} {Q : Option Value → zG → Prop} {o1 : Option Value} {l2 : Int32} {l3 : Int32} {l4 : Int32} {o5 : Option Value} {l6 : Int32} {l7 : Int32} {o8 : Option Value}   (k : E x F d 140 0 [some (.ref 59), some (.int (Int32.ofInt 0)), some (.int l2), some (.int l3), some (.int l6), some (.int l7), some (.int l4)] [] (V, T) (fun r G' => E x F (d + 1) 169 89 [some (.ref 59), o1, some (.int l2), some (.int l3), some (.int l4), o5, some (.int l6), some (.int l7), o8] (r.toList ++ []) G' Q)) : E x F (d + 1) 169 76 [some (.ref 59), o1, some (.int l2), some (.int l3), some (.int l4), o5, some (.int l6), some (.int l7), o8] [] (V, T) Q := by
  refine e_aload_n zd169_76 rfl rfl ?_
  refine e_iconst zd169_77 ?_
  refine e_iload_n zd169_78 rfl ?_
  refine e_iload_n zd169_79 rfl ?_
  refine e_iload zd169_80 rfl ?_
  refine e_iload zd169_82 rfl ?_
  refine e_iload zd169_84 rfl ?_
  exact e_callV zd169_86 (own := 8) (nest := false) (w := 1041) (by decide +kernel) (by decide +kernel) zs140 (as := [.int (Int32.ofInt 0), .int l2, .int l3, .int l6, .int l7, .int l4]) (rest := []) rfl rfl (zsh_at hF rfl).1 (by omega) (Nat.le_of_ble_eq_true rfl) rfl rfl rfl (by omega) k
theorem b169_89 {x : zXs} {F : zF} (hF : zSh F) {d : Nat} {V : Nat → Nat → Int32} {T : Nat → Nat → Int64} {Q : Option Value → zG → Prop} {o0 : Option Value} {o1 : Option Value} {o2 : Option Value} {o3 : Option Value} {o4 : Option Value} {l5 : Int32} {o6 : Option Value} {o7 : Option Value} {o8 : Option Value} {s0 : Int32}   (kt : l5 = (Int32.ofInt 1) → E x F d 169 103 [o0, o1, o2, o3, o4, some (.int l5), o6, o7, some (.int s0)] [] (V, T) Q) (kf : ¬ (l5 = (Int32.ofInt 1)) → E x F d 169 97 [o0, o1, o2, o3, o4, some (.int l5), o6, o7, some (.int s0)] [] (V, T) Q) : E x F d 169 89 [o0, o1, o2, o3, o4, some (.int l5), o6, o7, o8] [.int s0] (V, T) Q := by
  refine e_istore zd169_89 (by decide +kernel) (Nat.le_of_ble_eq_true rfl) ?_
  refine e_iload zd169_91 rfl ?_
  refine e_iconst zd169_93 ?_
  exact e_icmp_eq zd169_94 (tg := 103) rfl kt kf
theorem b169_97 {x : zXs} {F : zF} (hF : zSh F) {d : Nat} {V : Nat → Nat → Int32} {T : Nat → Nat → Int64} {Q : Option Value → zG → Prop} {o0 : Option Value} {o1 : Option Value} {o2 : Option Value} {o3 : Option Value} {o4 : Option Value} {l5 : Int32} {o6 : Option Value} {o7 : Option Value} {o8 : Option Value}   (kt : ¬ l5 = (Int32.ofInt 3) → E x F d 169 112 [o0, o1, o2, o3, o4, some (.int l5), o6, o7, o8] [] (V, T) Q) (kf : ¬ (¬ l5 = (Int32.ofInt 3)) → E x F d 169 103 [o0, o1, o2, o3, o4, some (.int l5), o6, o7, o8] [] (V, T) Q) : E x F d 169 97 [o0, o1, o2, o3, o4, some (.int l5), o6, o7, o8] [] (V, T) Q := by
  refine e_iload zd169_97 rfl ?_
  refine e_iconst zd169_99 ?_
  exact e_icmp_ne zd169_100 (tg := 112) rfl kt kf
theorem b169_103 {x : zXs} {F : zF} (hF : zSh F) {d : Nat} {V : Nat → Nat → Int32} {T : Nat → Nat → Int64} {Q : Option Value → zG → Prop} {o0 : Option Value} {o1 : Option Value} {l2 : Int32} {o3 : Option Value} {o4 : Option Value} {o5 : Option Value} {o6 : Option Value} {o7 : Option Value} {l8 : Int32}   (k : E x F d 169 127 [o0, o1, some (.int l2), o3, o4, o5, o6, o7, some (.int l8)] [.int (l8 + (l2 - l2 / (Int32.ofInt 2) * (Int32.ofInt 2)))] (V, T) Q) : E x F d 169 103 [o0, o1, some (.int l2), o3, o4, o5, o6, o7, some (.int l8)] [] (V, T) Q := by
  refine e_iload zd169_103 rfl ?_
  refine e_iload_n zd169_105 rfl ?_
  refine e_iconst zd169_106 ?_
  refine e_irem zd169_107 (by decide +kernel) ?_
  refine e_iadd zd169_108 ?_
  exact e_goto zd169_109 (tg := 127) rfl k
theorem b169_112 {x : zXs} {F : zF} (hF : zSh F) {d : Nat} {V : Nat → Nat → Int32} {T : Nat → Nat → Int64} {Q : Option Value → zG → Prop} {o0 : Option Value} {o1 : Option Value} {o2 : Option Value} {o3 : Option Value} {o4 : Option Value} {l5 : Int32} {o6 : Option Value} {o7 : Option Value} {o8 : Option Value}   (kt : ¬ l5 = (Int32.ofInt 5) → E x F d 169 125 [o0, o1, o2, o3, o4, some (.int l5), o6, o7, o8] [] (V, T) Q) (kf : ¬ (¬ l5 = (Int32.ofInt 5)) → E x F d 169 118 [o0, o1, o2, o3, o4, some (.int l5), o6, o7, o8] [] (V, T) Q) : E x F d 169 112 [o0, o1, o2, o3, o4, some (.int l5), o6, o7, o8] [] (V, T) Q := by
  refine e_iload zd169_112 rfl ?_
  refine e_iconst zd169_114 ?_
  exact e_icmp_ne zd169_115 (tg := 125) rfl kt kf
theorem b169_118 {x : zXs} {F : zF} (hF : zSh F) {d : Nat} {V : Nat → Nat → Int32} {T : Nat → Nat → Int64} {Q : Option Value → zG → Prop} {o0 : Option Value} {o1 : Option Value} {o2 : Option Value} {o3 : Option Value} {o4 : Option Value} {o5 : Option Value} {o6 : Option Value} {o7 : Option Value} {l8 : Int32}   (k : E x F d 169 127 [o0, o1, o2, o3, o4, o5, o6, o7, some (.int l8)] [.int (l8 / (Int32.ofInt 2))] (V, T) Q) : E x F d 169 118 [o0, o1, o2, o3, o4, o5, o6, o7, some (.int l8)] [] (V, T) Q := by
  refine e_iload zd169_118 rfl ?_
  refine e_iconst zd169_120 ?_
  refine e_idiv zd169_121 (by decide +kernel) ?_
  exact e_goto zd169_122 (tg := 127) rfl k
theorem b169_125 {x : zXs} {F : zF} (hF : zSh F) {d : Nat} {V : Nat → Nat → Int32} {T : Nat → Nat → Int64} {Q : Option Value → zG → Prop} {o0 : Option Value} {o1 : Option Value} {o2 : Option Value} {o3 : Option Value} {o4 : Option Value} {o5 : Option Value} {o6 : Option Value} {o7 : Option Value} {l8 : Int32}   (k : E x F d 169 127 [o0, o1, o2, o3, o4, o5, o6, o7, some (.int l8)] [.int l8] (V, T) Q) : E x F d 169 125 [o0, o1, o2, o3, o4, o5, o6, o7, some (.int l8)] [] (V, T) Q := by
  refine e_iload zd169_125 rfl ?_
  exact k
theorem b169_127 {x : zXs} {F : zF} (hF : zSh F) {d : Nat} {V : Nat → Nat → Int32} {T : Nat → Nat → Int64} {Q : Option Value → zG → Prop} {o0 : Option Value} {o1 : Option Value} {l2 : Int32} {o3 : Option Value} {o4 : Option Value} {o5 : Option Value} {o6 : Option Value} {o7 : Option Value} {o8 : Option Value} {s0 : Int32}   (k : E x F d 157 0 [some (.int s0), some (.int (Int32.ofInt 0)), some (.int l2)] [] (V, T) (fun r G' => E x F (d + 1) 169 132 [o0, o1, some (.int l2), o3, o4, o5, o6, o7, o8] (r.toList ++ []) G' Q)) : E x F (d + 1) 169 127 [o0, o1, some (.int l2), o3, o4, o5, o6, o7, o8] [.int s0] (V, T) Q := by
  refine e_iconst zd169_127 ?_
  refine e_iload_n zd169_128 rfl ?_
  exact e_callS zd169_129 (own := 8) (nest := false) (w := 1115) (by decide +kernel) (by decide +kernel) zs157 (as := [.int s0, .int (Int32.ofInt 0), .int l2]) (rest := []) rfl rfl (Nat.le_of_ble_eq_true rfl) rfl rfl rfl (by omega) k
theorem b169_132 {x : zXs} {F : zF} (hF : zSh F) {d : Nat} {V : Nat → Nat → Int32} {T : Nat → Nat → Int64} {Q : Option Value → zG → Prop} {o0 : Option Value} {o1 : Option Value} {o2 : Option Value} {o3 : Option Value} {o4 : Option Value} {o5 : Option Value} {o6 : Option Value} {o7 : Option Value} {o8 : Option Value} {s0 : Int32}   (k : Q (some (.int s0)) (V, T)) : E x F d 169 132 [o0, o1, o2, o3, o4, o5, o6, o7, o8] [.int s0] (V, T) Q := by
  exact e_ireti zd169_132 zs169 k
theorem zd170_0 : zop 170 0 = some (.aload_n 0, 1) := by decide +kernel
theorem zd170_1 : zop 170 1 = some (.iload_n 1, 1) := by decide +kernel
theorem zd170_2 : zop 170 2 = some (.invokevirtual 112, 3) := by decide +kernel
theorem zd170_5 : zop 170 5 = some (.ifCond .eq 19, 3) := by decide +kernel
theorem zd170_8 : zop 170 8 = some (.iload_n 2, 1) := by decide +kernel
theorem zd170_9 : zop 170 9 = some (.invokestatic 97, 3) := by decide +kernel
theorem zd170_12 : zop 170 12 = some (.ifCond .eq 12, 3) := by decide +kernel
theorem zd170_15 : zop 170 15 = some (.aload_n 0, 1) := by decide +kernel
theorem zd170_16 : zop 170 16 = some (.iload_n 1, 1) := by decide +kernel
theorem zd170_17 : zop 170 17 = some (.iload_n 2, 1) := by decide +kernel
theorem zd170_18 : zop 170 18 = some (.invokevirtual 285, 3) := by decide +kernel
theorem zd170_21 : zop 170 21 = some (.goto 5, 3) := by decide +kernel
theorem zd170_24 : zop 170 24 = some (.bipush (-100), 2) := by decide +kernel
theorem zd170_26 : zop 170 26 = some (.ireturn, 1) := by decide +kernel
theorem b170_0 {x : zXs} {F : zF} (hF : zSh F) {d : Nat} {V : Nat → Nat → Int32} {T : Nat → Nat → Int64} {Q : Option Value → zG → Prop} {l1 : Int32} {o2 : Option Value}   (k : E x F d 136 0 [some (.ref 59), some (.int l1)] [] (V, T) (fun r G' => E x F (d + 1) 170 5 [some (.ref 59), some (.int l1), o2] (r.toList ++ []) G' Q)) : E x F (d + 1) 170 0 [some (.ref 59), some (.int l1), o2] [] (V, T) Q := by
  refine e_aload_n zd170_0 rfl rfl ?_
  refine e_iload_n zd170_1 rfl ?_
  exact e_callV zd170_2 (own := 8) (nest := false) (w := 1025) (by decide +kernel) (by decide +kernel) zs136 (as := [.int l1]) (rest := []) rfl rfl (zsh_at hF rfl).1 (by omega) (Nat.le_of_ble_eq_true rfl) rfl rfl rfl (by omega) k
theorem b170_5 {x : zXs} {F : zF} (hF : zSh F) {d : Nat} {V : Nat → Nat → Int32} {T : Nat → Nat → Int64} {Q : Option Value → zG → Prop} {o0 : Option Value} {o1 : Option Value} {o2 : Option Value} {s0 : Int32}   (kt : s0 = 0 → E x F d 170 24 [o0, o1, o2] [] (V, T) Q) (kf : ¬ (s0 = 0) → E x F d 170 8 [o0, o1, o2] [] (V, T) Q) : E x F d 170 5 [o0, o1, o2] [.int s0] (V, T) Q := by
  exact e_if_eq zd170_5 (tg := 24) rfl kt kf
theorem b170_8 {x : zXs} {F : zF} (hF : zSh F) {d : Nat} {V : Nat → Nat → Int32} {T : Nat → Nat → Int64} {Q : Option Value → zG → Prop} {o0 : Option Value} {o1 : Option Value} {l2 : Int32}   (k : E x F d 131 0 [some (.int l2)] [] (V, T) (fun r G' => E x F (d + 1) 170 12 [o0, o1, some (.int l2)] (r.toList ++ []) G' Q)) : E x F (d + 1) 170 8 [o0, o1, some (.int l2)] [] (V, T) Q := by
  refine e_iload_n zd170_8 rfl ?_
  exact e_callS zd170_9 (own := 8) (nest := false) (w := 1005) (by decide +kernel) (by decide +kernel) zs131 (as := [.int l2]) (rest := []) rfl rfl (Nat.le_of_ble_eq_true rfl) rfl rfl rfl (by omega) k
theorem b170_12 {x : zXs} {F : zF} (hF : zSh F) {d : Nat} {V : Nat → Nat → Int32} {T : Nat → Nat → Int64} {Q : Option Value → zG → Prop} {o0 : Option Value} {o1 : Option Value} {o2 : Option Value} {s0 : Int32}   (kt : s0 = 0 → E x F d 170 24 [o0, o1, o2] [] (V, T) Q) (kf : ¬ (s0 = 0) → E x F d 170 15 [o0, o1, o2] [] (V, T) Q) : E x F d 170 12 [o0, o1, o2] [.int s0] (V, T) Q := by
  exact e_if_eq zd170_12 (tg := 24) rfl kt kf
theorem b170_15 {x : zXs} {F : zF} (hF : zSh F) {d : Nat} {V : Nat → Nat → Int32} {T : Nat → Nat → Int64} {Q : Option Value → zG → Prop} {l1 : Int32} {l2 : Int32}   (k : E x F d 171 0 [some (.ref 59), some (.int l1), some (.int l2), none, none, none, none, none] [] (V, T) (fun r G' => E x F (d + 1) 170 21 [some (.ref 59), some (.int l1), some (.int l2)] (r.toList ++ []) G' Q)) : E x F (d + 1) 170 15 [some (.ref 59), some (.int l1), some (.int l2)] [] (V, T) Q := by
  refine e_aload_n zd170_15 rfl rfl ?_
  refine e_iload_n zd170_16 rfl ?_
  refine e_iload_n zd170_17 rfl ?_
  exact e_callV zd170_18 (own := 8) (nest := false) (w := 1174) (by decide +kernel) (by decide +kernel) zs171 (as := [.int l1, .int l2]) (rest := []) rfl rfl (zsh_at hF rfl).1 (by omega) (Nat.le_of_ble_eq_true rfl) rfl rfl rfl (by omega) k
theorem b170_21 {x : zXs} {F : zF} (hF : zSh F) {d : Nat} {V : Nat → Nat → Int32} {T : Nat → Nat → Int64} {Q : Option Value → zG → Prop} {o0 : Option Value} {o1 : Option Value} {o2 : Option Value} {s0 : Int32}   (k : E x F d 170 26 [o0, o1, o2] [.int s0] (V, T) Q) : E x F d 170 21 [o0, o1, o2] [.int s0] (V, T) Q := by
  exact e_goto zd170_21 (tg := 26) rfl k
theorem b170_24 {x : zXs} {F : zF} (hF : zSh F) {d : Nat} {V : Nat → Nat → Int32} {T : Nat → Nat → Int64} {Q : Option Value → zG → Prop} {o0 : Option Value} {o1 : Option Value} {o2 : Option Value}   (k : E x F d 170 26 [o0, o1, o2] [.int (Int32.ofInt (-100))] (V, T) Q) : E x F d 170 24 [o0, o1, o2] [] (V, T) Q := by
  refine e_bipush zd170_24 (v := Int32.ofInt (-100)) (by decide +kernel) ?_
  exact k
theorem b170_26 {x : zXs} {F : zF} (hF : zSh F) {d : Nat} {V : Nat → Nat → Int32} {T : Nat → Nat → Int64} {Q : Option Value → zG → Prop} {o0 : Option Value} {o1 : Option Value} {o2 : Option Value} {s0 : Int32}   (k : Q (some (.int s0)) (V, T)) : E x F d 170 26 [o0, o1, o2] [.int s0] (V, T) Q := by
  exact e_ireti zd170_26 zs170 k
theorem zd171_0 : zop 171 0 = some (.aload_n 0, 1) := by decide +kernel
theorem zd171_1 : zop 171 1 = some (.iload_n 2, 1) := by decide +kernel
theorem zd171_2 : zop 171 2 = some (.invokevirtual 141, 3) := by decide +kernel
theorem zd171_5 : zop 171 5 = some (.istore_n 3, 1) := by decide +kernel
theorem zd171_6 : zop 171 6 = some (.iconst 0, 1) := by decide +kernel
theorem zd171_7 : zop 171 7 = some (.istore 4, 2) := by decide +kernel
theorem zd171_9 : zop 171 9 = some (.iconst 0, 1) := by decide +kernel
theorem zd171_10 : zop 171 10 = some (.istore 5, 2) := by decide +kernel
theorem zd171_12 : zop 171 12 = some (.iload 5, 2) := by decide +kernel
theorem zd171_14 : zop 171 14 = some (.iload_n 3, 1) := by decide +kernel
theorem zd171_15 : zop 171 15 = some (.if_icmp .ge 123, 3) := by decide +kernel
theorem zd171_18 : zop 171 18 = some (.aload_n 0, 1) := by decide +kernel
theorem zd171_19 : zop 171 19 = some (.iload_n 1, 1) := by decide +kernel
theorem zd171_20 : zop 171 20 = some (.aload_n 0, 1) := by decide +kernel
theorem zd171_21 : zop 171 21 = some (.getfield 38, 3) := by decide +kernel
theorem zd171_24 : zop 171 24 = some (.iload 5, 2) := by decide +kernel
theorem zd171_26 : zop 171 26 = some (.iaload, 1) := by decide +kernel
theorem zd171_27 : zop 171 27 = some (.iload 5, 2) := by decide +kernel
theorem zd171_29 : zop 171 29 = some (.aload_n 0, 1) := by decide +kernel
theorem zd171_30 : zop 171 30 = some (.getfield 26, 3) := by decide +kernel
theorem zd171_33 : zop 171 33 = some (.iload_n 2, 1) := by decide +kernel
theorem zd171_34 : zop 171 34 = some (.iaload, 1) := by decide +kernel
theorem zd171_35 : zop 171 35 = some (.invokevirtual 278, 3) := by decide +kernel
theorem zd171_38 : zop 171 38 = some (.istore 6, 2) := by decide +kernel
theorem zd171_40 : zop 171 40 = some (.bipush 24, 2) := by decide +kernel
theorem zd171_42 : zop 171 42 = some (.aload_n 0, 1) := by decide +kernel
theorem zd171_43 : zop 171 43 = some (.getfield 26, 3) := by decide +kernel
theorem zd171_46 : zop 171 46 = some (.iload_n 2, 1) := by decide +kernel
theorem zd171_47 : zop 171 47 = some (.iaload, 1) := by decide +kernel
theorem zd171_48 : zop 171 48 = some (.isub, 1) := by decide +kernel
theorem zd171_49 : zop 171 49 = some (.istore 7, 2) := by decide +kernel
theorem zd171_51 : zop 171 51 = some (.iload 6, 2) := by decide +kernel
theorem zd171_53 : zop 171 53 = some (.iload 7, 2) := by decide +kernel
theorem zd171_55 : zop 171 55 = some (.ineg, 1) := by decide +kernel
theorem zd171_56 : zop 171 56 = some (.if_icmp .ge 9, 3) := by decide +kernel
theorem zd171_59 : zop 171 59 = some (.iload 7, 2) := by decide +kernel
theorem zd171_61 : zop 171 61 = some (.ineg, 1) := by decide +kernel
theorem zd171_62 : zop 171 62 = some (.goto 5, 3) := by decide +kernel
theorem zd171_65 : zop 171 65 = some (.iload 6, 2) := by decide +kernel
theorem zd171_67 : zop 171 67 = some (.istore 6, 2) := by decide +kernel
theorem zd171_69 : zop 171 69 = some (.aload_n 0, 1) := by decide +kernel
theorem zd171_70 : zop 171 70 = some (.iload_n 2, 1) := by decide +kernel
theorem zd171_71 : zop 171 71 = some (.aload_n 0, 1) := by decide +kernel
theorem zd171_72 : zop 171 72 = some (.getfield 35, 3) := by decide +kernel
theorem zd171_75 : zop 171 75 = some (.iload 5, 2) := by decide +kernel
theorem zd171_77 : zop 171 77 = some (.iaload, 1) := by decide +kernel
theorem zd171_78 : zop 171 78 = some (.iload 4, 2) := by decide +kernel
theorem zd171_80 : zop 171 80 = some (.isub, 1) := by decide +kernel
theorem zd171_81 : zop 171 81 = some (.iload 6, 2) := by decide +kernel
theorem zd171_83 : zop 171 83 = some (.invokevirtual 282, 3) := by decide +kernel
theorem zd171_86 : zop 171 86 = some (.aload_n 0, 1) := by decide +kernel
theorem zd171_87 : zop 171 87 = some (.getfield 32, 3) := by decide +kernel
theorem zd171_90 : zop 171 90 = some (.iconst 2, 1) := by decide +kernel
theorem zd171_91 : zop 171 91 = some (.iload_n 1, 1) := by decide +kernel
theorem zd171_92 : zop 171 92 = some (.imul, 1) := by decide +kernel
theorem zd171_93 : zop 171 93 = some (.iconst 1, 1) := by decide +kernel
theorem zd171_94 : zop 171 94 = some (.iadd, 1) := by decide +kernel
theorem zd171_95 : zop 171 95 = some (.aload_n 0, 1) := by decide +kernel
theorem zd171_96 : zop 171 96 = some (.getfield 32, 3) := by decide +kernel
theorem zd171_99 : zop 171 99 = some (.iconst 2, 1) := by decide +kernel
theorem zd171_100 : zop 171 100 = some (.iload_n 1, 1) := by decide +kernel
theorem zd171_101 : zop 171 101 = some (.imul, 1) := by decide +kernel
theorem zd171_102 : zop 171 102 = some (.iconst 1, 1) := by decide +kernel
theorem zd171_103 : zop 171 103 = some (.iadd, 1) := by decide +kernel
theorem zd171_104 : zop 171 104 = some (.iaload, 1) := by decide +kernel
theorem zd171_105 : zop 171 105 = some (.iload 6, 2) := by decide +kernel
theorem zd171_107 : zop 171 107 = some (.iadd, 1) := by decide +kernel
theorem zd171_108 : zop 171 108 = some (.iconst 0, 1) := by decide +kernel
theorem zd171_109 : zop 171 109 = some (.sipush 999, 3) := by decide +kernel
theorem zd171_112 : zop 171 112 = some (.invokestatic 267, 3) := by decide +kernel
theorem zd171_115 : zop 171 115 = some (.iastore, 1) := by decide +kernel
theorem zd171_116 : zop 171 116 = some (.aload_n 0, 1) := by decide +kernel
theorem zd171_117 : zop 171 117 = some (.getfield 41, 3) := by decide +kernel
theorem zd171_120 : zop 171 120 = some (.iload 5, 2) := by decide +kernel
theorem zd171_122 : zop 171 122 = some (.iload 6, 2) := by decide +kernel
theorem zd171_124 : zop 171 124 = some (.iastore, 1) := by decide +kernel
theorem zd171_125 : zop 171 125 = some (.iload 4, 2) := by decide +kernel
theorem zd171_127 : zop 171 127 = some (.iload 6, 2) := by decide +kernel
theorem zd171_129 : zop 171 129 = some (.iadd, 1) := by decide +kernel
theorem zd171_130 : zop 171 130 = some (.istore 4, 2) := by decide +kernel
theorem zd171_132 : zop 171 132 = some (.iinc 5 1, 3) := by decide +kernel
theorem zd171_135 : zop 171 135 = some (.goto (-123), 3) := by decide +kernel
theorem zd171_138 : zop 171 138 = some (.iload 4, 2) := by decide +kernel
theorem zd171_140 : zop 171 140 = some (.ireturn, 1) := by decide +kernel
theorem b171_0 {x : zXs} {F : zF} (hF : zSh F) {d : Nat} {V : Nat → Nat → Int32} {T : Nat → Nat → Int64} {Q : Option Value → zG → Prop} {o1 : Option Value} {l2 : Int32} {o3 : Option Value} {o4 : Option Value} {o5 : Option Value} {o6 : Option Value} {o7 : Option Value}   (k : E x F d 158 0 [some (.ref 59), some (.int l2), none, none] [] (V, T) (fun r G' => E x F (d + 1) 171 5 [some (.ref 59), o1, some (.int l2), o3, o4, o5, o6, o7] (r.toList ++ []) G' Q)) : E x F (d + 1) 171 0 [some (.ref 59), o1, some (.int l2), o3, o4, o5, o6, o7] [] (V, T) Q := by
  refine e_aload_n zd171_0 rfl rfl ?_
  refine e_iload_n zd171_1 rfl ?_
  exact e_callV zd171_2 (own := 8) (nest := false) (w := 1118) (by decide +kernel) (by decide +kernel) zs158 (as := [.int l2]) (rest := []) rfl rfl (zsh_at hF rfl).1 (by omega) (Nat.le_of_ble_eq_true rfl) rfl rfl rfl (by omega) k
theorem b171_5 {x : zXs} {F : zF} (hF : zSh F) {d : Nat} {V : Nat → Nat → Int32} {T : Nat → Nat → Int64} {Q : Option Value → zG → Prop} {o0 : Option Value} {o1 : Option Value} {o2 : Option Value} {o3 : Option Value} {o4 : Option Value} {o5 : Option Value} {o6 : Option Value} {o7 : Option Value} {s0 : Int32}   (k : E x F d 171 12 [o0, o1, o2, some (.int s0), some (.int (Int32.ofInt 0)), some (.int (Int32.ofInt 0)), o6, o7] [] (V, T) Q) : E x F d 171 5 [o0, o1, o2, o3, o4, o5, o6, o7] [.int s0] (V, T) Q := by
  refine e_istore_n zd171_5 (by decide +kernel) (Nat.le_of_ble_eq_true rfl) ?_
  refine e_iconst zd171_6 ?_
  refine e_istore zd171_7 (by decide +kernel) (Nat.le_of_ble_eq_true rfl) ?_
  refine e_iconst zd171_9 ?_
  refine e_istore zd171_10 (by decide +kernel) (Nat.le_of_ble_eq_true rfl) ?_
  exact k
theorem b171_12 {x : zXs} {F : zF} (hF : zSh F) {d : Nat} {V : Nat → Nat → Int32} {T : Nat → Nat → Int64} {Q : Option Value → zG → Prop} {o0 : Option Value} {o1 : Option Value} {o2 : Option Value} {l3 : Int32} {o4 : Option Value} {l5 : Int32} {o6 : Option Value} {o7 : Option Value}   (kt : l3 ≤ l5 → E x F d 171 138 [o0, o1, o2, some (.int l3), o4, some (.int l5), o6, o7] [] (V, T) Q) (kf : ¬ (l3 ≤ l5) → E x F d 171 18 [o0, o1, o2, some (.int l3), o4, some (.int l5), o6, o7] [] (V, T) Q) : E x F d 171 12 [o0, o1, o2, some (.int l3), o4, some (.int l5), o6, o7] [] (V, T) Q := by
  refine e_iload zd171_12 rfl ?_
  refine e_iload_n zd171_14 rfl ?_
  exact e_icmp_ge zd171_15 (tg := 138) rfl kt kf
theorem b171_18 {x : zXs} {F : zF} (hF : zSh F) {d : Nat} {V : Nat → Nat → Int32} {T : Nat → Nat → Int64} {Q : Option Value → zG → Prop} {l1 : Int32} {l2 : Int32} {o3 : Option Value} {o4 : Option Value} {l5 : Int32} {o6 : Option Value} {o7 : Option Value}  {i1 : Nat} (e1 : l5 = nI i1) (h1 : i1 < 24) {i2 : Nat} (e2 : l2 = nI i2) (h2 : i2 < 5) (k : E x F d 169 0 [some (.ref 59), some (.int l1), some (.int (V 68 i1)), some (.int l5), some (.int (V 64 i2)), none, none, none, none] [] (V, T) (fun r G' => E x F (d + 1) 171 38 [some (.ref 59), some (.int l1), some (.int l2), o3, o4, some (.int l5), o6, o7] (r.toList ++ []) G' Q)) : E x F (d + 1) 171 18 [some (.ref 59), some (.int l1), some (.int l2), o3, o4, some (.int l5), o6, o7] [] (V, T) Q := by
  refine e_aload_n zd171_18 rfl rfl ?_
  refine e_iload_n zd171_19 rfl ?_
  refine e_aload_n zd171_20 rfl rfl ?_
  refine e_getA zd171_21 (own := 8) (ci := 8) (kf := 29) (w := 887) (by decide +kernel) (by decide +kernel) (zsh_at hF rfl).1 (by decide +kernel) rfl (zrf_at hF (i := 67) rfl) ?_
  refine e_iload zd171_24 rfl ?_
  refine e_iald zd171_26 (i := i1) (zsh_at hF rfl) e1 h1 (by omega) ?_
  refine e_iload zd171_27 rfl ?_
  refine e_aload_n zd171_29 rfl rfl ?_
  refine e_getA zd171_30 (own := 8) (ci := 8) (kf := 9) (w := 867) (by decide +kernel) (by decide +kernel) (zsh_at hF rfl).1 (by decide +kernel) rfl (zrf_at hF (i := 63) rfl) ?_
  refine e_iload_n zd171_33 rfl ?_
  refine e_iald zd171_34 (i := i2) (zsh_at hF rfl) e2 h2 (by omega) ?_
  exact e_callV zd171_35 (own := 8) (nest := false) (w := 1166) (by decide +kernel) (by decide +kernel) zs169 (as := [.int l1, .int (V 68 i1), .int l5, .int (V 64 i2)]) (rest := []) rfl rfl (zsh_at hF rfl).1 (by omega) (Nat.le_of_ble_eq_true rfl) rfl rfl rfl (by omega) k
theorem b171_38 {x : zXs} {F : zF} (hF : zSh F) {d : Nat} {V : Nat → Nat → Int32} {T : Nat → Nat → Int64} {Q : Option Value → zG → Prop} {o1 : Option Value} {l2 : Int32} {o3 : Option Value} {o4 : Option Value} {o5 : Option Value} {o6 : Option Value} {o7 : Option Value} {s0 : Int32}  {i1 : Nat} (e1 : l2 = nI i1) (h1 : i1 < 5) (kt : (-((Int32.ofInt 24) - (V 64 i1))) ≤ s0 → E x F d 171 65 [some (.ref 59), o1, some (.int l2), o3, o4, o5, some (.int s0), some (.int ((Int32.ofInt 24) - (V 64 i1)))] [] (V, T) Q) (kf : ¬ ((-((Int32.ofInt 24) - (V 64 i1))) ≤ s0) → E x F d 171 59 [some (.ref 59), o1, some (.int l2), o3, o4, o5, some (.int s0), some (.int ((Int32.ofInt 24) - (V 64 i1)))] [] (V, T) Q) : E x F d 171 38 [some (.ref 59), o1, some (.int l2), o3, o4, o5, o6, o7] [.int s0] (V, T) Q := by
  refine e_istore zd171_38 (by decide +kernel) (Nat.le_of_ble_eq_true rfl) ?_
  refine e_bipush zd171_40 (v := Int32.ofInt 24) (by decide +kernel) ?_
  refine e_aload_n zd171_42 rfl rfl ?_
  refine e_getA zd171_43 (own := 8) (ci := 8) (kf := 9) (w := 867) (by decide +kernel) (by decide +kernel) (zsh_at hF rfl).1 (by decide +kernel) rfl (zrf_at hF (i := 63) rfl) ?_
  refine e_iload_n zd171_46 rfl ?_
  refine e_iald zd171_47 (i := i1) (zsh_at hF rfl) e1 h1 (by omega) ?_
  refine e_isub zd171_48 ?_
  refine e_istore zd171_49 (by decide +kernel) (Nat.le_of_ble_eq_true rfl) ?_
  refine e_iload zd171_51 rfl ?_
  refine e_iload zd171_53 rfl ?_
  refine e_ineg zd171_55 ?_
  exact e_icmp_ge zd171_56 (tg := 65) rfl kt kf
theorem b171_59 {x : zXs} {F : zF} (hF : zSh F) {d : Nat} {V : Nat → Nat → Int32} {T : Nat → Nat → Int64} {Q : Option Value → zG → Prop} {o0 : Option Value} {o1 : Option Value} {o2 : Option Value} {o3 : Option Value} {o4 : Option Value} {o5 : Option Value} {o6 : Option Value} {l7 : Int32}   (k : E x F d 171 67 [o0, o1, o2, o3, o4, o5, o6, some (.int l7)] [.int (-l7)] (V, T) Q) : E x F d 171 59 [o0, o1, o2, o3, o4, o5, o6, some (.int l7)] [] (V, T) Q := by
  refine e_iload zd171_59 rfl ?_
  refine e_ineg zd171_61 ?_
  exact e_goto zd171_62 (tg := 67) rfl k
theorem b171_65 {x : zXs} {F : zF} (hF : zSh F) {d : Nat} {V : Nat → Nat → Int32} {T : Nat → Nat → Int64} {Q : Option Value → zG → Prop} {o0 : Option Value} {o1 : Option Value} {o2 : Option Value} {o3 : Option Value} {o4 : Option Value} {o5 : Option Value} {l6 : Int32} {o7 : Option Value}   (k : E x F d 171 67 [o0, o1, o2, o3, o4, o5, some (.int l6), o7] [.int l6] (V, T) Q) : E x F d 171 65 [o0, o1, o2, o3, o4, o5, some (.int l6), o7] [] (V, T) Q := by
  refine e_iload zd171_65 rfl ?_
  exact k
theorem b171_67 {x : zXs} {F : zF} (hF : zSh F) {d : Nat} {V : Nat → Nat → Int32} {T : Nat → Nat → Int64} {Q : Option Value → zG → Prop} {o1 : Option Value} {l2 : Int32} {o3 : Option Value} {l4 : Int32} {l5 : Int32} {o6 : Option Value} {o7 : Option Value} {s0 : Int32}  {i1 : Nat} (e1 : l5 = nI i1) (h1 : i1 < 24) (k : E x F d 172 0 [some (.ref 59), some (.int l2), some (.int ((V 67 i1) - l4)), some (.int s0), none] [] (V, T) (fun r G' => E x F (d + 1) 171 86 [some (.ref 59), o1, some (.int l2), o3, some (.int l4), some (.int l5), some (.int s0), o7] (r.toList ++ []) G' Q)) : E x F (d + 1) 171 67 [some (.ref 59), o1, some (.int l2), o3, some (.int l4), some (.int l5), o6, o7] [.int s0] (V, T) Q := by
  refine e_istore zd171_67 (by decide +kernel) (Nat.le_of_ble_eq_true rfl) ?_
  refine e_aload_n zd171_69 rfl rfl ?_
  refine e_iload_n zd171_70 rfl ?_
  refine e_aload_n zd171_71 rfl rfl ?_
  refine e_getA zd171_72 (own := 8) (ci := 8) (kf := 28) (w := 886) (by decide +kernel) (by decide +kernel) (zsh_at hF rfl).1 (by decide +kernel) rfl (zrf_at hF (i := 66) rfl) ?_
  refine e_iload zd171_75 rfl ?_
  refine e_iald zd171_77 (i := i1) (zsh_at hF rfl) e1 h1 (by omega) ?_
  refine e_iload zd171_78 rfl ?_
  refine e_isub zd171_80 ?_
  refine e_iload zd171_81 rfl ?_
  exact e_callV zd171_83 (own := 8) (nest := false) (w := 1178) (by decide +kernel) (by decide +kernel) zs172 (as := [.int l2, .int ((V 67 i1) - l4), .int s0]) (rest := []) rfl rfl (zsh_at hF rfl).1 (by omega) (Nat.le_of_ble_eq_true rfl) rfl rfl rfl (by omega) k
theorem b171_86 {x : zXs} {F : zF} (hF : zSh F) {d : Nat} {V : Nat → Nat → Int32} {T : Nat → Nat → Int64} {Q : Option Value → zG → Prop} {l1 : Int32} {o2 : Option Value} {o3 : Option Value} {o4 : Option Value} {o5 : Option Value} {l6 : Int32} {o7 : Option Value}  {i1 : Nat} (e1 : ((Int32.ofInt 2) * l1) + (Int32.ofInt 1) = nI i1) (h1 : i1 < 10) (k : E x F d 157 0 [some (.int ((V 66 i1) + l6)), some (.int (Int32.ofInt 0)), some (.int (Int32.ofInt 999))] [] (V, T) (fun r G' => E x F (d + 1) 171 115 [some (.ref 59), some (.int l1), o2, o3, o4, o5, some (.int l6), o7] (r.toList ++ [.int (((Int32.ofInt 2) * l1) + (Int32.ofInt 1)), .ref 66]) G' Q)) : E x F (d + 1) 171 86 [some (.ref 59), some (.int l1), o2, o3, o4, o5, some (.int l6), o7] [] (V, T) Q := by
  refine e_aload_n zd171_86 rfl rfl ?_
  refine e_getA zd171_87 (own := 8) (ci := 8) (kf := 11) (w := 869) (by decide +kernel) (by decide +kernel) (zsh_at hF rfl).1 (by decide +kernel) rfl (zrf_at hF (i := 65) rfl) ?_
  refine e_iconst zd171_90 ?_
  refine e_iload_n zd171_91 rfl ?_
  refine e_imul zd171_92 ?_
  refine e_iconst zd171_93 ?_
  refine e_iadd zd171_94 ?_
  refine e_aload_n zd171_95 rfl rfl ?_
  refine e_getA zd171_96 (own := 8) (ci := 8) (kf := 11) (w := 869) (by decide +kernel) (by decide +kernel) (zsh_at hF rfl).1 (by decide +kernel) rfl (zrf_at hF (i := 65) rfl) ?_
  refine e_iconst zd171_99 ?_
  refine e_iload_n zd171_100 rfl ?_
  refine e_imul zd171_101 ?_
  refine e_iconst zd171_102 ?_
  refine e_iadd zd171_103 ?_
  refine e_iald zd171_104 (i := i1) (zsh_at hF rfl) e1 h1 (by omega) ?_
  refine e_iload zd171_105 rfl ?_
  refine e_iadd zd171_107 ?_
  refine e_iconst zd171_108 ?_
  refine e_sipush zd171_109 (v := Int32.ofInt 999) (by decide +kernel) ?_
  exact e_callS zd171_112 (own := 8) (nest := false) (w := 1115) (by decide +kernel) (by decide +kernel) zs157 (as := [.int ((V 66 i1) + l6), .int (Int32.ofInt 0), .int (Int32.ofInt 999)]) (rest := [.int (((Int32.ofInt 2) * l1) + (Int32.ofInt 1)), .ref 66]) rfl rfl (Nat.le_of_ble_eq_true rfl) rfl rfl rfl (by omega) k
theorem b171_115 {x : zXs} {F : zF} (hF : zSh F) {d : Nat} {V : Nat → Nat → Int32} {T : Nat → Nat → Int64} {Q : Option Value → zG → Prop} {o1 : Option Value} {o2 : Option Value} {o3 : Option Value} {l4 : Int32} {l5 : Int32} {l6 : Int32} {o7 : Option Value} {s0 : Nat} {ns0 : Nat} {s1 : Int32} {s2 : Int32} (hs0 : zsh F s0 = 100 ∧ zln F s0 = ns0) (qns0 : ns0 < 2 ^ 31) {i1 : Nat} (e1 : s1 = nI i1) (h1 : i1 < ns0) {i2 : Nat} (e2 : l5 = nI i2) (h2 : i2 < 24) (k : E x F d 171 12 [some (.ref 59), o1, o2, o3, some (.int (l4 + l6)), some (.int (l5 + Int32.ofInt 1)), some (.int l6), o7] [] (zu (zu V s0 i1 s2) 69 i2 l6, T) Q) : E x F d 171 115 [some (.ref 59), o1, o2, o3, some (.int l4), some (.int l5), some (.int l6), o7] [.int s2, .int s1, .ref s0] (V, T) Q := by
  refine e_iast zd171_115 (i := i1) (hs0) e1 h1 qns0 ?_
  refine e_aload_n zd171_116 rfl rfl ?_
  refine e_getA zd171_117 (own := 8) (ci := 8) (kf := 30) (w := 888) (by decide +kernel) (by decide +kernel) (zsh_at hF rfl).1 (by decide +kernel) rfl (zrf_at hF (i := 68) rfl) ?_
  refine e_iload zd171_120 rfl ?_
  refine e_iload zd171_122 rfl ?_
  refine e_iast zd171_124 (i := i2) (zsh_at hF rfl) e2 h2 (by omega) ?_
  refine e_iload zd171_125 rfl ?_
  refine e_iload zd171_127 rfl ?_
  refine e_iadd zd171_129 ?_
  refine e_istore zd171_130 (by decide +kernel) (Nat.le_of_ble_eq_true rfl) ?_
  refine e_iinc zd171_132 rfl (by decide +kernel) ?_
  exact e_goto zd171_135 (tg := 12) rfl k
theorem b171_138 {x : zXs} {F : zF} (hF : zSh F) {d : Nat} {V : Nat → Nat → Int32} {T : Nat → Nat → Int64} {Q : Option Value → zG → Prop} {o0 : Option Value} {o1 : Option Value} {o2 : Option Value} {o3 : Option Value} {l4 : Int32} {o5 : Option Value} {o6 : Option Value} {o7 : Option Value}   (k : Q (some (.int l4)) (V, T)) : E x F d 171 138 [o0, o1, o2, o3, some (.int l4), o5, o6, o7] [] (V, T) Q := by
  refine e_iload zd171_138 rfl ?_
  exact e_ireti zd171_140 zs171 k
theorem zd172_0 : zop 172 0 = some (.aload_n 0, 1) := by decide +kernel
theorem zd172_1 : zop 172 1 = some (.getfield 23, 3) := by decide +kernel
theorem zd172_4 : zop 172 4 = some (.iload_n 1, 1) := by decide +kernel
theorem zd172_5 : zop 172 5 = some (.iaload, 1) := by decide +kernel
theorem zd172_6 : zop 172 6 = some (.iconst 1, 1) := by decide +kernel
theorem zd172_7 : zop 172 7 = some (.iload_n 2, 1) := by decide +kernel
theorem zd172_8 : zop 172 8 = some (.ishl, 1) := by decide +kernel
theorem zd172_9 : zop 172 9 = some (.iconst 1, 1) := by decide +kernel
theorem zd172_10 : zop 172 10 = some (.isub, 1) := by decide +kernel
theorem zd172_11 : zop 172 11 = some (.iand, 1) := by decide +kernel
theorem zd172_12 : zop 172 12 = some (.istore 4, 2) := by decide +kernel
theorem zd172_14 : zop 172 14 = some (.aload_n 0, 1) := by decide +kernel
theorem zd172_15 : zop 172 15 = some (.getfield 23, 3) := by decide +kernel
theorem zd172_18 : zop 172 18 = some (.iload_n 1, 1) := by decide +kernel
theorem zd172_19 : zop 172 19 = some (.iload_n 3, 1) := by decide +kernel
theorem zd172_20 : zop 172 20 = some (.ifCond .ge 21, 3) := by decide +kernel
theorem zd172_23 : zop 172 23 = some (.iload 4, 2) := by decide +kernel
theorem zd172_25 : zop 172 25 = some (.aload_n 0, 1) := by decide +kernel
theorem zd172_26 : zop 172 26 = some (.getfield 23, 3) := by decide +kernel
theorem zd172_29 : zop 172 29 = some (.iload_n 1, 1) := by decide +kernel
theorem zd172_30 : zop 172 30 = some (.iaload, 1) := by decide +kernel
theorem zd172_31 : zop 172 31 = some (.iload_n 2, 1) := by decide +kernel
theorem zd172_32 : zop 172 32 = some (.ishr, 1) := by decide +kernel
theorem zd172_33 : zop 172 33 = some (.iload_n 2, 1) := by decide +kernel
theorem zd172_34 : zop 172 34 = some (.iload_n 3, 1) := by decide +kernel
theorem zd172_35 : zop 172 35 = some (.isub, 1) := by decide +kernel
theorem zd172_36 : zop 172 36 = some (.ishl, 1) := by decide +kernel
theorem zd172_37 : zop 172 37 = some (.ior, 1) := by decide +kernel
theorem zd172_38 : zop 172 38 = some (.goto 18, 3) := by decide +kernel
theorem zd172_41 : zop 172 41 = some (.iload 4, 2) := by decide +kernel
theorem zd172_43 : zop 172 43 = some (.aload_n 0, 1) := by decide +kernel
theorem zd172_44 : zop 172 44 = some (.getfield 23, 3) := by decide +kernel
theorem zd172_47 : zop 172 47 = some (.iload_n 1, 1) := by decide +kernel
theorem zd172_48 : zop 172 48 = some (.iaload, 1) := by decide +kernel
theorem zd172_49 : zop 172 49 = some (.iload_n 2, 1) := by decide +kernel
theorem zd172_50 : zop 172 50 = some (.iload_n 3, 1) := by decide +kernel
theorem zd172_51 : zop 172 51 = some (.iadd, 1) := by decide +kernel
theorem zd172_52 : zop 172 52 = some (.ishr, 1) := by decide +kernel
theorem zd172_53 : zop 172 53 = some (.iload_n 2, 1) := by decide +kernel
theorem zd172_54 : zop 172 54 = some (.ishl, 1) := by decide +kernel
theorem zd172_55 : zop 172 55 = some (.ior, 1) := by decide +kernel
theorem zd172_56 : zop 172 56 = some (.iastore, 1) := by decide +kernel
theorem zd172_57 : zop 172 57 = some (.aload_n 0, 1) := by decide +kernel
theorem zd172_58 : zop 172 58 = some (.getfield 26, 3) := by decide +kernel
theorem zd172_61 : zop 172 61 = some (.iload_n 1, 1) := by decide +kernel
theorem zd172_62 : zop 172 62 = some (.dup2, 1) := by decide +kernel
theorem zd172_63 : zop 172 63 = some (.iaload, 1) := by decide +kernel
theorem zd172_64 : zop 172 64 = some (.iload_n 3, 1) := by decide +kernel
theorem zd172_65 : zop 172 65 = some (.isub, 1) := by decide +kernel
theorem zd172_66 : zop 172 66 = some (.iastore, 1) := by decide +kernel
theorem zd172_67 : zop 172 67 = some (.return_, 1) := by decide +kernel
theorem b172_0 {x : zXs} {F : zF} (hF : zSh F) {d : Nat} {V : Nat → Nat → Int32} {T : Nat → Nat → Int64} {Q : Option Value → zG → Prop} {l1 : Int32} {l2 : Int32} {l3 : Int32} {o4 : Option Value}  {i1 : Nat} (e1 : l1 = nI i1) (h1 : i1 < 5) (kt : 0 ≤ l3 → E x F d 172 41 [some (.ref 59), some (.int l1), some (.int l2), some (.int l3), some (.int ((V 63 i1) &&& (((Int32.ofInt 1) <<< (l2 &&& 31)) - (Int32.ofInt 1))))] [.int l1, .ref 63] (V, T) Q) (kf : ¬ (0 ≤ l3) → E x F d 172 23 [some (.ref 59), some (.int l1), some (.int l2), some (.int l3), some (.int ((V 63 i1) &&& (((Int32.ofInt 1) <<< (l2 &&& 31)) - (Int32.ofInt 1))))] [.int l1, .ref 63] (V, T) Q) : E x F d 172 0 [some (.ref 59), some (.int l1), some (.int l2), some (.int l3), o4] [] (V, T) Q := by
  refine e_aload_n zd172_0 rfl rfl ?_
  refine e_getA zd172_1 (own := 8) (ci := 8) (kf := 8) (w := 866) (by decide +kernel) (by decide +kernel) (zsh_at hF rfl).1 (by decide +kernel) rfl (zrf_at hF (i := 62) rfl) ?_
  refine e_iload_n zd172_4 rfl ?_
  refine e_iald zd172_5 (i := i1) (zsh_at hF rfl) e1 h1 (by omega) ?_
  refine e_iconst zd172_6 ?_
  refine e_iload_n zd172_7 rfl ?_
  refine e_ishl zd172_8 ?_
  refine e_iconst zd172_9 ?_
  refine e_isub zd172_10 ?_
  refine e_iand zd172_11 ?_
  refine e_istore zd172_12 (by decide +kernel) (Nat.le_of_ble_eq_true rfl) ?_
  refine e_aload_n zd172_14 rfl rfl ?_
  refine e_getA zd172_15 (own := 8) (ci := 8) (kf := 8) (w := 866) (by decide +kernel) (by decide +kernel) (zsh_at hF rfl).1 (by decide +kernel) rfl (zrf_at hF (i := 62) rfl) ?_
  refine e_iload_n zd172_18 rfl ?_
  refine e_iload_n zd172_19 rfl ?_
  exact e_if_ge zd172_20 (tg := 41) rfl kt kf
theorem b172_23 {x : zXs} {F : zF} (hF : zSh F) {d : Nat} {V : Nat → Nat → Int32} {T : Nat → Nat → Int64} {Q : Option Value → zG → Prop} {l1 : Int32} {l2 : Int32} {l3 : Int32} {l4 : Int32} {s0 : Nat} {ns0 : Nat} {s1 : Int32} (hs0 : zsh F s0 = 100 ∧ zln F s0 = ns0) (qns0 : ns0 < 2 ^ 31) {i1 : Nat} (e1 : l1 = nI i1) (h1 : i1 < 5) (k : E x F d 172 56 [some (.ref 59), some (.int l1), some (.int l2), some (.int l3), some (.int l4)] [.int (l4 ||| (((V 63 i1) >>> (l2 &&& 31)) <<< ((l2 - l3) &&& 31))), .int s1, .ref s0] (V, T) Q) : E x F d 172 23 [some (.ref 59), some (.int l1), some (.int l2), some (.int l3), some (.int l4)] [.int s1, .ref s0] (V, T) Q := by
  refine e_iload zd172_23 rfl ?_
  refine e_aload_n zd172_25 rfl rfl ?_
  refine e_getA zd172_26 (own := 8) (ci := 8) (kf := 8) (w := 866) (by decide +kernel) (by decide +kernel) (zsh_at hF rfl).1 (by decide +kernel) rfl (zrf_at hF (i := 62) rfl) ?_
  refine e_iload_n zd172_29 rfl ?_
  refine e_iald zd172_30 (i := i1) (zsh_at hF rfl) e1 h1 (by omega) ?_
  refine e_iload_n zd172_31 rfl ?_
  refine e_ishr zd172_32 ?_
  refine e_iload_n zd172_33 rfl ?_
  refine e_iload_n zd172_34 rfl ?_
  refine e_isub zd172_35 ?_
  refine e_ishl zd172_36 ?_
  refine e_ior zd172_37 ?_
  exact e_goto zd172_38 (tg := 56) rfl k
theorem b172_41 {x : zXs} {F : zF} (hF : zSh F) {d : Nat} {V : Nat → Nat → Int32} {T : Nat → Nat → Int64} {Q : Option Value → zG → Prop} {l1 : Int32} {l2 : Int32} {l3 : Int32} {l4 : Int32} {s0 : Nat} {ns0 : Nat} {s1 : Int32} (hs0 : zsh F s0 = 100 ∧ zln F s0 = ns0) (qns0 : ns0 < 2 ^ 31) {i1 : Nat} (e1 : l1 = nI i1) (h1 : i1 < 5) (k : E x F d 172 56 [some (.ref 59), some (.int l1), some (.int l2), some (.int l3), some (.int l4)] [.int (l4 ||| (((V 63 i1) >>> ((l2 + l3) &&& 31)) <<< (l2 &&& 31))), .int s1, .ref s0] (V, T) Q) : E x F d 172 41 [some (.ref 59), some (.int l1), some (.int l2), some (.int l3), some (.int l4)] [.int s1, .ref s0] (V, T) Q := by
  refine e_iload zd172_41 rfl ?_
  refine e_aload_n zd172_43 rfl rfl ?_
  refine e_getA zd172_44 (own := 8) (ci := 8) (kf := 8) (w := 866) (by decide +kernel) (by decide +kernel) (zsh_at hF rfl).1 (by decide +kernel) rfl (zrf_at hF (i := 62) rfl) ?_
  refine e_iload_n zd172_47 rfl ?_
  refine e_iald zd172_48 (i := i1) (zsh_at hF rfl) e1 h1 (by omega) ?_
  refine e_iload_n zd172_49 rfl ?_
  refine e_iload_n zd172_50 rfl ?_
  refine e_iadd zd172_51 ?_
  refine e_ishr zd172_52 ?_
  refine e_iload_n zd172_53 rfl ?_
  refine e_ishl zd172_54 ?_
  refine e_ior zd172_55 ?_
  exact k
theorem b172_56 {x : zXs} {F : zF} (hF : zSh F) {d : Nat} {V : Nat → Nat → Int32} {T : Nat → Nat → Int64} {Q : Option Value → zG → Prop} {l1 : Int32} {o2 : Option Value} {l3 : Int32} {o4 : Option Value} {s0 : Nat} {ns0 : Nat} {s1 : Int32} {s2 : Int32} (hs0 : zsh F s0 = 100 ∧ zln F s0 = ns0) (qns0 : ns0 < 2 ^ 31) {i1 : Nat} (e1 : s1 = nI i1) (h1 : i1 < ns0) {i2 : Nat} (e2 : l1 = nI i2) (h2 : i2 < 5) {i3 : Nat} (e3 : l1 = nI i3) (h3 : i3 < 5) (k : Q none (zu (zu V s0 i1 s2) 64 i3 (((zu V s0 i1 s2) 64 i2) - l3), T)) : E x F d 172 56 [some (.ref 59), some (.int l1), o2, some (.int l3), o4] [.int s2, .int s1, .ref s0] (V, T) Q := by
  refine e_iast zd172_56 (i := i1) (hs0) e1 h1 qns0 ?_
  refine e_aload_n zd172_57 rfl rfl ?_
  refine e_getA zd172_58 (own := 8) (ci := 8) (kf := 9) (w := 867) (by decide +kernel) (by decide +kernel) (zsh_at hF rfl).1 (by decide +kernel) rfl (zrf_at hF (i := 63) rfl) ?_
  refine e_iload_n zd172_61 rfl ?_
  refine e_dup2 zd172_62 ⟨rfl, rfl⟩ ?_
  refine e_iald zd172_63 (i := i2) (zsh_at hF rfl) e2 h2 (by omega) ?_
  refine e_iload_n zd172_64 rfl ?_
  refine e_isub zd172_65 ?_
  refine e_iast zd172_66 (i := i3) (zsh_at hF rfl) e3 h3 (by omega) ?_
  exact e_vret zd172_67 zs172 k
theorem zd173_0 : zop 173 0 = some (.iload_n 1, 1) := by decide +kernel
theorem zd173_1 : zop 173 1 = some (.invokestatic 97, 3) := by decide +kernel
theorem zd173_4 : zop 173 4 = some (.ifCond .eq 11, 3) := by decide +kernel
theorem zd173_7 : zop 173 7 = some (.aload_n 0, 1) := by decide +kernel
theorem zd173_8 : zop 173 8 = some (.iload_n 2, 1) := by decide +kernel
theorem zd173_9 : zop 173 9 = some (.invokevirtual 288, 3) := by decide +kernel
theorem zd173_12 : zop 173 12 = some (.ifCond .ne 6, 3) := by decide +kernel
theorem zd173_15 : zop 173 15 = some (.bipush (-2), 2) := by decide +kernel
theorem zd173_17 : zop 173 17 = some (.ireturn, 1) := by decide +kernel
theorem zd173_18 : zop 173 18 = some (.iconst 0, 1) := by decide +kernel
theorem zd173_19 : zop 173 19 = some (.istore_n 3, 1) := by decide +kernel
theorem zd173_20 : zop 173 20 = some (.iload_n 3, 1) := by decide +kernel
theorem zd173_21 : zop 173 21 = some (.aload_n 0, 1) := by decide +kernel
theorem zd173_22 : zop 173 22 = some (.getfield 88, 3) := by decide +kernel
theorem zd173_25 : zop 173 25 = some (.if_icmp .ge 21, 3) := by decide +kernel
theorem zd173_28 : zop 173 28 = some (.aload_n 0, 1) := by decide +kernel
theorem zd173_29 : zop 173 29 = some (.aload_n 0, 1) := by decide +kernel
theorem zd173_30 : zop 173 30 = some (.getfield 44, 3) := by decide +kernel
theorem zd173_33 : zop 173 33 = some (.iload_n 3, 1) := by decide +kernel
theorem zd173_34 : zop 173 34 = some (.iaload, 1) := by decide +kernel
theorem zd173_35 : zop 173 35 = some (.iload_n 1, 1) := by decide +kernel
theorem zd173_36 : zop 173 36 = some (.invokevirtual 285, 3) := by decide +kernel
theorem zd173_39 : zop 173 39 = some (.pop, 1) := by decide +kernel
theorem zd173_40 : zop 173 40 = some (.iinc 3 1, 3) := by decide +kernel
theorem zd173_43 : zop 173 43 = some (.goto (-23), 3) := by decide +kernel
theorem zd173_46 : zop 173 46 = some (.aload_n 0, 1) := by decide +kernel
theorem zd173_47 : zop 173 47 = some (.iload_n 1, 1) := by decide +kernel
theorem zd173_48 : zop 173 48 = some (.invokevirtual 103, 3) := by decide +kernel
theorem zd173_51 : zop 173 51 = some (.ireturn, 1) := by decide +kernel
theorem b173_0 {x : zXs} {F : zF} (hF : zSh F) {d : Nat} {V : Nat → Nat → Int32} {T : Nat → Nat → Int64} {Q : Option Value → zG → Prop} {o0 : Option Value} {l1 : Int32} {o2 : Option Value} {o3 : Option Value}   (k : E x F d 131 0 [some (.int l1)] [] (V, T) (fun r G' => E x F (d + 1) 173 4 [o0, some (.int l1), o2, o3] (r.toList ++ []) G' Q)) : E x F (d + 1) 173 0 [o0, some (.int l1), o2, o3] [] (V, T) Q := by
  refine e_iload_n zd173_0 rfl ?_
  exact e_callS zd173_1 (own := 8) (nest := false) (w := 1005) (by decide +kernel) (by decide +kernel) zs131 (as := [.int l1]) (rest := []) rfl rfl (Nat.le_of_ble_eq_true rfl) rfl rfl rfl (by omega) k
theorem b173_4 {x : zXs} {F : zF} (hF : zSh F) {d : Nat} {V : Nat → Nat → Int32} {T : Nat → Nat → Int64} {Q : Option Value → zG → Prop} {o0 : Option Value} {o1 : Option Value} {o2 : Option Value} {o3 : Option Value} {s0 : Int32}   (kt : s0 = 0 → E x F d 173 15 [o0, o1, o2, o3] [] (V, T) Q) (kf : ¬ (s0 = 0) → E x F d 173 7 [o0, o1, o2, o3] [] (V, T) Q) : E x F d 173 4 [o0, o1, o2, o3] [.int s0] (V, T) Q := by
  exact e_if_eq zd173_4 (tg := 15) rfl kt kf
theorem b173_7 {x : zXs} {F : zF} (hF : zSh F) {d : Nat} {V : Nat → Nat → Int32} {T : Nat → Nat → Int64} {Q : Option Value → zG → Prop} {o1 : Option Value} {l2 : Int32} {o3 : Option Value}   (k : E x F d 174 0 [some (.ref 59), some (.int l2), none, none, none] [] (V, T) (fun r G' => E x F (d + 1) 173 12 [some (.ref 59), o1, some (.int l2), o3] (r.toList ++ []) G' Q)) : E x F (d + 1) 173 7 [some (.ref 59), o1, some (.int l2), o3] [] (V, T) Q := by
  refine e_aload_n zd173_7 rfl rfl ?_
  refine e_iload_n zd173_8 rfl ?_
  exact e_callV zd173_9 (own := 8) (nest := false) (w := 1186) (by decide +kernel) (by decide +kernel) zs174 (as := [.int l2]) (rest := []) rfl rfl (zsh_at hF rfl).1 (by omega) (Nat.le_of_ble_eq_true rfl) rfl rfl rfl (by omega) k
theorem b173_12 {x : zXs} {F : zF} (hF : zSh F) {d : Nat} {V : Nat → Nat → Int32} {T : Nat → Nat → Int64} {Q : Option Value → zG → Prop} {o0 : Option Value} {o1 : Option Value} {o2 : Option Value} {o3 : Option Value} {s0 : Int32}   (kt : ¬ s0 = 0 → E x F d 173 18 [o0, o1, o2, o3] [] (V, T) Q) (kf : ¬ (¬ s0 = 0) → E x F d 173 15 [o0, o1, o2, o3] [] (V, T) Q) : E x F d 173 12 [o0, o1, o2, o3] [.int s0] (V, T) Q := by
  exact e_if_ne zd173_12 (tg := 18) rfl kt kf
theorem b173_15 {x : zXs} {F : zF} (hF : zSh F) {d : Nat} {V : Nat → Nat → Int32} {T : Nat → Nat → Int64} {Q : Option Value → zG → Prop} {o0 : Option Value} {o1 : Option Value} {o2 : Option Value} {o3 : Option Value}   (k : Q (some (.int (Int32.ofInt (-2)))) (V, T)) : E x F d 173 15 [o0, o1, o2, o3] [] (V, T) Q := by
  refine e_bipush zd173_15 (v := Int32.ofInt (-2)) (by decide +kernel) ?_
  exact e_ireti zd173_17 zs173 k
theorem b173_18 {x : zXs} {F : zF} (hF : zSh F) {d : Nat} {V : Nat → Nat → Int32} {T : Nat → Nat → Int64} {Q : Option Value → zG → Prop} {o0 : Option Value} {o1 : Option Value} {o2 : Option Value} {o3 : Option Value}   (k : E x F d 173 20 [o0, o1, o2, some (.int (Int32.ofInt 0))] [] (V, T) Q) : E x F d 173 18 [o0, o1, o2, o3] [] (V, T) Q := by
  refine e_iconst zd173_18 ?_
  refine e_istore_n zd173_19 (by decide +kernel) (Nat.le_of_ble_eq_true rfl) ?_
  exact k
theorem b173_20 {x : zXs} {F : zF} (hF : zSh F) {d : Nat} {V : Nat → Nat → Int32} {T : Nat → Nat → Int64} {Q : Option Value → zG → Prop} {o1 : Option Value} {o2 : Option Value} {l3 : Int32}   (kt : (V 59 12) ≤ l3 → E x F d 173 46 [some (.ref 59), o1, o2, some (.int l3)] [] (V, T) Q) (kf : ¬ ((V 59 12) ≤ l3) → E x F d 173 28 [some (.ref 59), o1, o2, some (.int l3)] [] (V, T) Q) : E x F d 173 20 [some (.ref 59), o1, o2, some (.int l3)] [] (V, T) Q := by
  refine e_iload_n zd173_20 rfl ?_
  refine e_aload_n zd173_21 rfl rfl ?_
  refine e_getI zd173_22 (own := 8) (ci := 8) (kf := 12) (w := 870) (by decide +kernel) (by decide +kernel) (zsh_at hF rfl).1 (by decide +kernel) rfl ?_
  exact e_icmp_ge zd173_25 (tg := 46) rfl kt kf
theorem b173_28 {x : zXs} {F : zF} (hF : zSh F) {d : Nat} {V : Nat → Nat → Int32} {T : Nat → Nat → Int64} {Q : Option Value → zG → Prop} {l1 : Int32} {o2 : Option Value} {l3 : Int32}  {i1 : Nat} (e1 : l3 = nI i1) (h1 : i1 < 5) (k : E x F d 171 0 [some (.ref 59), some (.int (V 70 i1)), some (.int l1), none, none, none, none, none] [] (V, T) (fun r G' => E x F (d + 1) 173 39 [some (.ref 59), some (.int l1), o2, some (.int l3)] (r.toList ++ []) G' Q)) : E x F (d + 1) 173 28 [some (.ref 59), some (.int l1), o2, some (.int l3)] [] (V, T) Q := by
  refine e_aload_n zd173_28 rfl rfl ?_
  refine e_aload_n zd173_29 rfl rfl ?_
  refine e_getA zd173_30 (own := 8) (ci := 8) (kf := 31) (w := 889) (by decide +kernel) (by decide +kernel) (zsh_at hF rfl).1 (by decide +kernel) rfl (zrf_at hF (i := 69) rfl) ?_
  refine e_iload_n zd173_33 rfl ?_
  refine e_iald zd173_34 (i := i1) (zsh_at hF rfl) e1 h1 (by omega) ?_
  refine e_iload_n zd173_35 rfl ?_
  exact e_callV zd173_36 (own := 8) (nest := false) (w := 1174) (by decide +kernel) (by decide +kernel) zs171 (as := [.int (V 70 i1), .int l1]) (rest := []) rfl rfl (zsh_at hF rfl).1 (by omega) (Nat.le_of_ble_eq_true rfl) rfl rfl rfl (by omega) k
theorem b173_39 {x : zXs} {F : zF} (hF : zSh F) {d : Nat} {V : Nat → Nat → Int32} {T : Nat → Nat → Int64} {Q : Option Value → zG → Prop} {o0 : Option Value} {o1 : Option Value} {o2 : Option Value} {l3 : Int32} {s0 : Int32}   (k : E x F d 173 20 [o0, o1, o2, some (.int (l3 + Int32.ofInt 1))] [] (V, T) Q) : E x F d 173 39 [o0, o1, o2, some (.int l3)] [.int s0] (V, T) Q := by
  refine e_pop zd173_39 rfl ?_
  refine e_iinc zd173_40 rfl (by decide +kernel) ?_
  exact e_goto zd173_43 (tg := 20) rfl k
theorem b173_46 {x : zXs} {F : zF} (hF : zSh F) {d : Nat} {V : Nat → Nat → Int32} {T : Nat → Nat → Int64} {Q : Option Value → zG → Prop} {l1 : Int32} {o2 : Option Value} {o3 : Option Value}   (k : E x F d 133 0 [some (.ref 59), some (.int l1)] [] (V, T) (fun r G' => E x F (d + 1) 173 51 [some (.ref 59), some (.int l1), o2, o3] (r.toList ++ []) G' Q)) : E x F (d + 1) 173 46 [some (.ref 59), some (.int l1), o2, o3] [] (V, T) Q := by
  refine e_aload_n zd173_46 rfl rfl ?_
  refine e_iload_n zd173_47 rfl ?_
  exact e_callV zd173_48 (own := 8) (nest := false) (w := 1013) (by decide +kernel) (by decide +kernel) zs133 (as := [.int l1]) (rest := []) rfl rfl (zsh_at hF rfl).1 (by omega) (Nat.le_of_ble_eq_true rfl) rfl rfl rfl (by omega) k
theorem b173_51 {x : zXs} {F : zF} (hF : zSh F) {d : Nat} {V : Nat → Nat → Int32} {T : Nat → Nat → Int64} {Q : Option Value → zG → Prop} {o0 : Option Value} {o1 : Option Value} {o2 : Option Value} {o3 : Option Value} {s0 : Int32}   (k : Q (some (.int s0)) (V, T)) : E x F d 173 51 [o0, o1, o2, o3] [.int s0] (V, T) Q := by
  exact e_ireti zd173_51 zs173 k
theorem zd174_0 : zop 174 0 = some (.iconst 0, 1) := by decide +kernel
theorem zd174_1 : zop 174 1 = some (.istore_n 2, 1) := by decide +kernel
theorem zd174_2 : zop 174 2 = some (.iload_n 1, 1) := by decide +kernel
theorem zd174_3 : zop 174 3 = some (.istore_n 3, 1) := by decide +kernel
theorem zd174_4 : zop 174 4 = some (.aload_n 0, 1) := by decide +kernel
theorem zd174_5 : zop 174 5 = some (.getfield 88, 3) := by decide +kernel
theorem zd174_8 : zop 174 8 = some (.iconst 1, 1) := by decide +kernel
theorem zd174_9 : zop 174 9 = some (.isub, 1) := by decide +kernel
theorem zd174_10 : zop 174 10 = some (.istore 4, 2) := by decide +kernel
theorem zd174_12 : zop 174 12 = some (.iload 4, 2) := by decide +kernel
theorem zd174_14 : zop 174 14 = some (.ifCond .lt 59, 3) := by decide +kernel
theorem zd174_17 : zop 174 17 = some (.aload_n 0, 1) := by decide +kernel
theorem zd174_18 : zop 174 18 = some (.getfield 44, 3) := by decide +kernel
theorem zd174_21 : zop 174 21 = some (.iload 4, 2) := by decide +kernel
theorem zd174_23 : zop 174 23 = some (.iload_n 3, 1) := by decide +kernel
theorem zd174_24 : zop 174 24 = some (.bipush 10, 2) := by decide +kernel
theorem zd174_26 : zop 174 26 = some (.irem, 1) := by decide +kernel
theorem zd174_27 : zop 174 27 = some (.iconst 1, 1) := by decide +kernel
theorem zd174_28 : zop 174 28 = some (.isub, 1) := by decide +kernel
theorem zd174_29 : zop 174 29 = some (.iastore, 1) := by decide +kernel
theorem zd174_30 : zop 174 30 = some (.iload_n 3, 1) := by decide +kernel
theorem zd174_31 : zop 174 31 = some (.bipush 10, 2) := by decide +kernel
theorem zd174_33 : zop 174 33 = some (.idiv, 1) := by decide +kernel
theorem zd174_34 : zop 174 34 = some (.istore_n 3, 1) := by decide +kernel
theorem zd174_35 : zop 174 35 = some (.iload_n 1, 1) := by decide +kernel
theorem zd174_36 : zop 174 36 = some (.ifCond .lt 17, 3) := by decide +kernel
theorem zd174_39 : zop 174 39 = some (.aload_n 0, 1) := by decide +kernel
theorem zd174_40 : zop 174 40 = some (.aload_n 0, 1) := by decide +kernel
theorem zd174_41 : zop 174 41 = some (.getfield 44, 3) := by decide +kernel
theorem zd174_44 : zop 174 44 = some (.iload 4, 2) := by decide +kernel
theorem zd174_46 : zop 174 46 = some (.iaload, 1) := by decide +kernel
theorem zd174_47 : zop 174 47 = some (.invokevirtual 112, 3) := by decide +kernel
theorem zd174_50 : zop 174 50 = some (.ifCond .ne 5, 3) := by decide +kernel
theorem zd174_53 : zop 174 53 = some (.iconst 0, 1) := by decide +kernel
theorem zd174_54 : zop 174 54 = some (.ireturn, 1) := by decide +kernel
theorem zd174_55 : zop 174 55 = some (.iload_n 2, 1) := by decide +kernel
theorem zd174_56 : zop 174 56 = some (.iconst 1, 1) := by decide +kernel
theorem zd174_57 : zop 174 57 = some (.aload_n 0, 1) := by decide +kernel
theorem zd174_58 : zop 174 58 = some (.getfield 44, 3) := by decide +kernel
theorem zd174_61 : zop 174 61 = some (.iload 4, 2) := by decide +kernel
theorem zd174_63 : zop 174 63 = some (.iaload, 1) := by decide +kernel
theorem zd174_64 : zop 174 64 = some (.ishl, 1) := by decide +kernel
theorem zd174_65 : zop 174 65 = some (.ior, 1) := by decide +kernel
theorem zd174_66 : zop 174 66 = some (.istore_n 2, 1) := by decide +kernel
theorem zd174_67 : zop 174 67 = some (.iinc 4 (-1), 3) := by decide +kernel
theorem zd174_70 : zop 174 70 = some (.goto (-58), 3) := by decide +kernel
theorem zd174_73 : zop 174 73 = some (.iload_n 3, 1) := by decide +kernel
theorem zd174_74 : zop 174 74 = some (.ifCond .ne 19, 3) := by decide +kernel
theorem zd174_77 : zop 174 77 = some (.iload_n 2, 1) := by decide +kernel
theorem zd174_78 : zop 174 78 = some (.iconst 1, 1) := by decide +kernel
theorem zd174_79 : zop 174 79 = some (.aload_n 0, 1) := by decide +kernel
theorem zd174_80 : zop 174 80 = some (.getfield 88, 3) := by decide +kernel
theorem zd174_83 : zop 174 83 = some (.ishl, 1) := by decide +kernel
theorem zd174_84 : zop 174 84 = some (.iconst 1, 1) := by decide +kernel
theorem zd174_85 : zop 174 85 = some (.isub, 1) := by decide +kernel
theorem zd174_86 : zop 174 86 = some (.if_icmp .ne 7, 3) := by decide +kernel
theorem zd174_89 : zop 174 89 = some (.iconst 1, 1) := by decide +kernel
theorem zd174_90 : zop 174 90 = some (.goto 4, 3) := by decide +kernel
theorem zd174_93 : zop 174 93 = some (.iconst 0, 1) := by decide +kernel
theorem zd174_94 : zop 174 94 = some (.ireturn, 1) := by decide +kernel
theorem b174_0 {x : zXs} {F : zF} (hF : zSh F) {d : Nat} {V : Nat → Nat → Int32} {T : Nat → Nat → Int64} {Q : Option Value → zG → Prop} {l1 : Int32} {o2 : Option Value} {o3 : Option Value} {o4 : Option Value}   (k : E x F d 174 12 [some (.ref 59), some (.int l1), some (.int (Int32.ofInt 0)), some (.int l1), some (.int ((V 59 12) - (Int32.ofInt 1)))] [] (V, T) Q) : E x F d 174 0 [some (.ref 59), some (.int l1), o2, o3, o4] [] (V, T) Q := by
  refine e_iconst zd174_0 ?_
  refine e_istore_n zd174_1 (by decide +kernel) (Nat.le_of_ble_eq_true rfl) ?_
  refine e_iload_n zd174_2 rfl ?_
  refine e_istore_n zd174_3 (by decide +kernel) (Nat.le_of_ble_eq_true rfl) ?_
  refine e_aload_n zd174_4 rfl rfl ?_
  refine e_getI zd174_5 (own := 8) (ci := 8) (kf := 12) (w := 870) (by decide +kernel) (by decide +kernel) (zsh_at hF rfl).1 (by decide +kernel) rfl ?_
  refine e_iconst zd174_8 ?_
  refine e_isub zd174_9 ?_
  refine e_istore zd174_10 (by decide +kernel) (Nat.le_of_ble_eq_true rfl) ?_
  exact k
theorem b174_12 {x : zXs} {F : zF} (hF : zSh F) {d : Nat} {V : Nat → Nat → Int32} {T : Nat → Nat → Int64} {Q : Option Value → zG → Prop} {o0 : Option Value} {o1 : Option Value} {o2 : Option Value} {o3 : Option Value} {l4 : Int32}   (kt : l4 < 0 → E x F d 174 73 [o0, o1, o2, o3, some (.int l4)] [] (V, T) Q) (kf : ¬ (l4 < 0) → E x F d 174 17 [o0, o1, o2, o3, some (.int l4)] [] (V, T) Q) : E x F d 174 12 [o0, o1, o2, o3, some (.int l4)] [] (V, T) Q := by
  refine e_iload zd174_12 rfl ?_
  exact e_if_lt zd174_14 (tg := 73) rfl kt kf
theorem b174_17 {x : zXs} {F : zF} (hF : zSh F) {d : Nat} {V : Nat → Nat → Int32} {T : Nat → Nat → Int64} {Q : Option Value → zG → Prop} {l1 : Int32} {o2 : Option Value} {l3 : Int32} {l4 : Int32}  {i1 : Nat} (e1 : l4 = nI i1) (h1 : i1 < 5) (kt : l1 < 0 → E x F d 174 53 [some (.ref 59), some (.int l1), o2, some (.int (l3 / (Int32.ofInt 10))), some (.int l4)] [] (zu V 70 i1 ((l3 - l3 / (Int32.ofInt 10) * (Int32.ofInt 10)) - (Int32.ofInt 1)), T) Q) (kf : ¬ (l1 < 0) → E x F d 174 39 [some (.ref 59), some (.int l1), o2, some (.int (l3 / (Int32.ofInt 10))), some (.int l4)] [] (zu V 70 i1 ((l3 - l3 / (Int32.ofInt 10) * (Int32.ofInt 10)) - (Int32.ofInt 1)), T) Q) : E x F d 174 17 [some (.ref 59), some (.int l1), o2, some (.int l3), some (.int l4)] [] (V, T) Q := by
  refine e_aload_n zd174_17 rfl rfl ?_
  refine e_getA zd174_18 (own := 8) (ci := 8) (kf := 31) (w := 889) (by decide +kernel) (by decide +kernel) (zsh_at hF rfl).1 (by decide +kernel) rfl (zrf_at hF (i := 69) rfl) ?_
  refine e_iload zd174_21 rfl ?_
  refine e_iload_n zd174_23 rfl ?_
  refine e_bipush zd174_24 (v := Int32.ofInt 10) (by decide +kernel) ?_
  refine e_irem zd174_26 (by decide +kernel) ?_
  refine e_iconst zd174_27 ?_
  refine e_isub zd174_28 ?_
  refine e_iast zd174_29 (i := i1) (zsh_at hF rfl) e1 h1 (by omega) ?_
  refine e_iload_n zd174_30 rfl ?_
  refine e_bipush zd174_31 (v := Int32.ofInt 10) (by decide +kernel) ?_
  refine e_idiv zd174_33 (by decide +kernel) ?_
  refine e_istore_n zd174_34 (by decide +kernel) (Nat.le_of_ble_eq_true rfl) ?_
  refine e_iload_n zd174_35 rfl ?_
  exact e_if_lt zd174_36 (tg := 53) rfl kt kf
theorem b174_39 {x : zXs} {F : zF} (hF : zSh F) {d : Nat} {V : Nat → Nat → Int32} {T : Nat → Nat → Int64} {Q : Option Value → zG → Prop} {o1 : Option Value} {o2 : Option Value} {o3 : Option Value} {l4 : Int32}  {i1 : Nat} (e1 : l4 = nI i1) (h1 : i1 < 5) (k : E x F d 136 0 [some (.ref 59), some (.int (V 70 i1))] [] (V, T) (fun r G' => E x F (d + 1) 174 50 [some (.ref 59), o1, o2, o3, some (.int l4)] (r.toList ++ []) G' Q)) : E x F (d + 1) 174 39 [some (.ref 59), o1, o2, o3, some (.int l4)] [] (V, T) Q := by
  refine e_aload_n zd174_39 rfl rfl ?_
  refine e_aload_n zd174_40 rfl rfl ?_
  refine e_getA zd174_41 (own := 8) (ci := 8) (kf := 31) (w := 889) (by decide +kernel) (by decide +kernel) (zsh_at hF rfl).1 (by decide +kernel) rfl (zrf_at hF (i := 69) rfl) ?_
  refine e_iload zd174_44 rfl ?_
  refine e_iald zd174_46 (i := i1) (zsh_at hF rfl) e1 h1 (by omega) ?_
  exact e_callV zd174_47 (own := 8) (nest := false) (w := 1025) (by decide +kernel) (by decide +kernel) zs136 (as := [.int (V 70 i1)]) (rest := []) rfl rfl (zsh_at hF rfl).1 (by omega) (Nat.le_of_ble_eq_true rfl) rfl rfl rfl (by omega) k
theorem b174_50 {x : zXs} {F : zF} (hF : zSh F) {d : Nat} {V : Nat → Nat → Int32} {T : Nat → Nat → Int64} {Q : Option Value → zG → Prop} {o0 : Option Value} {o1 : Option Value} {o2 : Option Value} {o3 : Option Value} {o4 : Option Value} {s0 : Int32}   (kt : ¬ s0 = 0 → E x F d 174 55 [o0, o1, o2, o3, o4] [] (V, T) Q) (kf : ¬ (¬ s0 = 0) → E x F d 174 53 [o0, o1, o2, o3, o4] [] (V, T) Q) : E x F d 174 50 [o0, o1, o2, o3, o4] [.int s0] (V, T) Q := by
  exact e_if_ne zd174_50 (tg := 55) rfl kt kf
theorem b174_53 {x : zXs} {F : zF} (hF : zSh F) {d : Nat} {V : Nat → Nat → Int32} {T : Nat → Nat → Int64} {Q : Option Value → zG → Prop} {o0 : Option Value} {o1 : Option Value} {o2 : Option Value} {o3 : Option Value} {o4 : Option Value}   (k : Q (some (.int (Int32.ofInt 0))) (V, T)) : E x F d 174 53 [o0, o1, o2, o3, o4] [] (V, T) Q := by
  refine e_iconst zd174_53 ?_
  exact e_iretz zd174_54 zs174 (by decide +kernel) k
theorem b174_55 {x : zXs} {F : zF} (hF : zSh F) {d : Nat} {V : Nat → Nat → Int32} {T : Nat → Nat → Int64} {Q : Option Value → zG → Prop} {o1 : Option Value} {l2 : Int32} {o3 : Option Value} {l4 : Int32}  {i1 : Nat} (e1 : l4 = nI i1) (h1 : i1 < 5) (k : E x F d 174 12 [some (.ref 59), o1, some (.int (l2 ||| ((Int32.ofInt 1) <<< ((V 70 i1) &&& 31)))), o3, some (.int (l4 + Int32.ofInt (-1)))] [] (V, T) Q) : E x F d 174 55 [some (.ref 59), o1, some (.int l2), o3, some (.int l4)] [] (V, T) Q := by
  refine e_iload_n zd174_55 rfl ?_
  refine e_iconst zd174_56 ?_
  refine e_aload_n zd174_57 rfl rfl ?_
  refine e_getA zd174_58 (own := 8) (ci := 8) (kf := 31) (w := 889) (by decide +kernel) (by decide +kernel) (zsh_at hF rfl).1 (by decide +kernel) rfl (zrf_at hF (i := 69) rfl) ?_
  refine e_iload zd174_61 rfl ?_
  refine e_iald zd174_63 (i := i1) (zsh_at hF rfl) e1 h1 (by omega) ?_
  refine e_ishl zd174_64 ?_
  refine e_ior zd174_65 ?_
  refine e_istore_n zd174_66 (by decide +kernel) (Nat.le_of_ble_eq_true rfl) ?_
  refine e_iinc zd174_67 rfl (by decide +kernel) ?_
  exact e_goto zd174_70 (tg := 12) rfl k
theorem b174_73 {x : zXs} {F : zF} (hF : zSh F) {d : Nat} {V : Nat → Nat → Int32} {T : Nat → Nat → Int64} {Q : Option Value → zG → Prop} {o0 : Option Value} {o1 : Option Value} {o2 : Option Value} {l3 : Int32} {o4 : Option Value}   (kt : ¬ l3 = 0 → E x F d 174 93 [o0, o1, o2, some (.int l3), o4] [] (V, T) Q) (kf : ¬ (¬ l3 = 0) → E x F d 174 77 [o0, o1, o2, some (.int l3), o4] [] (V, T) Q) : E x F d 174 73 [o0, o1, o2, some (.int l3), o4] [] (V, T) Q := by
  refine e_iload_n zd174_73 rfl ?_
  exact e_if_ne zd174_74 (tg := 93) rfl kt kf
theorem b174_77 {x : zXs} {F : zF} (hF : zSh F) {d : Nat} {V : Nat → Nat → Int32} {T : Nat → Nat → Int64} {Q : Option Value → zG → Prop} {o1 : Option Value} {l2 : Int32} {o3 : Option Value} {o4 : Option Value}   (kt : ¬ l2 = (((Int32.ofInt 1) <<< ((V 59 12) &&& 31)) - (Int32.ofInt 1)) → E x F d 174 93 [some (.ref 59), o1, some (.int l2), o3, o4] [] (V, T) Q) (kf : ¬ (¬ l2 = (((Int32.ofInt 1) <<< ((V 59 12) &&& 31)) - (Int32.ofInt 1))) → E x F d 174 89 [some (.ref 59), o1, some (.int l2), o3, o4] [] (V, T) Q) : E x F d 174 77 [some (.ref 59), o1, some (.int l2), o3, o4] [] (V, T) Q := by
  refine e_iload_n zd174_77 rfl ?_
  refine e_iconst zd174_78 ?_
  refine e_aload_n zd174_79 rfl rfl ?_
  refine e_getI zd174_80 (own := 8) (ci := 8) (kf := 12) (w := 870) (by decide +kernel) (by decide +kernel) (zsh_at hF rfl).1 (by decide +kernel) rfl ?_
  refine e_ishl zd174_83 ?_
  refine e_iconst zd174_84 ?_
  refine e_isub zd174_85 ?_
  exact e_icmp_ne zd174_86 (tg := 93) rfl kt kf
theorem b174_89 {x : zXs} {F : zF} (hF : zSh F) {d : Nat} {V : Nat → Nat → Int32} {T : Nat → Nat → Int64} {Q : Option Value → zG → Prop} {o0 : Option Value} {o1 : Option Value} {o2 : Option Value} {o3 : Option Value} {o4 : Option Value}   (k : E x F d 174 94 [o0, o1, o2, o3, o4] [.int (Int32.ofInt 1)] (V, T) Q) : E x F d 174 89 [o0, o1, o2, o3, o4] [] (V, T) Q := by
  refine e_iconst zd174_89 ?_
  exact e_goto zd174_90 (tg := 94) rfl k
theorem b174_93 {x : zXs} {F : zF} (hF : zSh F) {d : Nat} {V : Nat → Nat → Int32} {T : Nat → Nat → Int64} {Q : Option Value → zG → Prop} {o0 : Option Value} {o1 : Option Value} {o2 : Option Value} {o3 : Option Value} {o4 : Option Value}   (k : E x F d 174 94 [o0, o1, o2, o3, o4] [.int (Int32.ofInt 0)] (V, T) Q) : E x F d 174 93 [o0, o1, o2, o3, o4] [] (V, T) Q := by
  refine e_iconst zd174_93 ?_
  exact k
theorem b174_94 {x : zXs} {F : zF} (hF : zSh F) {d : Nat} {V : Nat → Nat → Int32} {T : Nat → Nat → Int64} {Q : Option Value → zG → Prop} {o0 : Option Value} {o1 : Option Value} {o2 : Option Value} {o3 : Option Value} {o4 : Option Value} {s0 : Int32}  (b1 : narrow .boolean (.int s0) = .int s0) (k : Q (some (.int s0)) (V, T)) : E x F d 174 94 [o0, o1, o2, o3, o4] [.int s0] (V, T) Q := by
  exact e_iretz zd174_94 zs174 b1 k
theorem zd175_0 : zop 175 0 = some (.aload_n 0, 1) := by decide +kernel
theorem zd175_1 : zop 175 1 = some (.getfield 126, 3) := by decide +kernel
theorem zd175_4 : zop 175 4 = some (.sipush 999, 3) := by decide +kernel
theorem zd175_7 : zop 175 7 = some (.if_icmp .ne 6, 3) := by decide +kernel
theorem zd175_10 : zop 175 10 = some (.bipush (-3), 2) := by decide +kernel
theorem zd175_12 : zop 175 12 = some (.ireturn, 1) := by decide +kernel
theorem zd175_13 : zop 175 13 = some (.aload_n 0, 1) := by decide +kernel
theorem zd175_14 : zop 175 14 = some (.invokevirtual 291, 3) := by decide +kernel
theorem zd175_17 : zop 175 17 = some (.aload_n 0, 1) := by decide +kernel
theorem zd175_18 : zop 175 18 = some (.invokevirtual 294, 3) := by decide +kernel
theorem zd175_21 : zop 175 21 = some (.ireturn, 1) := by decide +kernel
theorem b175_0 {x : zXs} {F : zF} (hF : zSh F) {d : Nat} {V : Nat → Nat → Int32} {T : Nat → Nat → Int64} {Q : Option Value → zG → Prop}    (kt : ¬ (V 59 7) = (Int32.ofInt 999) → E x F d 175 13 [some (.ref 59)] [] (V, T) Q) (kf : ¬ (¬ (V 59 7) = (Int32.ofInt 999)) → E x F d 175 10 [some (.ref 59)] [] (V, T) Q) : E x F d 175 0 [some (.ref 59)] [] (V, T) Q := by
  refine e_aload_n zd175_0 rfl rfl ?_
  refine e_getI zd175_1 (own := 8) (ci := 8) (kf := 7) (w := 865) (by decide +kernel) (by decide +kernel) (zsh_at hF rfl).1 (by decide +kernel) rfl ?_
  refine e_sipush zd175_4 (v := Int32.ofInt 999) (by decide +kernel) ?_
  exact e_icmp_ne zd175_7 (tg := 13) rfl kt kf
theorem b175_10 {x : zXs} {F : zF} (hF : zSh F) {d : Nat} {V : Nat → Nat → Int32} {T : Nat → Nat → Int64} {Q : Option Value → zG → Prop} {o0 : Option Value}   (k : Q (some (.int (Int32.ofInt (-3)))) (V, T)) : E x F d 175 10 [o0] [] (V, T) Q := by
  refine e_bipush zd175_10 (v := Int32.ofInt (-3)) (by decide +kernel) ?_
  exact e_ireti zd175_12 zs175 k
theorem b175_13 {x : zXs} {F : zF} (hF : zSh F) {d : Nat} {V : Nat → Nat → Int32} {T : Nat → Nat → Int64} {Q : Option Value → zG → Prop}    (k : E x F d 176 0 [some (.ref 59), none] [] (V, T) (fun r G' => E x F (d + 1) 175 17 [some (.ref 59)] (r.toList ++ []) G' Q)) : E x F (d + 1) 175 13 [some (.ref 59)] [] (V, T) Q := by
  refine e_aload_n zd175_13 rfl rfl ?_
  exact e_callV zd175_14 (own := 8) (nest := false) (w := 1194) (by decide +kernel) (by decide +kernel) zs176 (as := []) (rest := []) rfl rfl (zsh_at hF rfl).1 (by omega) (Nat.le_of_ble_eq_true rfl) rfl rfl rfl (by omega) k
theorem b175_17 {x : zXs} {F : zF} (hF : zSh F) {d : Nat} {V : Nat → Nat → Int32} {T : Nat → Nat → Int64} {Q : Option Value → zG → Prop}    (k : E x F d 177 0 [some (.ref 59)] [] (V, T) (fun r G' => E x F (d + 1) 175 21 [some (.ref 59)] (r.toList ++ []) G' Q)) : E x F (d + 1) 175 17 [some (.ref 59)] [] (V, T) Q := by
  refine e_aload_n zd175_17 rfl rfl ?_
  exact e_callV zd175_18 (own := 8) (nest := false) (w := 1198) (by decide +kernel) (by decide +kernel) zs177 (as := []) (rest := []) rfl rfl (zsh_at hF rfl).1 (by omega) (Nat.le_of_ble_eq_true rfl) rfl rfl rfl (by omega) k
theorem b175_21 {x : zXs} {F : zF} (hF : zSh F) {d : Nat} {V : Nat → Nat → Int32} {T : Nat → Nat → Int64} {Q : Option Value → zG → Prop} {o0 : Option Value} {s0 : Int32}   (k : Q (some (.int s0)) (V, T)) : E x F d 175 21 [o0] [.int s0] (V, T) Q := by
  exact e_ireti zd175_21 zs175 k
theorem zd176_0 : zop 176 0 = some (.iconst 0, 1) := by decide +kernel
theorem zd176_1 : zop 176 1 = some (.istore_n 1, 1) := by decide +kernel
theorem zd176_2 : zop 176 2 = some (.iload_n 1, 1) := by decide +kernel
theorem zd176_3 : zop 176 3 = some (.aload_n 0, 1) := by decide +kernel
theorem zd176_4 : zop 176 4 = some (.getfield 88, 3) := by decide +kernel
theorem zd176_7 : zop 176 7 = some (.if_icmp .ge 20, 3) := by decide +kernel
theorem zd176_10 : zop 176 10 = some (.aload_n 0, 1) := by decide +kernel
theorem zd176_11 : zop 176 11 = some (.getfield 47, 3) := by decide +kernel
theorem zd176_14 : zop 176 14 = some (.iload_n 1, 1) := by decide +kernel
theorem zd176_15 : zop 176 15 = some (.aload_n 0, 1) := by decide +kernel
theorem zd176_16 : zop 176 16 = some (.iload_n 1, 1) := by decide +kernel
theorem zd176_17 : zop 176 17 = some (.invokevirtual 138, 3) := by decide +kernel
theorem zd176_20 : zop 176 20 = some (.iastore, 1) := by decide +kernel
theorem zd176_21 : zop 176 21 = some (.iinc 1 1, 3) := by decide +kernel
theorem zd176_24 : zop 176 24 = some (.goto (-22), 3) := by decide +kernel
theorem zd176_27 : zop 176 27 = some (.iconst 0, 1) := by decide +kernel
theorem zd176_28 : zop 176 28 = some (.istore_n 1, 1) := by decide +kernel
theorem zd176_29 : zop 176 29 = some (.iload_n 1, 1) := by decide +kernel
theorem zd176_30 : zop 176 30 = some (.iconst 4, 1) := by decide +kernel
theorem zd176_31 : zop 176 31 = some (.if_icmp .ge 20, 3) := by decide +kernel
theorem zd176_34 : zop 176 34 = some (.aload_n 0, 1) := by decide +kernel
theorem zd176_35 : zop 176 35 = some (.getfield 50, 3) := by decide +kernel
theorem zd176_38 : zop 176 38 = some (.iload_n 1, 1) := by decide +kernel
theorem zd176_39 : zop 176 39 = some (.aload_n 0, 1) := by decide +kernel
theorem zd176_40 : zop 176 40 = some (.iload_n 1, 1) := by decide +kernel
theorem zd176_41 : zop 176 41 = some (.invokevirtual 147, 3) := by decide +kernel
theorem zd176_44 : zop 176 44 = some (.iastore, 1) := by decide +kernel
theorem zd176_45 : zop 176 45 = some (.iinc 1 1, 3) := by decide +kernel
theorem zd176_48 : zop 176 48 = some (.goto (-19), 3) := by decide +kernel
theorem zd176_51 : zop 176 51 = some (.iconst 0, 1) := by decide +kernel
theorem zd176_52 : zop 176 52 = some (.istore_n 1, 1) := by decide +kernel
theorem zd176_53 : zop 176 53 = some (.iload_n 1, 1) := by decide +kernel
theorem zd176_54 : zop 176 54 = some (.aload_n 0, 1) := by decide +kernel
theorem zd176_55 : zop 176 55 = some (.getfield 88, 3) := by decide +kernel
theorem zd176_58 : zop 176 58 = some (.if_icmp .ge 25, 3) := by decide +kernel
theorem zd176_61 : zop 176 61 = some (.aload_n 0, 1) := by decide +kernel
theorem zd176_62 : zop 176 62 = some (.getfield 32, 3) := by decide +kernel
theorem zd176_65 : zop 176 65 = some (.iconst 2, 1) := by decide +kernel
theorem zd176_66 : zop 176 66 = some (.iload_n 1, 1) := by decide +kernel
theorem zd176_67 : zop 176 67 = some (.imul, 1) := by decide +kernel
theorem zd176_68 : zop 176 68 = some (.iconst 1, 1) := by decide +kernel
theorem zd176_69 : zop 176 69 = some (.iadd, 1) := by decide +kernel
theorem zd176_70 : zop 176 70 = some (.aload_n 0, 1) := by decide +kernel
theorem zd176_71 : zop 176 71 = some (.getfield 47, 3) := by decide +kernel
theorem zd176_74 : zop 176 74 = some (.iload_n 1, 1) := by decide +kernel
theorem zd176_75 : zop 176 75 = some (.iaload, 1) := by decide +kernel
theorem zd176_76 : zop 176 76 = some (.iastore, 1) := by decide +kernel
theorem zd176_77 : zop 176 77 = some (.iinc 1 1, 3) := by decide +kernel
theorem zd176_80 : zop 176 80 = some (.goto (-27), 3) := by decide +kernel
theorem zd176_83 : zop 176 83 = some (.iconst 0, 1) := by decide +kernel
theorem zd176_84 : zop 176 84 = some (.istore_n 1, 1) := by decide +kernel
theorem zd176_85 : zop 176 85 = some (.iload_n 1, 1) := by decide +kernel
theorem zd176_86 : zop 176 86 = some (.iconst 4, 1) := by decide +kernel
theorem zd176_87 : zop 176 87 = some (.if_icmp .ge 34, 3) := by decide +kernel
theorem zd176_90 : zop 176 90 = some (.aload_n 0, 1) := by decide +kernel
theorem zd176_91 : zop 176 91 = some (.getfield 26, 3) := by decide +kernel
theorem zd176_94 : zop 176 94 = some (.iload_n 1, 1) := by decide +kernel
theorem zd176_95 : zop 176 95 = some (.aload_n 0, 1) := by decide +kernel
theorem zd176_96 : zop 176 96 = some (.getfield 26, 3) := by decide +kernel
theorem zd176_99 : zop 176 99 = some (.iload_n 1, 1) := by decide +kernel
theorem zd176_100 : zop 176 100 = some (.iaload, 1) := by decide +kernel
theorem zd176_101 : zop 176 101 = some (.aload_n 0, 1) := by decide +kernel
theorem zd176_102 : zop 176 102 = some (.getfield 50, 3) := by decide +kernel
theorem zd176_105 : zop 176 105 = some (.iload_n 1, 1) := by decide +kernel
theorem zd176_106 : zop 176 106 = some (.iaload, 1) := by decide +kernel
theorem zd176_107 : zop 176 107 = some (.iadd, 1) := by decide +kernel
theorem zd176_108 : zop 176 108 = some (.iconst 0, 1) := by decide +kernel
theorem zd176_109 : zop 176 109 = some (.bipush 24, 2) := by decide +kernel
theorem zd176_111 : zop 176 111 = some (.invokestatic 267, 3) := by decide +kernel
theorem zd176_114 : zop 176 114 = some (.iastore, 1) := by decide +kernel
theorem zd176_115 : zop 176 115 = some (.iinc 1 1, 3) := by decide +kernel
theorem zd176_118 : zop 176 118 = some (.goto (-33), 3) := by decide +kernel
theorem zd176_121 : zop 176 121 = some (.aload_n 0, 1) := by decide +kernel
theorem zd176_122 : zop 176 122 = some (.dup, 1) := by decide +kernel
theorem zd176_123 : zop 176 123 = some (.getfield 126, 3) := by decide +kernel
theorem zd176_126 : zop 176 126 = some (.iconst 1, 1) := by decide +kernel
theorem zd176_127 : zop 176 127 = some (.iadd, 1) := by decide +kernel
theorem zd176_128 : zop 176 128 = some (.putfield 126, 3) := by decide +kernel
theorem zd176_131 : zop 176 131 = some (.return_, 1) := by decide +kernel
theorem b176_0 {x : zXs} {F : zF} (hF : zSh F) {d : Nat} {V : Nat → Nat → Int32} {T : Nat → Nat → Int64} {Q : Option Value → zG → Prop} {o0 : Option Value} {o1 : Option Value}   (k : E x F d 176 2 [o0, some (.int (Int32.ofInt 0))] [] (V, T) Q) : E x F d 176 0 [o0, o1] [] (V, T) Q := by
  refine e_iconst zd176_0 ?_
  refine e_istore_n zd176_1 (by decide +kernel) (Nat.le_of_ble_eq_true rfl) ?_
  exact k
theorem b176_2 {x : zXs} {F : zF} (hF : zSh F) {d : Nat} {V : Nat → Nat → Int32} {T : Nat → Nat → Int64} {Q : Option Value → zG → Prop} {l1 : Int32}   (kt : (V 59 12) ≤ l1 → E x F d 176 27 [some (.ref 59), some (.int l1)] [] (V, T) Q) (kf : ¬ ((V 59 12) ≤ l1) → E x F d 176 10 [some (.ref 59), some (.int l1)] [] (V, T) Q) : E x F d 176 2 [some (.ref 59), some (.int l1)] [] (V, T) Q := by
  refine e_iload_n zd176_2 rfl ?_
  refine e_aload_n zd176_3 rfl rfl ?_
  refine e_getI zd176_4 (own := 8) (ci := 8) (kf := 12) (w := 870) (by decide +kernel) (by decide +kernel) (zsh_at hF rfl).1 (by decide +kernel) rfl ?_
  exact e_icmp_ge zd176_7 (tg := 27) rfl kt kf
theorem b176_10 {x : zXs} {F : zF} (hF : zSh F) {d : Nat} {V : Nat → Nat → Int32} {T : Nat → Nat → Int64} {Q : Option Value → zG → Prop} {l1 : Int32}   (k : E x F d 139 0 [some (.ref 59), some (.int l1), none, none, none, none] [] (V, T) (fun r G' => E x F (d + 1) 176 20 [some (.ref 59), some (.int l1)] (r.toList ++ [.int l1, .ref 71]) G' Q)) : E x F (d + 1) 176 10 [some (.ref 59), some (.int l1)] [] (V, T) Q := by
  refine e_aload_n zd176_10 rfl rfl ?_
  refine e_getA zd176_11 (own := 8) (ci := 8) (kf := 32) (w := 890) (by decide +kernel) (by decide +kernel) (zsh_at hF rfl).1 (by decide +kernel) rfl (zrf_at hF (i := 70) rfl) ?_
  refine e_iload_n zd176_14 rfl ?_
  refine e_aload_n zd176_15 rfl rfl ?_
  refine e_iload_n zd176_16 rfl ?_
  exact e_callV zd176_17 (own := 8) (nest := false) (w := 1037) (by decide +kernel) (by decide +kernel) zs139 (as := [.int l1]) (rest := [.int l1, .ref 71]) rfl rfl (zsh_at hF rfl).1 (by omega) (Nat.le_of_ble_eq_true rfl) rfl rfl rfl (by omega) k
theorem b176_20 {x : zXs} {F : zF} (hF : zSh F) {d : Nat} {V : Nat → Nat → Int32} {T : Nat → Nat → Int64} {Q : Option Value → zG → Prop} {o0 : Option Value} {l1 : Int32} {s0 : Nat} {ns0 : Nat} {s1 : Int32} {s2 : Int32} (hs0 : zsh F s0 = 100 ∧ zln F s0 = ns0) (qns0 : ns0 < 2 ^ 31) {i1 : Nat} (e1 : s1 = nI i1) (h1 : i1 < ns0) (k : E x F d 176 2 [o0, some (.int (l1 + Int32.ofInt 1))] [] (zu V s0 i1 s2, T) Q) : E x F d 176 20 [o0, some (.int l1)] [.int s2, .int s1, .ref s0] (V, T) Q := by
  refine e_iast zd176_20 (i := i1) (hs0) e1 h1 qns0 ?_
  refine e_iinc zd176_21 rfl (by decide +kernel) ?_
  exact e_goto zd176_24 (tg := 2) rfl k
theorem b176_27 {x : zXs} {F : zF} (hF : zSh F) {d : Nat} {V : Nat → Nat → Int32} {T : Nat → Nat → Int64} {Q : Option Value → zG → Prop} {o0 : Option Value} {o1 : Option Value}   (k : E x F d 176 29 [o0, some (.int (Int32.ofInt 0))] [] (V, T) Q) : E x F d 176 27 [o0, o1] [] (V, T) Q := by
  refine e_iconst zd176_27 ?_
  refine e_istore_n zd176_28 (by decide +kernel) (Nat.le_of_ble_eq_true rfl) ?_
  exact k
theorem b176_29 {x : zXs} {F : zF} (hF : zSh F) {d : Nat} {V : Nat → Nat → Int32} {T : Nat → Nat → Int64} {Q : Option Value → zG → Prop} {o0 : Option Value} {l1 : Int32}   (kt : (Int32.ofInt 4) ≤ l1 → E x F d 176 51 [o0, some (.int l1)] [] (V, T) Q) (kf : ¬ ((Int32.ofInt 4) ≤ l1) → E x F d 176 34 [o0, some (.int l1)] [] (V, T) Q) : E x F d 176 29 [o0, some (.int l1)] [] (V, T) Q := by
  refine e_iload_n zd176_29 rfl ?_
  refine e_iconst zd176_30 ?_
  exact e_icmp_ge zd176_31 (tg := 51) rfl kt kf
theorem b176_34 {x : zXs} {F : zF} (hF : zSh F) {d : Nat} {V : Nat → Nat → Int32} {T : Nat → Nat → Int64} {Q : Option Value → zG → Prop} {l1 : Int32}   (k : E x F d 161 0 [some (.ref 59), some (.int l1)] [] (V, T) (fun r G' => E x F (d + 1) 176 44 [some (.ref 59), some (.int l1)] (r.toList ++ [.int l1, .ref 72]) G' Q)) : E x F (d + 1) 176 34 [some (.ref 59), some (.int l1)] [] (V, T) Q := by
  refine e_aload_n zd176_34 rfl rfl ?_
  refine e_getA zd176_35 (own := 8) (ci := 8) (kf := 33) (w := 891) (by decide +kernel) (by decide +kernel) (zsh_at hF rfl).1 (by decide +kernel) rfl (zrf_at hF (i := 71) rfl) ?_
  refine e_iload_n zd176_38 rfl ?_
  refine e_aload_n zd176_39 rfl rfl ?_
  refine e_iload_n zd176_40 rfl ?_
  exact e_callV zd176_41 (own := 8) (nest := false) (w := 1130) (by decide +kernel) (by decide +kernel) zs161 (as := [.int l1]) (rest := [.int l1, .ref 72]) rfl rfl (zsh_at hF rfl).1 (by omega) (Nat.le_of_ble_eq_true rfl) rfl rfl rfl (by omega) k
theorem b176_44 {x : zXs} {F : zF} (hF : zSh F) {d : Nat} {V : Nat → Nat → Int32} {T : Nat → Nat → Int64} {Q : Option Value → zG → Prop} {o0 : Option Value} {l1 : Int32} {s0 : Nat} {ns0 : Nat} {s1 : Int32} {s2 : Int32} (hs0 : zsh F s0 = 100 ∧ zln F s0 = ns0) (qns0 : ns0 < 2 ^ 31) {i1 : Nat} (e1 : s1 = nI i1) (h1 : i1 < ns0) (k : E x F d 176 29 [o0, some (.int (l1 + Int32.ofInt 1))] [] (zu V s0 i1 s2, T) Q) : E x F d 176 44 [o0, some (.int l1)] [.int s2, .int s1, .ref s0] (V, T) Q := by
  refine e_iast zd176_44 (i := i1) (hs0) e1 h1 qns0 ?_
  refine e_iinc zd176_45 rfl (by decide +kernel) ?_
  exact e_goto zd176_48 (tg := 29) rfl k
theorem b176_51 {x : zXs} {F : zF} (hF : zSh F) {d : Nat} {V : Nat → Nat → Int32} {T : Nat → Nat → Int64} {Q : Option Value → zG → Prop} {o0 : Option Value} {o1 : Option Value}   (k : E x F d 176 53 [o0, some (.int (Int32.ofInt 0))] [] (V, T) Q) : E x F d 176 51 [o0, o1] [] (V, T) Q := by
  refine e_iconst zd176_51 ?_
  refine e_istore_n zd176_52 (by decide +kernel) (Nat.le_of_ble_eq_true rfl) ?_
  exact k
theorem b176_53 {x : zXs} {F : zF} (hF : zSh F) {d : Nat} {V : Nat → Nat → Int32} {T : Nat → Nat → Int64} {Q : Option Value → zG → Prop} {l1 : Int32}   (kt : (V 59 12) ≤ l1 → E x F d 176 83 [some (.ref 59), some (.int l1)] [] (V, T) Q) (kf : ¬ ((V 59 12) ≤ l1) → E x F d 176 61 [some (.ref 59), some (.int l1)] [] (V, T) Q) : E x F d 176 53 [some (.ref 59), some (.int l1)] [] (V, T) Q := by
  refine e_iload_n zd176_53 rfl ?_
  refine e_aload_n zd176_54 rfl rfl ?_
  refine e_getI zd176_55 (own := 8) (ci := 8) (kf := 12) (w := 870) (by decide +kernel) (by decide +kernel) (zsh_at hF rfl).1 (by decide +kernel) rfl ?_
  exact e_icmp_ge zd176_58 (tg := 83) rfl kt kf
theorem b176_61 {x : zXs} {F : zF} (hF : zSh F) {d : Nat} {V : Nat → Nat → Int32} {T : Nat → Nat → Int64} {Q : Option Value → zG → Prop} {l1 : Int32}  {i1 : Nat} (e1 : l1 = nI i1) (h1 : i1 < 5) {i2 : Nat} (e2 : ((Int32.ofInt 2) * l1) + (Int32.ofInt 1) = nI i2) (h2 : i2 < 10) (k : E x F d 176 53 [some (.ref 59), some (.int (l1 + Int32.ofInt 1))] [] (zu V 66 i2 (V 71 i1), T) Q) : E x F d 176 61 [some (.ref 59), some (.int l1)] [] (V, T) Q := by
  refine e_aload_n zd176_61 rfl rfl ?_
  refine e_getA zd176_62 (own := 8) (ci := 8) (kf := 11) (w := 869) (by decide +kernel) (by decide +kernel) (zsh_at hF rfl).1 (by decide +kernel) rfl (zrf_at hF (i := 65) rfl) ?_
  refine e_iconst zd176_65 ?_
  refine e_iload_n zd176_66 rfl ?_
  refine e_imul zd176_67 ?_
  refine e_iconst zd176_68 ?_
  refine e_iadd zd176_69 ?_
  refine e_aload_n zd176_70 rfl rfl ?_
  refine e_getA zd176_71 (own := 8) (ci := 8) (kf := 32) (w := 890) (by decide +kernel) (by decide +kernel) (zsh_at hF rfl).1 (by decide +kernel) rfl (zrf_at hF (i := 70) rfl) ?_
  refine e_iload_n zd176_74 rfl ?_
  refine e_iald zd176_75 (i := i1) (zsh_at hF rfl) e1 h1 (by omega) ?_
  refine e_iast zd176_76 (i := i2) (zsh_at hF rfl) e2 h2 (by omega) ?_
  refine e_iinc zd176_77 rfl (by decide +kernel) ?_
  exact e_goto zd176_80 (tg := 53) rfl k
theorem b176_83 {x : zXs} {F : zF} (hF : zSh F) {d : Nat} {V : Nat → Nat → Int32} {T : Nat → Nat → Int64} {Q : Option Value → zG → Prop} {o0 : Option Value} {o1 : Option Value}   (k : E x F d 176 85 [o0, some (.int (Int32.ofInt 0))] [] (V, T) Q) : E x F d 176 83 [o0, o1] [] (V, T) Q := by
  refine e_iconst zd176_83 ?_
  refine e_istore_n zd176_84 (by decide +kernel) (Nat.le_of_ble_eq_true rfl) ?_
  exact k
theorem b176_85 {x : zXs} {F : zF} (hF : zSh F) {d : Nat} {V : Nat → Nat → Int32} {T : Nat → Nat → Int64} {Q : Option Value → zG → Prop} {o0 : Option Value} {l1 : Int32}   (kt : (Int32.ofInt 4) ≤ l1 → E x F d 176 121 [o0, some (.int l1)] [] (V, T) Q) (kf : ¬ ((Int32.ofInt 4) ≤ l1) → E x F d 176 90 [o0, some (.int l1)] [] (V, T) Q) : E x F d 176 85 [o0, some (.int l1)] [] (V, T) Q := by
  refine e_iload_n zd176_85 rfl ?_
  refine e_iconst zd176_86 ?_
  exact e_icmp_ge zd176_87 (tg := 121) rfl kt kf
theorem b176_90 {x : zXs} {F : zF} (hF : zSh F) {d : Nat} {V : Nat → Nat → Int32} {T : Nat → Nat → Int64} {Q : Option Value → zG → Prop} {l1 : Int32}  {i1 : Nat} (e1 : l1 = nI i1) (h1 : i1 < 5) {i2 : Nat} (e2 : l1 = nI i2) (h2 : i2 < 4) (k : E x F d 157 0 [some (.int ((V 64 i1) + (V 72 i2))), some (.int (Int32.ofInt 0)), some (.int (Int32.ofInt 24))] [] (V, T) (fun r G' => E x F (d + 1) 176 114 [some (.ref 59), some (.int l1)] (r.toList ++ [.int l1, .ref 64]) G' Q)) : E x F (d + 1) 176 90 [some (.ref 59), some (.int l1)] [] (V, T) Q := by
  refine e_aload_n zd176_90 rfl rfl ?_
  refine e_getA zd176_91 (own := 8) (ci := 8) (kf := 9) (w := 867) (by decide +kernel) (by decide +kernel) (zsh_at hF rfl).1 (by decide +kernel) rfl (zrf_at hF (i := 63) rfl) ?_
  refine e_iload_n zd176_94 rfl ?_
  refine e_aload_n zd176_95 rfl rfl ?_
  refine e_getA zd176_96 (own := 8) (ci := 8) (kf := 9) (w := 867) (by decide +kernel) (by decide +kernel) (zsh_at hF rfl).1 (by decide +kernel) rfl (zrf_at hF (i := 63) rfl) ?_
  refine e_iload_n zd176_99 rfl ?_
  refine e_iald zd176_100 (i := i1) (zsh_at hF rfl) e1 h1 (by omega) ?_
  refine e_aload_n zd176_101 rfl rfl ?_
  refine e_getA zd176_102 (own := 8) (ci := 8) (kf := 33) (w := 891) (by decide +kernel) (by decide +kernel) (zsh_at hF rfl).1 (by decide +kernel) rfl (zrf_at hF (i := 71) rfl) ?_
  refine e_iload_n zd176_105 rfl ?_
  refine e_iald zd176_106 (i := i2) (zsh_at hF rfl) e2 h2 (by omega) ?_
  refine e_iadd zd176_107 ?_
  refine e_iconst zd176_108 ?_
  refine e_bipush zd176_109 (v := Int32.ofInt 24) (by decide +kernel) ?_
  exact e_callS zd176_111 (own := 8) (nest := false) (w := 1115) (by decide +kernel) (by decide +kernel) zs157 (as := [.int ((V 64 i1) + (V 72 i2)), .int (Int32.ofInt 0), .int (Int32.ofInt 24)]) (rest := [.int l1, .ref 64]) rfl rfl (Nat.le_of_ble_eq_true rfl) rfl rfl rfl (by omega) k
theorem b176_114 {x : zXs} {F : zF} (hF : zSh F) {d : Nat} {V : Nat → Nat → Int32} {T : Nat → Nat → Int64} {Q : Option Value → zG → Prop} {o0 : Option Value} {l1 : Int32} {s0 : Nat} {ns0 : Nat} {s1 : Int32} {s2 : Int32} (hs0 : zsh F s0 = 100 ∧ zln F s0 = ns0) (qns0 : ns0 < 2 ^ 31) {i1 : Nat} (e1 : s1 = nI i1) (h1 : i1 < ns0) (k : E x F d 176 85 [o0, some (.int (l1 + Int32.ofInt 1))] [] (zu V s0 i1 s2, T) Q) : E x F d 176 114 [o0, some (.int l1)] [.int s2, .int s1, .ref s0] (V, T) Q := by
  refine e_iast zd176_114 (i := i1) (hs0) e1 h1 qns0 ?_
  refine e_iinc zd176_115 rfl (by decide +kernel) ?_
  exact e_goto zd176_118 (tg := 85) rfl k
theorem b176_121 {x : zXs} {F : zF} (hF : zSh F) {d : Nat} {V : Nat → Nat → Int32} {T : Nat → Nat → Int64} {Q : Option Value → zG → Prop} {o1 : Option Value}   (k : Q none (zu V 59 7 ((V 59 7) + (Int32.ofInt 1)), T)) : E x F d 176 121 [some (.ref 59), o1] [] (V, T) Q := by
  refine e_aload_n zd176_121 rfl rfl ?_
  refine e_dup zd176_122 rfl ?_
  refine e_getI zd176_123 (own := 8) (ci := 8) (kf := 7) (w := 865) (by decide +kernel) (by decide +kernel) (zsh_at hF rfl).1 (by decide +kernel) rfl ?_
  refine e_iconst zd176_126 ?_
  refine e_iadd zd176_127 ?_
  refine e_putI zd176_128 (own := 8) (ci := 8) (kf := 7) (w := 865) (by decide +kernel) (by decide +kernel) (zsh_at hF rfl).1 (by decide +kernel) rfl ?_
  exact e_vret zd176_131 zs176 k
theorem zd177_0 : zop 177 0 = some (.aload_n 0, 1) := by decide +kernel
theorem zd177_1 : zop 177 1 = some (.iconst 0, 1) := by decide +kernel
theorem zd177_2 : zop 177 2 = some (.invokevirtual 103, 3) := by decide +kernel
theorem zd177_5 : zop 177 5 = some (.aload_n 0, 1) := by decide +kernel
theorem zd177_6 : zop 177 6 = some (.iconst 1, 1) := by decide +kernel
theorem zd177_7 : zop 177 7 = some (.invokevirtual 103, 3) := by decide +kernel
theorem zd177_10 : zop 177 10 = some (.iadd, 1) := by decide +kernel
theorem zd177_11 : zop 177 11 = some (.aload_n 0, 1) := by decide +kernel
theorem zd177_12 : zop 177 12 = some (.iconst 2, 1) := by decide +kernel
theorem zd177_13 : zop 177 13 = some (.invokevirtual 103, 3) := by decide +kernel
theorem zd177_16 : zop 177 16 = some (.iadd, 1) := by decide +kernel
theorem zd177_17 : zop 177 17 = some (.aload_n 0, 1) := by decide +kernel
theorem zd177_18 : zop 177 18 = some (.iconst 3, 1) := by decide +kernel
theorem zd177_19 : zop 177 19 = some (.invokevirtual 103, 3) := by decide +kernel
theorem zd177_22 : zop 177 22 = some (.iadd, 1) := by decide +kernel
theorem zd177_23 : zop 177 23 = some (.ireturn, 1) := by decide +kernel
theorem b177_0 {x : zXs} {F : zF} (hF : zSh F) {d : Nat} {V : Nat → Nat → Int32} {T : Nat → Nat → Int64} {Q : Option Value → zG → Prop}    (k : E x F d 133 0 [some (.ref 59), some (.int (Int32.ofInt 0))] [] (V, T) (fun r G' => E x F (d + 1) 177 5 [some (.ref 59)] (r.toList ++ []) G' Q)) : E x F (d + 1) 177 0 [some (.ref 59)] [] (V, T) Q := by
  refine e_aload_n zd177_0 rfl rfl ?_
  refine e_iconst zd177_1 ?_
  exact e_callV zd177_2 (own := 8) (nest := false) (w := 1013) (by decide +kernel) (by decide +kernel) zs133 (as := [.int (Int32.ofInt 0)]) (rest := []) rfl rfl (zsh_at hF rfl).1 (by omega) (Nat.le_of_ble_eq_true rfl) rfl rfl rfl (by omega) k
theorem b177_5 {x : zXs} {F : zF} (hF : zSh F) {d : Nat} {V : Nat → Nat → Int32} {T : Nat → Nat → Int64} {Q : Option Value → zG → Prop} {s0 : Int32}   (k : E x F d 133 0 [some (.ref 59), some (.int (Int32.ofInt 1))] [] (V, T) (fun r G' => E x F (d + 1) 177 10 [some (.ref 59)] (r.toList ++ [.int s0]) G' Q)) : E x F (d + 1) 177 5 [some (.ref 59)] [.int s0] (V, T) Q := by
  refine e_aload_n zd177_5 rfl rfl ?_
  refine e_iconst zd177_6 ?_
  exact e_callV zd177_7 (own := 8) (nest := false) (w := 1013) (by decide +kernel) (by decide +kernel) zs133 (as := [.int (Int32.ofInt 1)]) (rest := [.int s0]) rfl rfl (zsh_at hF rfl).1 (by omega) (Nat.le_of_ble_eq_true rfl) rfl rfl rfl (by omega) k
theorem b177_10 {x : zXs} {F : zF} (hF : zSh F) {d : Nat} {V : Nat → Nat → Int32} {T : Nat → Nat → Int64} {Q : Option Value → zG → Prop} {s0 : Int32} {s1 : Int32}   (k : E x F d 133 0 [some (.ref 59), some (.int (Int32.ofInt 2))] [] (V, T) (fun r G' => E x F (d + 1) 177 16 [some (.ref 59)] (r.toList ++ [.int (s0 + s1)]) G' Q)) : E x F (d + 1) 177 10 [some (.ref 59)] [.int s1, .int s0] (V, T) Q := by
  refine e_iadd zd177_10 ?_
  refine e_aload_n zd177_11 rfl rfl ?_
  refine e_iconst zd177_12 ?_
  exact e_callV zd177_13 (own := 8) (nest := false) (w := 1013) (by decide +kernel) (by decide +kernel) zs133 (as := [.int (Int32.ofInt 2)]) (rest := [.int (s0 + s1)]) rfl rfl (zsh_at hF rfl).1 (by omega) (Nat.le_of_ble_eq_true rfl) rfl rfl rfl (by omega) k
theorem b177_16 {x : zXs} {F : zF} (hF : zSh F) {d : Nat} {V : Nat → Nat → Int32} {T : Nat → Nat → Int64} {Q : Option Value → zG → Prop} {s0 : Int32} {s1 : Int32}   (k : E x F d 133 0 [some (.ref 59), some (.int (Int32.ofInt 3))] [] (V, T) (fun r G' => E x F (d + 1) 177 22 [some (.ref 59)] (r.toList ++ [.int (s0 + s1)]) G' Q)) : E x F (d + 1) 177 16 [some (.ref 59)] [.int s1, .int s0] (V, T) Q := by
  refine e_iadd zd177_16 ?_
  refine e_aload_n zd177_17 rfl rfl ?_
  refine e_iconst zd177_18 ?_
  exact e_callV zd177_19 (own := 8) (nest := false) (w := 1013) (by decide +kernel) (by decide +kernel) zs133 (as := [.int (Int32.ofInt 3)]) (rest := [.int (s0 + s1)]) rfl rfl (zsh_at hF rfl).1 (by omega) (Nat.le_of_ble_eq_true rfl) rfl rfl rfl (by omega) k
theorem b177_22 {x : zXs} {F : zF} (hF : zSh F) {d : Nat} {V : Nat → Nat → Int32} {T : Nat → Nat → Int64} {Q : Option Value → zG → Prop} {o0 : Option Value} {s0 : Int32} {s1 : Int32}   (k : Q (some (.int (s0 + s1))) (V, T)) : E x F d 177 22 [o0] [.int s1, .int s0] (V, T) Q := by
  refine e_iadd zd177_22 ?_
  exact e_ireti zd177_23 zs177 k
theorem zd178_0 : zop 178 0 = some (.aload_n 0, 1) := by decide +kernel
theorem zd178_1 : zop 178 1 = some (.iload_n 1, 1) := by decide +kernel
theorem zd178_2 : zop 178 2 = some (.invokevirtual 112, 3) := by decide +kernel
theorem zd178_5 : zop 178 5 = some (.ifCond .eq 32, 3) := by decide +kernel
theorem zd178_8 : zop 178 8 = some (.iload_n 2, 1) := by decide +kernel
theorem zd178_9 : zop 178 9 = some (.invokestatic 97, 3) := by decide +kernel
theorem zd178_12 : zop 178 12 = some (.ifCond .eq 25, 3) := by decide +kernel
theorem zd178_15 : zop 178 15 = some (.iload_n 3, 1) := by decide +kernel
theorem zd178_16 : zop 178 16 = some (.i2l, 1) := by decide +kernel
theorem zd178_17 : zop 178 17 = some (.lconst 0, 1) := by decide +kernel
theorem zd178_18 : zop 178 18 = some (.ldc2_w 95, 3) := by decide +kernel
theorem zd178_21 : zop 178 21 = some (.invokestatic 91, 3) := by decide +kernel
theorem zd178_24 : zop 178 24 = some (.ifCond .eq 13, 3) := by decide +kernel
theorem zd178_27 : zop 178 27 = some (.aload_n 0, 1) := by decide +kernel
theorem zd178_28 : zop 178 28 = some (.iload_n 1, 1) := by decide +kernel
theorem zd178_29 : zop 178 29 = some (.iload_n 2, 1) := by decide +kernel
theorem zd178_30 : zop 178 30 = some (.iload_n 3, 1) := by decide +kernel
theorem zd178_31 : zop 178 31 = some (.invokevirtual 303, 3) := by decide +kernel
theorem zd178_34 : zop 178 34 = some (.goto 5, 3) := by decide +kernel
theorem zd178_37 : zop 178 37 = some (.bipush (-100), 2) := by decide +kernel
theorem zd178_39 : zop 178 39 = some (.ireturn, 1) := by decide +kernel
theorem b178_0 {x : zXs} {F : zF} (hF : zSh F) {d : Nat} {V : Nat → Nat → Int32} {T : Nat → Nat → Int64} {Q : Option Value → zG → Prop} {l1 : Int32} {o2 : Option Value} {o3 : Option Value}   (k : E x F d 136 0 [some (.ref 59), some (.int l1)] [] (V, T) (fun r G' => E x F (d + 1) 178 5 [some (.ref 59), some (.int l1), o2, o3] (r.toList ++ []) G' Q)) : E x F (d + 1) 178 0 [some (.ref 59), some (.int l1), o2, o3] [] (V, T) Q := by
  refine e_aload_n zd178_0 rfl rfl ?_
  refine e_iload_n zd178_1 rfl ?_
  exact e_callV zd178_2 (own := 8) (nest := false) (w := 1025) (by decide +kernel) (by decide +kernel) zs136 (as := [.int l1]) (rest := []) rfl rfl (zsh_at hF rfl).1 (by omega) (Nat.le_of_ble_eq_true rfl) rfl rfl rfl (by omega) k
theorem b178_5 {x : zXs} {F : zF} (hF : zSh F) {d : Nat} {V : Nat → Nat → Int32} {T : Nat → Nat → Int64} {Q : Option Value → zG → Prop} {o0 : Option Value} {o1 : Option Value} {o2 : Option Value} {o3 : Option Value} {s0 : Int32}   (kt : s0 = 0 → E x F d 178 37 [o0, o1, o2, o3] [] (V, T) Q) (kf : ¬ (s0 = 0) → E x F d 178 8 [o0, o1, o2, o3] [] (V, T) Q) : E x F d 178 5 [o0, o1, o2, o3] [.int s0] (V, T) Q := by
  exact e_if_eq zd178_5 (tg := 37) rfl kt kf
theorem b178_8 {x : zXs} {F : zF} (hF : zSh F) {d : Nat} {V : Nat → Nat → Int32} {T : Nat → Nat → Int64} {Q : Option Value → zG → Prop} {o0 : Option Value} {o1 : Option Value} {l2 : Int32} {o3 : Option Value}   (k : E x F d 131 0 [some (.int l2)] [] (V, T) (fun r G' => E x F (d + 1) 178 12 [o0, o1, some (.int l2), o3] (r.toList ++ []) G' Q)) : E x F (d + 1) 178 8 [o0, o1, some (.int l2), o3] [] (V, T) Q := by
  refine e_iload_n zd178_8 rfl ?_
  exact e_callS zd178_9 (own := 8) (nest := false) (w := 1005) (by decide +kernel) (by decide +kernel) zs131 (as := [.int l2]) (rest := []) rfl rfl (Nat.le_of_ble_eq_true rfl) rfl rfl rfl (by omega) k
theorem b178_12 {x : zXs} {F : zF} (hF : zSh F) {d : Nat} {V : Nat → Nat → Int32} {T : Nat → Nat → Int64} {Q : Option Value → zG → Prop} {o0 : Option Value} {o1 : Option Value} {o2 : Option Value} {o3 : Option Value} {s0 : Int32}   (kt : s0 = 0 → E x F d 178 37 [o0, o1, o2, o3] [] (V, T) Q) (kf : ¬ (s0 = 0) → E x F d 178 15 [o0, o1, o2, o3] [] (V, T) Q) : E x F d 178 12 [o0, o1, o2, o3] [.int s0] (V, T) Q := by
  exact e_if_eq zd178_12 (tg := 37) rfl kt kf
theorem b178_15 {x : zXs} {F : zF} (hF : zSh F) {d : Nat} {V : Nat → Nat → Int32} {T : Nat → Nat → Int64} {Q : Option Value → zG → Prop} {o0 : Option Value} {o1 : Option Value} {o2 : Option Value} {l3 : Int32}   (k : E x F d 132 0 [some (.long l3.toInt64), none, some (.long 0), none, some (.long (3 : Int64)), none] [] (V, T) (fun r G' => E x F (d + 1) 178 24 [o0, o1, o2, some (.int l3)] (r.toList ++ []) G' Q)) : E x F (d + 1) 178 15 [o0, o1, o2, some (.int l3)] [] (V, T) Q := by
  refine e_iload_n zd178_15 rfl ?_
  refine e_i2l zd178_16 ?_
  refine e_lconst zd178_17 (v := 0) rfl ?_
  refine e_ldc2 zd178_18 (own := 8) (w := 1008) (v := 3) (by decide +kernel) (by decide +kernel) ?_
  exact e_callS zd178_21 (own := 8) (nest := false) (w := 1009) (by decide +kernel) (by decide +kernel) zs132 (as := [.long l3.toInt64, .long 0, .long (3 : Int64)]) (rest := []) rfl rfl (Nat.le_of_ble_eq_true rfl) rfl rfl rfl (by omega) k
theorem b178_24 {x : zXs} {F : zF} (hF : zSh F) {d : Nat} {V : Nat → Nat → Int32} {T : Nat → Nat → Int64} {Q : Option Value → zG → Prop} {o0 : Option Value} {o1 : Option Value} {o2 : Option Value} {o3 : Option Value} {s0 : Int32}   (kt : s0 = 0 → E x F d 178 37 [o0, o1, o2, o3] [] (V, T) Q) (kf : ¬ (s0 = 0) → E x F d 178 27 [o0, o1, o2, o3] [] (V, T) Q) : E x F d 178 24 [o0, o1, o2, o3] [.int s0] (V, T) Q := by
  exact e_if_eq zd178_24 (tg := 37) rfl kt kf
theorem b178_27 {x : zXs} {F : zF} (hF : zSh F) {d : Nat} {V : Nat → Nat → Int32} {T : Nat → Nat → Int64} {Q : Option Value → zG → Prop} {l1 : Int32} {l2 : Int32} {l3 : Int32}   (k : E x F d 179 0 [some (.ref 59), some (.int l1), some (.int l2), some (.int l3), none, none] [] (V, T) (fun r G' => E x F (d + 1) 178 34 [some (.ref 59), some (.int l1), some (.int l2), some (.int l3)] (r.toList ++ []) G' Q)) : E x F (d + 1) 178 27 [some (.ref 59), some (.int l1), some (.int l2), some (.int l3)] [] (V, T) Q := by
  refine e_aload_n zd178_27 rfl rfl ?_
  refine e_iload_n zd178_28 rfl ?_
  refine e_iload_n zd178_29 rfl ?_
  refine e_iload_n zd178_30 rfl ?_
  exact e_callV zd178_31 (own := 8) (nest := false) (w := 1206) (by decide +kernel) (by decide +kernel) zs179 (as := [.int l1, .int l2, .int l3]) (rest := []) rfl rfl (zsh_at hF rfl).1 (by omega) (Nat.le_of_ble_eq_true rfl) rfl rfl rfl (by omega) k
theorem b178_34 {x : zXs} {F : zF} (hF : zSh F) {d : Nat} {V : Nat → Nat → Int32} {T : Nat → Nat → Int64} {Q : Option Value → zG → Prop} {o0 : Option Value} {o1 : Option Value} {o2 : Option Value} {o3 : Option Value} {s0 : Int32}   (k : E x F d 178 39 [o0, o1, o2, o3] [.int s0] (V, T) Q) : E x F d 178 34 [o0, o1, o2, o3] [.int s0] (V, T) Q := by
  exact e_goto zd178_34 (tg := 39) rfl k
theorem b178_37 {x : zXs} {F : zF} (hF : zSh F) {d : Nat} {V : Nat → Nat → Int32} {T : Nat → Nat → Int64} {Q : Option Value → zG → Prop} {o0 : Option Value} {o1 : Option Value} {o2 : Option Value} {o3 : Option Value}   (k : E x F d 178 39 [o0, o1, o2, o3] [.int (Int32.ofInt (-100))] (V, T) Q) : E x F d 178 37 [o0, o1, o2, o3] [] (V, T) Q := by
  refine e_bipush zd178_37 (v := Int32.ofInt (-100)) (by decide +kernel) ?_
  exact k
theorem b178_39 {x : zXs} {F : zF} (hF : zSh F) {d : Nat} {V : Nat → Nat → Int32} {T : Nat → Nat → Int64} {Q : Option Value → zG → Prop} {o0 : Option Value} {o1 : Option Value} {o2 : Option Value} {o3 : Option Value} {s0 : Int32}   (k : Q (some (.int s0)) (V, T)) : E x F d 178 39 [o0, o1, o2, o3] [.int s0] (V, T) Q := by
  exact e_ireti zd178_39 zs178 k
theorem zd179_0 : zop 179 0 = some (.aload_n 0, 1) := by decide +kernel
theorem zd179_1 : zop 179 1 = some (.invokevirtual 297, 3) := by decide +kernel
theorem zd179_4 : zop 179 4 = some (.aload_n 0, 1) := by decide +kernel
theorem zd179_5 : zop 179 5 = some (.iload_n 1, 1) := by decide +kernel
theorem zd179_6 : zop 179 6 = some (.iload_n 2, 1) := by decide +kernel
theorem zd179_7 : zop 179 7 = some (.invokevirtual 285, 3) := by decide +kernel
theorem zd179_10 : zop 179 10 = some (.istore 4, 2) := by decide +kernel
theorem zd179_12 : zop 179 12 = some (.iload_n 3, 1) := by decide +kernel
theorem zd179_13 : zop 179 13 = some (.ifCond .ne 8, 3) := by decide +kernel
theorem zd179_16 : zop 179 16 = some (.iload 4, 2) := by decide +kernel
theorem zd179_18 : zop 179 18 = some (.goto 39, 3) := by decide +kernel
theorem zd179_21 : zop 179 21 = some (.iload_n 3, 1) := by decide +kernel
theorem zd179_22 : zop 179 22 = some (.iconst 1, 1) := by decide +kernel
theorem zd179_23 : zop 179 23 = some (.if_icmp .ne 11, 3) := by decide +kernel
theorem zd179_26 : zop 179 26 = some (.aload_n 0, 1) := by decide +kernel
theorem zd179_27 : zop 179 27 = some (.iload_n 2, 1) := by decide +kernel
theorem zd179_28 : zop 179 28 = some (.invokevirtual 103, 3) := by decide +kernel
theorem zd179_31 : zop 179 31 = some (.goto 26, 3) := by decide +kernel
theorem zd179_34 : zop 179 34 = some (.iload_n 3, 1) := by decide +kernel
theorem zd179_35 : zop 179 35 = some (.iconst 2, 1) := by decide +kernel
theorem zd179_36 : zop 179 36 = some (.if_icmp .ne 16, 3) := by decide +kernel
theorem zd179_39 : zop 179 39 = some (.aload_n 0, 1) := by decide +kernel
theorem zd179_40 : zop 179 40 = some (.getfield 32, 3) := by decide +kernel
theorem zd179_43 : zop 179 43 = some (.iconst 2, 1) := by decide +kernel
theorem zd179_44 : zop 179 44 = some (.iload_n 1, 1) := by decide +kernel
theorem zd179_45 : zop 179 45 = some (.imul, 1) := by decide +kernel
theorem zd179_46 : zop 179 46 = some (.iconst 1, 1) := by decide +kernel
theorem zd179_47 : zop 179 47 = some (.iadd, 1) := by decide +kernel
theorem zd179_48 : zop 179 48 = some (.iaload, 1) := by decide +kernel
theorem zd179_49 : zop 179 49 = some (.goto 8, 3) := by decide +kernel
theorem zd179_52 : zop 179 52 = some (.aload_n 0, 1) := by decide +kernel
theorem zd179_53 : zop 179 53 = some (.iload_n 2, 1) := by decide +kernel
theorem zd179_54 : zop 179 54 = some (.invokevirtual 144, 3) := by decide +kernel
theorem zd179_57 : zop 179 57 = some (.istore 5, 2) := by decide +kernel
theorem zd179_59 : zop 179 59 = some (.aload_n 0, 1) := by decide +kernel
theorem zd179_60 : zop 179 60 = some (.invokevirtual 300, 3) := by decide +kernel
theorem zd179_63 : zop 179 63 = some (.iload 5, 2) := by decide +kernel
theorem zd179_65 : zop 179 65 = some (.ireturn, 1) := by decide +kernel
theorem b179_0 {x : zXs} {F : zF} (hF : zSh F) {d : Nat} {V : Nat → Nat → Int32} {T : Nat → Nat → Int64} {Q : Option Value → zG → Prop} {o1 : Option Value} {o2 : Option Value} {o3 : Option Value} {o4 : Option Value} {o5 : Option Value}   (k : E x F d 180 0 [some (.ref 59), none] [] (V, T) (fun r G' => E x F (d + 1) 179 4 [some (.ref 59), o1, o2, o3, o4, o5] (r.toList ++ []) G' Q)) : E x F (d + 1) 179 0 [some (.ref 59), o1, o2, o3, o4, o5] [] (V, T) Q := by
  refine e_aload_n zd179_0 rfl rfl ?_
  exact e_callV zd179_1 (own := 8) (nest := false) (w := 1210) (by decide +kernel) (by decide +kernel) zs180 (as := []) (rest := []) rfl rfl (zsh_at hF rfl).1 (by omega) (Nat.le_of_ble_eq_true rfl) rfl rfl rfl (by omega) k
theorem b179_4 {x : zXs} {F : zF} (hF : zSh F) {d : Nat} {V : Nat → Nat → Int32} {T : Nat → Nat → Int64} {Q : Option Value → zG → Prop} {l1 : Int32} {l2 : Int32} {o3 : Option Value} {o4 : Option Value} {o5 : Option Value}   (k : E x F d 171 0 [some (.ref 59), some (.int l1), some (.int l2), none, none, none, none, none] [] (V, T) (fun r G' => E x F (d + 1) 179 10 [some (.ref 59), some (.int l1), some (.int l2), o3, o4, o5] (r.toList ++ []) G' Q)) : E x F (d + 1) 179 4 [some (.ref 59), some (.int l1), some (.int l2), o3, o4, o5] [] (V, T) Q := by
  refine e_aload_n zd179_4 rfl rfl ?_
  refine e_iload_n zd179_5 rfl ?_
  refine e_iload_n zd179_6 rfl ?_
  exact e_callV zd179_7 (own := 8) (nest := false) (w := 1174) (by decide +kernel) (by decide +kernel) zs171 (as := [.int l1, .int l2]) (rest := []) rfl rfl (zsh_at hF rfl).1 (by omega) (Nat.le_of_ble_eq_true rfl) rfl rfl rfl (by omega) k
theorem b179_10 {x : zXs} {F : zF} (hF : zSh F) {d : Nat} {V : Nat → Nat → Int32} {T : Nat → Nat → Int64} {Q : Option Value → zG → Prop} {o0 : Option Value} {o1 : Option Value} {o2 : Option Value} {l3 : Int32} {o4 : Option Value} {o5 : Option Value} {s0 : Int32}   (kt : ¬ l3 = 0 → E x F d 179 21 [o0, o1, o2, some (.int l3), some (.int s0), o5] [] (V, T) Q) (kf : ¬ (¬ l3 = 0) → E x F d 179 16 [o0, o1, o2, some (.int l3), some (.int s0), o5] [] (V, T) Q) : E x F d 179 10 [o0, o1, o2, some (.int l3), o4, o5] [.int s0] (V, T) Q := by
  refine e_istore zd179_10 (by decide +kernel) (Nat.le_of_ble_eq_true rfl) ?_
  refine e_iload_n zd179_12 rfl ?_
  exact e_if_ne zd179_13 (tg := 21) rfl kt kf
theorem b179_16 {x : zXs} {F : zF} (hF : zSh F) {d : Nat} {V : Nat → Nat → Int32} {T : Nat → Nat → Int64} {Q : Option Value → zG → Prop} {o0 : Option Value} {o1 : Option Value} {o2 : Option Value} {o3 : Option Value} {l4 : Int32} {o5 : Option Value}   (k : E x F d 179 57 [o0, o1, o2, o3, some (.int l4), o5] [.int l4] (V, T) Q) : E x F d 179 16 [o0, o1, o2, o3, some (.int l4), o5] [] (V, T) Q := by
  refine e_iload zd179_16 rfl ?_
  exact e_goto zd179_18 (tg := 57) rfl k
theorem b179_21 {x : zXs} {F : zF} (hF : zSh F) {d : Nat} {V : Nat → Nat → Int32} {T : Nat → Nat → Int64} {Q : Option Value → zG → Prop} {o0 : Option Value} {o1 : Option Value} {o2 : Option Value} {l3 : Int32} {o4 : Option Value} {o5 : Option Value}   (kt : ¬ l3 = (Int32.ofInt 1) → E x F d 179 34 [o0, o1, o2, some (.int l3), o4, o5] [] (V, T) Q) (kf : ¬ (¬ l3 = (Int32.ofInt 1)) → E x F d 179 26 [o0, o1, o2, some (.int l3), o4, o5] [] (V, T) Q) : E x F d 179 21 [o0, o1, o2, some (.int l3), o4, o5] [] (V, T) Q := by
  refine e_iload_n zd179_21 rfl ?_
  refine e_iconst zd179_22 ?_
  exact e_icmp_ne zd179_23 (tg := 34) rfl kt kf
theorem b179_26 {x : zXs} {F : zF} (hF : zSh F) {d : Nat} {V : Nat → Nat → Int32} {T : Nat → Nat → Int64} {Q : Option Value → zG → Prop} {o1 : Option Value} {l2 : Int32} {o3 : Option Value} {o4 : Option Value} {o5 : Option Value}   (k : E x F d 133 0 [some (.ref 59), some (.int l2)] [] (V, T) (fun r G' => E x F (d + 1) 179 31 [some (.ref 59), o1, some (.int l2), o3, o4, o5] (r.toList ++ []) G' Q)) : E x F (d + 1) 179 26 [some (.ref 59), o1, some (.int l2), o3, o4, o5] [] (V, T) Q := by
  refine e_aload_n zd179_26 rfl rfl ?_
  refine e_iload_n zd179_27 rfl ?_
  exact e_callV zd179_28 (own := 8) (nest := false) (w := 1013) (by decide +kernel) (by decide +kernel) zs133 (as := [.int l2]) (rest := []) rfl rfl (zsh_at hF rfl).1 (by omega) (Nat.le_of_ble_eq_true rfl) rfl rfl rfl (by omega) k
theorem b179_31 {x : zXs} {F : zF} (hF : zSh F) {d : Nat} {V : Nat → Nat → Int32} {T : Nat → Nat → Int64} {Q : Option Value → zG → Prop} {o0 : Option Value} {o1 : Option Value} {o2 : Option Value} {o3 : Option Value} {o4 : Option Value} {o5 : Option Value} {s0 : Int32}   (k : E x F d 179 57 [o0, o1, o2, o3, o4, o5] [.int s0] (V, T) Q) : E x F d 179 31 [o0, o1, o2, o3, o4, o5] [.int s0] (V, T) Q := by
  exact e_goto zd179_31 (tg := 57) rfl k
theorem b179_34 {x : zXs} {F : zF} (hF : zSh F) {d : Nat} {V : Nat → Nat → Int32} {T : Nat → Nat → Int64} {Q : Option Value → zG → Prop} {o0 : Option Value} {o1 : Option Value} {o2 : Option Value} {l3 : Int32} {o4 : Option Value} {o5 : Option Value}   (kt : ¬ l3 = (Int32.ofInt 2) → E x F d 179 52 [o0, o1, o2, some (.int l3), o4, o5] [] (V, T) Q) (kf : ¬ (¬ l3 = (Int32.ofInt 2)) → E x F d 179 39 [o0, o1, o2, some (.int l3), o4, o5] [] (V, T) Q) : E x F d 179 34 [o0, o1, o2, some (.int l3), o4, o5] [] (V, T) Q := by
  refine e_iload_n zd179_34 rfl ?_
  refine e_iconst zd179_35 ?_
  exact e_icmp_ne zd179_36 (tg := 52) rfl kt kf
theorem b179_39 {x : zXs} {F : zF} (hF : zSh F) {d : Nat} {V : Nat → Nat → Int32} {T : Nat → Nat → Int64} {Q : Option Value → zG → Prop} {l1 : Int32} {o2 : Option Value} {o3 : Option Value} {o4 : Option Value} {o5 : Option Value}  {i1 : Nat} (e1 : ((Int32.ofInt 2) * l1) + (Int32.ofInt 1) = nI i1) (h1 : i1 < 10) (k : E x F d 179 57 [some (.ref 59), some (.int l1), o2, o3, o4, o5] [.int (V 66 i1)] (V, T) Q) : E x F d 179 39 [some (.ref 59), some (.int l1), o2, o3, o4, o5] [] (V, T) Q := by
  refine e_aload_n zd179_39 rfl rfl ?_
  refine e_getA zd179_40 (own := 8) (ci := 8) (kf := 11) (w := 869) (by decide +kernel) (by decide +kernel) (zsh_at hF rfl).1 (by decide +kernel) rfl (zrf_at hF (i := 65) rfl) ?_
  refine e_iconst zd179_43 ?_
  refine e_iload_n zd179_44 rfl ?_
  refine e_imul zd179_45 ?_
  refine e_iconst zd179_46 ?_
  refine e_iadd zd179_47 ?_
  refine e_iald zd179_48 (i := i1) (zsh_at hF rfl) e1 h1 (by omega) ?_
  exact e_goto zd179_49 (tg := 57) rfl k
theorem b179_52 {x : zXs} {F : zF} (hF : zSh F) {d : Nat} {V : Nat → Nat → Int32} {T : Nat → Nat → Int64} {Q : Option Value → zG → Prop} {o1 : Option Value} {l2 : Int32} {o3 : Option Value} {o4 : Option Value} {o5 : Option Value}   (k : E x F d 160 0 [some (.ref 59), some (.int l2), none, none, none] [] (V, T) (fun r G' => E x F (d + 1) 179 57 [some (.ref 59), o1, some (.int l2), o3, o4, o5] (r.toList ++ []) G' Q)) : E x F (d + 1) 179 52 [some (.ref 59), o1, some (.int l2), o3, o4, o5] [] (V, T) Q := by
  refine e_aload_n zd179_52 rfl rfl ?_
  refine e_iload_n zd179_53 rfl ?_
  exact e_callV zd179_54 (own := 8) (nest := false) (w := 1126) (by decide +kernel) (by decide +kernel) zs160 (as := [.int l2]) (rest := []) rfl rfl (zsh_at hF rfl).1 (by omega) (Nat.le_of_ble_eq_true rfl) rfl rfl rfl (by omega) k
theorem b179_57 {x : zXs} {F : zF} (hF : zSh F) {d : Nat} {V : Nat → Nat → Int32} {T : Nat → Nat → Int64} {Q : Option Value → zG → Prop} {o1 : Option Value} {o2 : Option Value} {o3 : Option Value} {o4 : Option Value} {o5 : Option Value} {s0 : Int32}   (k : E x F d 181 0 [some (.ref 59), none] [] (V, T) (fun r G' => E x F (d + 1) 179 63 [some (.ref 59), o1, o2, o3, o4, some (.int s0)] (r.toList ++ []) G' Q)) : E x F (d + 1) 179 57 [some (.ref 59), o1, o2, o3, o4, o5] [.int s0] (V, T) Q := by
  refine e_istore zd179_57 (by decide +kernel) (Nat.le_of_ble_eq_true rfl) ?_
  refine e_aload_n zd179_59 rfl rfl ?_
  exact e_callV zd179_60 (own := 8) (nest := false) (w := 1214) (by decide +kernel) (by decide +kernel) zs181 (as := []) (rest := []) rfl rfl (zsh_at hF rfl).1 (by omega) (Nat.le_of_ble_eq_true rfl) rfl rfl rfl (by omega) k
theorem b179_63 {x : zXs} {F : zF} (hF : zSh F) {d : Nat} {V : Nat → Nat → Int32} {T : Nat → Nat → Int64} {Q : Option Value → zG → Prop} {o0 : Option Value} {o1 : Option Value} {o2 : Option Value} {o3 : Option Value} {o4 : Option Value} {l5 : Int32}   (k : Q (some (.int l5)) (V, T)) : E x F d 179 63 [o0, o1, o2, o3, o4, some (.int l5)] [] (V, T) Q := by
  refine e_iload zd179_63 rfl ?_
  exact e_ireti zd179_65 zs179 k
theorem zd180_0 : zop 180 0 = some (.iconst 0, 1) := by decide +kernel
theorem zd180_1 : zop 180 1 = some (.istore_n 1, 1) := by decide +kernel
theorem zd180_2 : zop 180 2 = some (.iload_n 1, 1) := by decide +kernel
theorem zd180_3 : zop 180 3 = some (.iconst 5, 1) := by decide +kernel
theorem zd180_4 : zop 180 4 = some (.if_icmp .ge 54, 3) := by decide +kernel
theorem zd180_7 : zop 180 7 = some (.aload_n 0, 1) := by decide +kernel
theorem zd180_8 : zop 180 8 = some (.getfield 53, 3) := by decide +kernel
theorem zd180_11 : zop 180 11 = some (.iload_n 1, 1) := by decide +kernel
theorem zd180_12 : zop 180 12 = some (.aload_n 0, 1) := by decide +kernel
theorem zd180_13 : zop 180 13 = some (.getfield 23, 3) := by decide +kernel
theorem zd180_16 : zop 180 16 = some (.iload_n 1, 1) := by decide +kernel
theorem zd180_17 : zop 180 17 = some (.iaload, 1) := by decide +kernel
theorem zd180_18 : zop 180 18 = some (.iastore, 1) := by decide +kernel
theorem zd180_19 : zop 180 19 = some (.aload_n 0, 1) := by decide +kernel
theorem zd180_20 : zop 180 20 = some (.getfield 53, 3) := by decide +kernel
theorem zd180_23 : zop 180 23 = some (.iconst 5, 1) := by decide +kernel
theorem zd180_24 : zop 180 24 = some (.iload_n 1, 1) := by decide +kernel
theorem zd180_25 : zop 180 25 = some (.iadd, 1) := by decide +kernel
theorem zd180_26 : zop 180 26 = some (.aload_n 0, 1) := by decide +kernel
theorem zd180_27 : zop 180 27 = some (.getfield 26, 3) := by decide +kernel
theorem zd180_30 : zop 180 30 = some (.iload_n 1, 1) := by decide +kernel
theorem zd180_31 : zop 180 31 = some (.iaload, 1) := by decide +kernel
theorem zd180_32 : zop 180 32 = some (.iastore, 1) := by decide +kernel
theorem zd180_33 : zop 180 33 = some (.aload_n 0, 1) := by decide +kernel
theorem zd180_34 : zop 180 34 = some (.getfield 53, 3) := by decide +kernel
theorem zd180_37 : zop 180 37 = some (.bipush 10, 2) := by decide +kernel
theorem zd180_39 : zop 180 39 = some (.iload_n 1, 1) := by decide +kernel
theorem zd180_40 : zop 180 40 = some (.iadd, 1) := by decide +kernel
theorem zd180_41 : zop 180 41 = some (.aload_n 0, 1) := by decide +kernel
theorem zd180_42 : zop 180 42 = some (.getfield 32, 3) := by decide +kernel
theorem zd180_45 : zop 180 45 = some (.iconst 2, 1) := by decide +kernel
theorem zd180_46 : zop 180 46 = some (.iload_n 1, 1) := by decide +kernel
theorem zd180_47 : zop 180 47 = some (.imul, 1) := by decide +kernel
theorem zd180_48 : zop 180 48 = some (.iconst 1, 1) := by decide +kernel
theorem zd180_49 : zop 180 49 = some (.iadd, 1) := by decide +kernel
theorem zd180_50 : zop 180 50 = some (.iaload, 1) := by decide +kernel
theorem zd180_51 : zop 180 51 = some (.iastore, 1) := by decide +kernel
theorem zd180_52 : zop 180 52 = some (.iinc 1 1, 3) := by decide +kernel
theorem zd180_55 : zop 180 55 = some (.goto (-53), 3) := by decide +kernel
theorem zd180_58 : zop 180 58 = some (.aload_n 0, 1) := by decide +kernel
theorem zd180_59 : zop 180 59 = some (.getfield 53, 3) := by decide +kernel
theorem zd180_62 : zop 180 62 = some (.bipush 15, 2) := by decide +kernel
theorem zd180_64 : zop 180 64 = some (.aload_n 0, 1) := by decide +kernel
theorem zd180_65 : zop 180 65 = some (.getfield 126, 3) := by decide +kernel
theorem zd180_68 : zop 180 68 = some (.iastore, 1) := by decide +kernel
theorem zd180_69 : zop 180 69 = some (.return_, 1) := by decide +kernel
theorem b180_0 {x : zXs} {F : zF} (hF : zSh F) {d : Nat} {V : Nat → Nat → Int32} {T : Nat → Nat → Int64} {Q : Option Value → zG → Prop} {o0 : Option Value} {o1 : Option Value}   (k : E x F d 180 2 [o0, some (.int (Int32.ofInt 0))] [] (V, T) Q) : E x F d 180 0 [o0, o1] [] (V, T) Q := by
  refine e_iconst zd180_0 ?_
  refine e_istore_n zd180_1 (by decide +kernel) (Nat.le_of_ble_eq_true rfl) ?_
  exact k
theorem b180_2 {x : zXs} {F : zF} (hF : zSh F) {d : Nat} {V : Nat → Nat → Int32} {T : Nat → Nat → Int64} {Q : Option Value → zG → Prop} {o0 : Option Value} {l1 : Int32}   (kt : (Int32.ofInt 5) ≤ l1 → E x F d 180 58 [o0, some (.int l1)] [] (V, T) Q) (kf : ¬ ((Int32.ofInt 5) ≤ l1) → E x F d 180 7 [o0, some (.int l1)] [] (V, T) Q) : E x F d 180 2 [o0, some (.int l1)] [] (V, T) Q := by
  refine e_iload_n zd180_2 rfl ?_
  refine e_iconst zd180_3 ?_
  exact e_icmp_ge zd180_4 (tg := 58) rfl kt kf
theorem b180_7 {x : zXs} {F : zF} (hF : zSh F) {d : Nat} {V : Nat → Nat → Int32} {T : Nat → Nat → Int64} {Q : Option Value → zG → Prop} {l1 : Int32}  {i1 : Nat} (e1 : l1 = nI i1) (h1 : i1 < 5) {i2 : Nat} (e2 : l1 = nI i2) (h2 : i2 < 21) {i3 : Nat} (e3 : l1 = nI i3) (h3 : i3 < 5) {i4 : Nat} (e4 : (Int32.ofInt 5) + l1 = nI i4) (h4 : i4 < 21) {i5 : Nat} (e5 : ((Int32.ofInt 2) * l1) + (Int32.ofInt 1) = nI i5) (h5 : i5 < 10) {i6 : Nat} (e6 : (Int32.ofInt 10) + l1 = nI i6) (h6 : i6 < 21) (k : E x F d 180 2 [some (.ref 59), some (.int (l1 + Int32.ofInt 1))] [] (zu (zu (zu V 73 i2 (V 63 i1)) 73 i4 ((zu V 73 i2 (V 63 i1)) 64 i3)) 73 i6 ((zu (zu V 73 i2 (V 63 i1)) 73 i4 ((zu V 73 i2 (V 63 i1)) 64 i3)) 66 i5), T) Q) : E x F d 180 7 [some (.ref 59), some (.int l1)] [] (V, T) Q := by
  refine e_aload_n zd180_7 rfl rfl ?_
  refine e_getA zd180_8 (own := 8) (ci := 8) (kf := 34) (w := 892) (by decide +kernel) (by decide +kernel) (zsh_at hF rfl).1 (by decide +kernel) rfl (zrf_at hF (i := 72) rfl) ?_
  refine e_iload_n zd180_11 rfl ?_
  refine e_aload_n zd180_12 rfl rfl ?_
  refine e_getA zd180_13 (own := 8) (ci := 8) (kf := 8) (w := 866) (by decide +kernel) (by decide +kernel) (zsh_at hF rfl).1 (by decide +kernel) rfl (zrf_at hF (i := 62) rfl) ?_
  refine e_iload_n zd180_16 rfl ?_
  refine e_iald zd180_17 (i := i1) (zsh_at hF rfl) e1 h1 (by omega) ?_
  refine e_iast zd180_18 (i := i2) (zsh_at hF rfl) e2 h2 (by omega) ?_
  refine e_aload_n zd180_19 rfl rfl ?_
  refine e_getA zd180_20 (own := 8) (ci := 8) (kf := 34) (w := 892) (by decide +kernel) (by decide +kernel) (zsh_at hF rfl).1 (by decide +kernel) rfl (zrf_at hF (i := 72) rfl) ?_
  refine e_iconst zd180_23 ?_
  refine e_iload_n zd180_24 rfl ?_
  refine e_iadd zd180_25 ?_
  refine e_aload_n zd180_26 rfl rfl ?_
  refine e_getA zd180_27 (own := 8) (ci := 8) (kf := 9) (w := 867) (by decide +kernel) (by decide +kernel) (zsh_at hF rfl).1 (by decide +kernel) rfl (zrf_at hF (i := 63) rfl) ?_
  refine e_iload_n zd180_30 rfl ?_
  refine e_iald zd180_31 (i := i3) (zsh_at hF rfl) e3 h3 (by omega) ?_
  refine e_iast zd180_32 (i := i4) (zsh_at hF rfl) e4 h4 (by omega) ?_
  refine e_aload_n zd180_33 rfl rfl ?_
  refine e_getA zd180_34 (own := 8) (ci := 8) (kf := 34) (w := 892) (by decide +kernel) (by decide +kernel) (zsh_at hF rfl).1 (by decide +kernel) rfl (zrf_at hF (i := 72) rfl) ?_
  refine e_bipush zd180_37 (v := Int32.ofInt 10) (by decide +kernel) ?_
  refine e_iload_n zd180_39 rfl ?_
  refine e_iadd zd180_40 ?_
  refine e_aload_n zd180_41 rfl rfl ?_
  refine e_getA zd180_42 (own := 8) (ci := 8) (kf := 11) (w := 869) (by decide +kernel) (by decide +kernel) (zsh_at hF rfl).1 (by decide +kernel) rfl (zrf_at hF (i := 65) rfl) ?_
  refine e_iconst zd180_45 ?_
  refine e_iload_n zd180_46 rfl ?_
  refine e_imul zd180_47 ?_
  refine e_iconst zd180_48 ?_
  refine e_iadd zd180_49 ?_
  refine e_iald zd180_50 (i := i5) (zsh_at hF rfl) e5 h5 (by omega) ?_
  refine e_iast zd180_51 (i := i6) (zsh_at hF rfl) e6 h6 (by omega) ?_
  refine e_iinc zd180_52 rfl (by decide +kernel) ?_
  exact e_goto zd180_55 (tg := 2) rfl k
theorem b180_58 {x : zXs} {F : zF} (hF : zSh F) {d : Nat} {V : Nat → Nat → Int32} {T : Nat → Nat → Int64} {Q : Option Value → zG → Prop} {o1 : Option Value}   (k : Q none (zu V 73 15 (V 59 7), T)) : E x F d 180 58 [some (.ref 59), o1] [] (V, T) Q := by
  refine e_aload_n zd180_58 rfl rfl ?_
  refine e_getA zd180_59 (own := 8) (ci := 8) (kf := 34) (w := 892) (by decide +kernel) (by decide +kernel) (zsh_at hF rfl).1 (by decide +kernel) rfl (zrf_at hF (i := 72) rfl) ?_
  refine e_bipush zd180_62 (v := Int32.ofInt 15) (by decide +kernel) ?_
  refine e_aload_n zd180_64 rfl rfl ?_
  refine e_getI zd180_65 (own := 8) (ci := 8) (kf := 7) (w := 865) (by decide +kernel) (by decide +kernel) (zsh_at hF rfl).1 (by decide +kernel) rfl ?_
  refine e_iast zd180_68 (i := 15) (zsh_at hF rfl) rfl (by omega) (by omega) ?_
  exact e_vret zd180_69 zs180 k
theorem zd181_0 : zop 181 0 = some (.iconst 0, 1) := by decide +kernel
theorem zd181_1 : zop 181 1 = some (.istore_n 1, 1) := by decide +kernel
theorem zd181_2 : zop 181 2 = some (.iload_n 1, 1) := by decide +kernel
theorem zd181_3 : zop 181 3 = some (.iconst 5, 1) := by decide +kernel
theorem zd181_4 : zop 181 4 = some (.if_icmp .ge 54, 3) := by decide +kernel
theorem zd181_7 : zop 181 7 = some (.aload_n 0, 1) := by decide +kernel
theorem zd181_8 : zop 181 8 = some (.getfield 23, 3) := by decide +kernel
theorem zd181_11 : zop 181 11 = some (.iload_n 1, 1) := by decide +kernel
theorem zd181_12 : zop 181 12 = some (.aload_n 0, 1) := by decide +kernel
theorem zd181_13 : zop 181 13 = some (.getfield 53, 3) := by decide +kernel
theorem zd181_16 : zop 181 16 = some (.iload_n 1, 1) := by decide +kernel
theorem zd181_17 : zop 181 17 = some (.iaload, 1) := by decide +kernel
theorem zd181_18 : zop 181 18 = some (.iastore, 1) := by decide +kernel
theorem zd181_19 : zop 181 19 = some (.aload_n 0, 1) := by decide +kernel
theorem zd181_20 : zop 181 20 = some (.getfield 26, 3) := by decide +kernel
theorem zd181_23 : zop 181 23 = some (.iload_n 1, 1) := by decide +kernel
theorem zd181_24 : zop 181 24 = some (.aload_n 0, 1) := by decide +kernel
theorem zd181_25 : zop 181 25 = some (.getfield 53, 3) := by decide +kernel
theorem zd181_28 : zop 181 28 = some (.iconst 5, 1) := by decide +kernel
theorem zd181_29 : zop 181 29 = some (.iload_n 1, 1) := by decide +kernel
theorem zd181_30 : zop 181 30 = some (.iadd, 1) := by decide +kernel
theorem zd181_31 : zop 181 31 = some (.iaload, 1) := by decide +kernel
theorem zd181_32 : zop 181 32 = some (.iastore, 1) := by decide +kernel
theorem zd181_33 : zop 181 33 = some (.aload_n 0, 1) := by decide +kernel
theorem zd181_34 : zop 181 34 = some (.getfield 32, 3) := by decide +kernel
theorem zd181_37 : zop 181 37 = some (.iconst 2, 1) := by decide +kernel
theorem zd181_38 : zop 181 38 = some (.iload_n 1, 1) := by decide +kernel
theorem zd181_39 : zop 181 39 = some (.imul, 1) := by decide +kernel
theorem zd181_40 : zop 181 40 = some (.iconst 1, 1) := by decide +kernel
theorem zd181_41 : zop 181 41 = some (.iadd, 1) := by decide +kernel
theorem zd181_42 : zop 181 42 = some (.aload_n 0, 1) := by decide +kernel
theorem zd181_43 : zop 181 43 = some (.getfield 53, 3) := by decide +kernel
theorem zd181_46 : zop 181 46 = some (.bipush 10, 2) := by decide +kernel
theorem zd181_48 : zop 181 48 = some (.iload_n 1, 1) := by decide +kernel
theorem zd181_49 : zop 181 49 = some (.iadd, 1) := by decide +kernel
theorem zd181_50 : zop 181 50 = some (.iaload, 1) := by decide +kernel
theorem zd181_51 : zop 181 51 = some (.iastore, 1) := by decide +kernel
theorem zd181_52 : zop 181 52 = some (.iinc 1 1, 3) := by decide +kernel
theorem zd181_55 : zop 181 55 = some (.goto (-53), 3) := by decide +kernel
theorem zd181_58 : zop 181 58 = some (.aload_n 0, 1) := by decide +kernel
theorem zd181_59 : zop 181 59 = some (.aload_n 0, 1) := by decide +kernel
theorem zd181_60 : zop 181 60 = some (.getfield 53, 3) := by decide +kernel
theorem zd181_63 : zop 181 63 = some (.bipush 15, 2) := by decide +kernel
theorem zd181_65 : zop 181 65 = some (.iaload, 1) := by decide +kernel
theorem zd181_66 : zop 181 66 = some (.putfield 126, 3) := by decide +kernel
theorem zd181_69 : zop 181 69 = some (.return_, 1) := by decide +kernel
theorem b181_0 {x : zXs} {F : zF} (hF : zSh F) {d : Nat} {V : Nat → Nat → Int32} {T : Nat → Nat → Int64} {Q : Option Value → zG → Prop} {o0 : Option Value} {o1 : Option Value}   (k : E x F d 181 2 [o0, some (.int (Int32.ofInt 0))] [] (V, T) Q) : E x F d 181 0 [o0, o1] [] (V, T) Q := by
  refine e_iconst zd181_0 ?_
  refine e_istore_n zd181_1 (by decide +kernel) (Nat.le_of_ble_eq_true rfl) ?_
  exact k
theorem b181_2 {x : zXs} {F : zF} (hF : zSh F) {d : Nat} {V : Nat → Nat → Int32} {T : Nat → Nat → Int64} {Q : Option Value → zG → Prop} {o0 : Option Value} {l1 : Int32}   (kt : (Int32.ofInt 5) ≤ l1 → E x F d 181 58 [o0, some (.int l1)] [] (V, T) Q) (kf : ¬ ((Int32.ofInt 5) ≤ l1) → E x F d 181 7 [o0, some (.int l1)] [] (V, T) Q) : E x F d 181 2 [o0, some (.int l1)] [] (V, T) Q := by
  refine e_iload_n zd181_2 rfl ?_
  refine e_iconst zd181_3 ?_
  exact e_icmp_ge zd181_4 (tg := 58) rfl kt kf
theorem b181_7 {x : zXs} {F : zF} (hF : zSh F) {d : Nat} {V : Nat → Nat → Int32} {T : Nat → Nat → Int64} {Q : Option Value → zG → Prop} {l1 : Int32}  {i1 : Nat} (e1 : l1 = nI i1) (h1 : i1 < 21) {i2 : Nat} (e2 : l1 = nI i2) (h2 : i2 < 5) {i3 : Nat} (e3 : (Int32.ofInt 5) + l1 = nI i3) (h3 : i3 < 21) {i4 : Nat} (e4 : l1 = nI i4) (h4 : i4 < 5) {i5 : Nat} (e5 : (Int32.ofInt 10) + l1 = nI i5) (h5 : i5 < 21) {i6 : Nat} (e6 : ((Int32.ofInt 2) * l1) + (Int32.ofInt 1) = nI i6) (h6 : i6 < 10) (k : E x F d 181 2 [some (.ref 59), some (.int (l1 + Int32.ofInt 1))] [] (zu (zu (zu V 63 i2 (V 73 i1)) 64 i4 ((zu V 63 i2 (V 73 i1)) 73 i3)) 66 i6 ((zu (zu V 63 i2 (V 73 i1)) 64 i4 ((zu V 63 i2 (V 73 i1)) 73 i3)) 73 i5), T) Q) : E x F d 181 7 [some (.ref 59), some (.int l1)] [] (V, T) Q := by
  refine e_aload_n zd181_7 rfl rfl ?_
  refine e_getA zd181_8 (own := 8) (ci := 8) (kf := 8) (w := 866) (by decide +kernel) (by decide +kernel) (zsh_at hF rfl).1 (by decide +kernel) rfl (zrf_at hF (i := 62) rfl) ?_
  refine e_iload_n zd181_11 rfl ?_
  refine e_aload_n zd181_12 rfl rfl ?_
  refine e_getA zd181_13 (own := 8) (ci := 8) (kf := 34) (w := 892) (by decide +kernel) (by decide +kernel) (zsh_at hF rfl).1 (by decide +kernel) rfl (zrf_at hF (i := 72) rfl) ?_
  refine e_iload_n zd181_16 rfl ?_
  refine e_iald zd181_17 (i := i1) (zsh_at hF rfl) e1 h1 (by omega) ?_
  refine e_iast zd181_18 (i := i2) (zsh_at hF rfl) e2 h2 (by omega) ?_
  refine e_aload_n zd181_19 rfl rfl ?_
  refine e_getA zd181_20 (own := 8) (ci := 8) (kf := 9) (w := 867) (by decide +kernel) (by decide +kernel) (zsh_at hF rfl).1 (by decide +kernel) rfl (zrf_at hF (i := 63) rfl) ?_
  refine e_iload_n zd181_23 rfl ?_
  refine e_aload_n zd181_24 rfl rfl ?_
  refine e_getA zd181_25 (own := 8) (ci := 8) (kf := 34) (w := 892) (by decide +kernel) (by decide +kernel) (zsh_at hF rfl).1 (by decide +kernel) rfl (zrf_at hF (i := 72) rfl) ?_
  refine e_iconst zd181_28 ?_
  refine e_iload_n zd181_29 rfl ?_
  refine e_iadd zd181_30 ?_
  refine e_iald zd181_31 (i := i3) (zsh_at hF rfl) e3 h3 (by omega) ?_
  refine e_iast zd181_32 (i := i4) (zsh_at hF rfl) e4 h4 (by omega) ?_
  refine e_aload_n zd181_33 rfl rfl ?_
  refine e_getA zd181_34 (own := 8) (ci := 8) (kf := 11) (w := 869) (by decide +kernel) (by decide +kernel) (zsh_at hF rfl).1 (by decide +kernel) rfl (zrf_at hF (i := 65) rfl) ?_
  refine e_iconst zd181_37 ?_
  refine e_iload_n zd181_38 rfl ?_
  refine e_imul zd181_39 ?_
  refine e_iconst zd181_40 ?_
  refine e_iadd zd181_41 ?_
  refine e_aload_n zd181_42 rfl rfl ?_
  refine e_getA zd181_43 (own := 8) (ci := 8) (kf := 34) (w := 892) (by decide +kernel) (by decide +kernel) (zsh_at hF rfl).1 (by decide +kernel) rfl (zrf_at hF (i := 72) rfl) ?_
  refine e_bipush zd181_46 (v := Int32.ofInt 10) (by decide +kernel) ?_
  refine e_iload_n zd181_48 rfl ?_
  refine e_iadd zd181_49 ?_
  refine e_iald zd181_50 (i := i5) (zsh_at hF rfl) e5 h5 (by omega) ?_
  refine e_iast zd181_51 (i := i6) (zsh_at hF rfl) e6 h6 (by omega) ?_
  refine e_iinc zd181_52 rfl (by decide +kernel) ?_
  exact e_goto zd181_55 (tg := 2) rfl k
theorem b181_58 {x : zXs} {F : zF} (hF : zSh F) {d : Nat} {V : Nat → Nat → Int32} {T : Nat → Nat → Int64} {Q : Option Value → zG → Prop} {o1 : Option Value}   (k : Q none (zu V 59 7 (V 73 15), T)) : E x F d 181 58 [some (.ref 59), o1] [] (V, T) Q := by
  refine e_aload_n zd181_58 rfl rfl ?_
  refine e_aload_n zd181_59 rfl rfl ?_
  refine e_getA zd181_60 (own := 8) (ci := 8) (kf := 34) (w := 892) (by decide +kernel) (by decide +kernel) (zsh_at hF rfl).1 (by decide +kernel) rfl (zrf_at hF (i := 72) rfl) ?_
  refine e_bipush zd181_63 (v := Int32.ofInt 15) (by decide +kernel) ?_
  refine e_iald zd181_65 (i := 15) (zsh_at hF rfl) rfl (by omega) (by omega) ?_
  refine e_putI zd181_66 (own := 8) (ci := 8) (kf := 7) (w := 865) (by decide +kernel) (by decide +kernel) (zsh_at hF rfl).1 (by decide +kernel) rfl ?_
  exact e_vret zd181_69 zs181 k
theorem zd182_0 : zop 182 0 = some (.aload_n 0, 1) := by decide +kernel
theorem zd182_1 : zop 182 1 = some (.iload_n 1, 1) := by decide +kernel
theorem zd182_2 : zop 182 2 = some (.invokevirtual 112, 3) := by decide +kernel
theorem zd182_5 : zop 182 5 = some (.ifCond .eq 33, 3) := by decide +kernel
theorem zd182_8 : zop 182 8 = some (.iload_n 2, 1) := by decide +kernel
theorem zd182_9 : zop 182 9 = some (.invokestatic 97, 3) := by decide +kernel
theorem zd182_12 : zop 182 12 = some (.ifCond .eq 26, 3) := by decide +kernel
theorem zd182_15 : zop 182 15 = some (.iload_n 3, 1) := by decide +kernel
theorem zd182_16 : zop 182 16 = some (.i2l, 1) := by decide +kernel
theorem zd182_17 : zop 182 17 = some (.lconst 0, 1) := by decide +kernel
theorem zd182_18 : zop 182 18 = some (.ldc2_w 306, 3) := by decide +kernel
theorem zd182_21 : zop 182 21 = some (.invokestatic 91, 3) := by decide +kernel
theorem zd182_24 : zop 182 24 = some (.ifCond .eq 14, 3) := by decide +kernel
theorem zd182_27 : zop 182 27 = some (.iload 4, 2) := by decide +kernel
theorem zd182_29 : zop 182 29 = some (.i2l, 1) := by decide +kernel
theorem zd182_30 : zop 182 30 = some (.lconst 0, 1) := by decide +kernel
theorem zd182_31 : zop 182 31 = some (.lconst 1, 1) := by decide +kernel
theorem zd182_32 : zop 182 32 = some (.invokestatic 91, 3) := by decide +kernel
theorem zd182_35 : zop 182 35 = some (.ifCond .ne 6, 3) := by decide +kernel
theorem zd182_38 : zop 182 38 = some (.bipush (-2), 2) := by decide +kernel
theorem zd182_40 : zop 182 40 = some (.ireturn, 1) := by decide +kernel
theorem zd182_41 : zop 182 41 = some (.aload_n 0, 1) := by decide +kernel
theorem zd182_42 : zop 182 42 = some (.invokevirtual 297, 3) := by decide +kernel
theorem zd182_45 : zop 182 45 = some (.aload_n 0, 1) := by decide +kernel
theorem zd182_46 : zop 182 46 = some (.iload_n 2, 1) := by decide +kernel
theorem zd182_47 : zop 182 47 = some (.iload_n 3, 1) := by decide +kernel
theorem zd182_48 : zop 182 48 = some (.invokevirtual 308, 3) := by decide +kernel
theorem zd182_51 : zop 182 51 = some (.iload 4, 2) := by decide +kernel
theorem zd182_53 : zop 182 53 = some (.ifCond .ne 16, 3) := by decide +kernel
theorem zd182_56 : zop 182 56 = some (.aload_n 0, 1) := by decide +kernel
theorem zd182_57 : zop 182 57 = some (.getfield 32, 3) := by decide +kernel
theorem zd182_60 : zop 182 60 = some (.iconst 2, 1) := by decide +kernel
theorem zd182_61 : zop 182 61 = some (.iload_n 1, 1) := by decide +kernel
theorem zd182_62 : zop 182 62 = some (.imul, 1) := by decide +kernel
theorem zd182_63 : zop 182 63 = some (.iconst 1, 1) := by decide +kernel
theorem zd182_64 : zop 182 64 = some (.iadd, 1) := by decide +kernel
theorem zd182_65 : zop 182 65 = some (.iaload, 1) := by decide +kernel
theorem zd182_66 : zop 182 66 = some (.goto 8, 3) := by decide +kernel
theorem zd182_69 : zop 182 69 = some (.aload_n 0, 1) := by decide +kernel
theorem zd182_70 : zop 182 70 = some (.iload_n 2, 1) := by decide +kernel
theorem zd182_71 : zop 182 71 = some (.invokevirtual 103, 3) := by decide +kernel
theorem zd182_74 : zop 182 74 = some (.istore 5, 2) := by decide +kernel
theorem zd182_76 : zop 182 76 = some (.aload_n 0, 1) := by decide +kernel
theorem zd182_77 : zop 182 77 = some (.invokevirtual 300, 3) := by decide +kernel
theorem zd182_80 : zop 182 80 = some (.iload 5, 2) := by decide +kernel
theorem zd182_82 : zop 182 82 = some (.ireturn, 1) := by decide +kernel
theorem b182_0 {x : zXs} {F : zF} (hF : zSh F) {d : Nat} {V : Nat → Nat → Int32} {T : Nat → Nat → Int64} {Q : Option Value → zG → Prop} {l1 : Int32} {o2 : Option Value} {o3 : Option Value} {o4 : Option Value} {o5 : Option Value}   (k : E x F d 136 0 [some (.ref 59), some (.int l1)] [] (V, T) (fun r G' => E x F (d + 1) 182 5 [some (.ref 59), some (.int l1), o2, o3, o4, o5] (r.toList ++ []) G' Q)) : E x F (d + 1) 182 0 [some (.ref 59), some (.int l1), o2, o3, o4, o5] [] (V, T) Q := by
  refine e_aload_n zd182_0 rfl rfl ?_
  refine e_iload_n zd182_1 rfl ?_
  exact e_callV zd182_2 (own := 8) (nest := false) (w := 1025) (by decide +kernel) (by decide +kernel) zs136 (as := [.int l1]) (rest := []) rfl rfl (zsh_at hF rfl).1 (by omega) (Nat.le_of_ble_eq_true rfl) rfl rfl rfl (by omega) k
theorem b182_5 {x : zXs} {F : zF} (hF : zSh F) {d : Nat} {V : Nat → Nat → Int32} {T : Nat → Nat → Int64} {Q : Option Value → zG → Prop} {o0 : Option Value} {o1 : Option Value} {o2 : Option Value} {o3 : Option Value} {o4 : Option Value} {o5 : Option Value} {s0 : Int32}   (kt : s0 = 0 → E x F d 182 38 [o0, o1, o2, o3, o4, o5] [] (V, T) Q) (kf : ¬ (s0 = 0) → E x F d 182 8 [o0, o1, o2, o3, o4, o5] [] (V, T) Q) : E x F d 182 5 [o0, o1, o2, o3, o4, o5] [.int s0] (V, T) Q := by
  exact e_if_eq zd182_5 (tg := 38) rfl kt kf
theorem b182_8 {x : zXs} {F : zF} (hF : zSh F) {d : Nat} {V : Nat → Nat → Int32} {T : Nat → Nat → Int64} {Q : Option Value → zG → Prop} {o0 : Option Value} {o1 : Option Value} {l2 : Int32} {o3 : Option Value} {o4 : Option Value} {o5 : Option Value}   (k : E x F d 131 0 [some (.int l2)] [] (V, T) (fun r G' => E x F (d + 1) 182 12 [o0, o1, some (.int l2), o3, o4, o5] (r.toList ++ []) G' Q)) : E x F (d + 1) 182 8 [o0, o1, some (.int l2), o3, o4, o5] [] (V, T) Q := by
  refine e_iload_n zd182_8 rfl ?_
  exact e_callS zd182_9 (own := 8) (nest := false) (w := 1005) (by decide +kernel) (by decide +kernel) zs131 (as := [.int l2]) (rest := []) rfl rfl (Nat.le_of_ble_eq_true rfl) rfl rfl rfl (by omega) k
theorem b182_12 {x : zXs} {F : zF} (hF : zSh F) {d : Nat} {V : Nat → Nat → Int32} {T : Nat → Nat → Int64} {Q : Option Value → zG → Prop} {o0 : Option Value} {o1 : Option Value} {o2 : Option Value} {o3 : Option Value} {o4 : Option Value} {o5 : Option Value} {s0 : Int32}   (kt : s0 = 0 → E x F d 182 38 [o0, o1, o2, o3, o4, o5] [] (V, T) Q) (kf : ¬ (s0 = 0) → E x F d 182 15 [o0, o1, o2, o3, o4, o5] [] (V, T) Q) : E x F d 182 12 [o0, o1, o2, o3, o4, o5] [.int s0] (V, T) Q := by
  exact e_if_eq zd182_12 (tg := 38) rfl kt kf
theorem b182_15 {x : zXs} {F : zF} (hF : zSh F) {d : Nat} {V : Nat → Nat → Int32} {T : Nat → Nat → Int64} {Q : Option Value → zG → Prop} {o0 : Option Value} {o1 : Option Value} {o2 : Option Value} {l3 : Int32} {o4 : Option Value} {o5 : Option Value}   (k : E x F d 132 0 [some (.long l3.toInt64), none, some (.long 0), none, some (.long (20 : Int64)), none] [] (V, T) (fun r G' => E x F (d + 1) 182 24 [o0, o1, o2, some (.int l3), o4, o5] (r.toList ++ []) G' Q)) : E x F (d + 1) 182 15 [o0, o1, o2, some (.int l3), o4, o5] [] (V, T) Q := by
  refine e_iload_n zd182_15 rfl ?_
  refine e_i2l zd182_16 ?_
  refine e_lconst zd182_17 (v := 0) rfl ?_
  refine e_ldc2 zd182_18 (own := 8) (w := 1222) (v := 20) (by decide +kernel) (by decide +kernel) ?_
  exact e_callS zd182_21 (own := 8) (nest := false) (w := 1009) (by decide +kernel) (by decide +kernel) zs132 (as := [.long l3.toInt64, .long 0, .long (20 : Int64)]) (rest := []) rfl rfl (Nat.le_of_ble_eq_true rfl) rfl rfl rfl (by omega) k
theorem b182_24 {x : zXs} {F : zF} (hF : zSh F) {d : Nat} {V : Nat → Nat → Int32} {T : Nat → Nat → Int64} {Q : Option Value → zG → Prop} {o0 : Option Value} {o1 : Option Value} {o2 : Option Value} {o3 : Option Value} {o4 : Option Value} {o5 : Option Value} {s0 : Int32}   (kt : s0 = 0 → E x F d 182 38 [o0, o1, o2, o3, o4, o5] [] (V, T) Q) (kf : ¬ (s0 = 0) → E x F d 182 27 [o0, o1, o2, o3, o4, o5] [] (V, T) Q) : E x F d 182 24 [o0, o1, o2, o3, o4, o5] [.int s0] (V, T) Q := by
  exact e_if_eq zd182_24 (tg := 38) rfl kt kf
theorem b182_27 {x : zXs} {F : zF} (hF : zSh F) {d : Nat} {V : Nat → Nat → Int32} {T : Nat → Nat → Int64} {Q : Option Value → zG → Prop} {o0 : Option Value} {o1 : Option Value} {o2 : Option Value} {o3 : Option Value} {l4 : Int32} {o5 : Option Value}   (k : E x F d 132 0 [some (.long l4.toInt64), none, some (.long 0), none, some (.long 1), none] [] (V, T) (fun r G' => E x F (d + 1) 182 35 [o0, o1, o2, o3, some (.int l4), o5] (r.toList ++ []) G' Q)) : E x F (d + 1) 182 27 [o0, o1, o2, o3, some (.int l4), o5] [] (V, T) Q := by
  refine e_iload zd182_27 rfl ?_
  refine e_i2l zd182_29 ?_
  refine e_lconst zd182_30 (v := 0) rfl ?_
  refine e_lconst zd182_31 (v := 1) rfl ?_
  exact e_callS zd182_32 (own := 8) (nest := false) (w := 1009) (by decide +kernel) (by decide +kernel) zs132 (as := [.long l4.toInt64, .long 0, .long 1]) (rest := []) rfl rfl (Nat.le_of_ble_eq_true rfl) rfl rfl rfl (by omega) k
theorem b182_35 {x : zXs} {F : zF} (hF : zSh F) {d : Nat} {V : Nat → Nat → Int32} {T : Nat → Nat → Int64} {Q : Option Value → zG → Prop} {o0 : Option Value} {o1 : Option Value} {o2 : Option Value} {o3 : Option Value} {o4 : Option Value} {o5 : Option Value} {s0 : Int32}   (kt : ¬ s0 = 0 → E x F d 182 41 [o0, o1, o2, o3, o4, o5] [] (V, T) Q) (kf : ¬ (¬ s0 = 0) → E x F d 182 38 [o0, o1, o2, o3, o4, o5] [] (V, T) Q) : E x F d 182 35 [o0, o1, o2, o3, o4, o5] [.int s0] (V, T) Q := by
  exact e_if_ne zd182_35 (tg := 41) rfl kt kf
theorem b182_38 {x : zXs} {F : zF} (hF : zSh F) {d : Nat} {V : Nat → Nat → Int32} {T : Nat → Nat → Int64} {Q : Option Value → zG → Prop} {o0 : Option Value} {o1 : Option Value} {o2 : Option Value} {o3 : Option Value} {o4 : Option Value} {o5 : Option Value}   (k : Q (some (.int (Int32.ofInt (-2)))) (V, T)) : E x F d 182 38 [o0, o1, o2, o3, o4, o5] [] (V, T) Q := by
  refine e_bipush zd182_38 (v := Int32.ofInt (-2)) (by decide +kernel) ?_
  exact e_ireti zd182_40 zs182 k
theorem b182_41 {x : zXs} {F : zF} (hF : zSh F) {d : Nat} {V : Nat → Nat → Int32} {T : Nat → Nat → Int64} {Q : Option Value → zG → Prop} {o1 : Option Value} {o2 : Option Value} {o3 : Option Value} {o4 : Option Value} {o5 : Option Value}   (k : E x F d 180 0 [some (.ref 59), none] [] (V, T) (fun r G' => E x F (d + 1) 182 45 [some (.ref 59), o1, o2, o3, o4, o5] (r.toList ++ []) G' Q)) : E x F (d + 1) 182 41 [some (.ref 59), o1, o2, o3, o4, o5] [] (V, T) Q := by
  refine e_aload_n zd182_41 rfl rfl ?_
  exact e_callV zd182_42 (own := 8) (nest := false) (w := 1210) (by decide +kernel) (by decide +kernel) zs180 (as := []) (rest := []) rfl rfl (zsh_at hF rfl).1 (by omega) (Nat.le_of_ble_eq_true rfl) rfl rfl rfl (by omega) k
theorem b182_45 {x : zXs} {F : zF} (hF : zSh F) {d : Nat} {V : Nat → Nat → Int32} {T : Nat → Nat → Int64} {Q : Option Value → zG → Prop} {o1 : Option Value} {l2 : Int32} {l3 : Int32} {o4 : Option Value} {o5 : Option Value}   (k : E x F d 183 0 [some (.ref 59), some (.int l2), some (.int l3), none, none] [] (V, T) (fun r G' => E x F (d + 1) 182 51 [some (.ref 59), o1, some (.int l2), some (.int l3), o4, o5] (r.toList ++ []) G' Q)) : E x F (d + 1) 182 45 [some (.ref 59), o1, some (.int l2), some (.int l3), o4, o5] [] (V, T) Q := by
  refine e_aload_n zd182_45 rfl rfl ?_
  refine e_iload_n zd182_46 rfl ?_
  refine e_iload_n zd182_47 rfl ?_
  exact e_callV zd182_48 (own := 8) (nest := false) (w := 1223) (by decide +kernel) (by decide +kernel) zs183 (as := [.int l2, .int l3]) (rest := []) rfl rfl (zsh_at hF rfl).1 (by omega) (Nat.le_of_ble_eq_true rfl) rfl rfl rfl (by omega) k
theorem b182_51 {x : zXs} {F : zF} (hF : zSh F) {d : Nat} {V : Nat → Nat → Int32} {T : Nat → Nat → Int64} {Q : Option Value → zG → Prop} {o0 : Option Value} {o1 : Option Value} {o2 : Option Value} {o3 : Option Value} {l4 : Int32} {o5 : Option Value}   (kt : ¬ l4 = 0 → E x F d 182 69 [o0, o1, o2, o3, some (.int l4), o5] [] (V, T) Q) (kf : ¬ (¬ l4 = 0) → E x F d 182 56 [o0, o1, o2, o3, some (.int l4), o5] [] (V, T) Q) : E x F d 182 51 [o0, o1, o2, o3, some (.int l4), o5] [] (V, T) Q := by
  refine e_iload zd182_51 rfl ?_
  exact e_if_ne zd182_53 (tg := 69) rfl kt kf
theorem b182_56 {x : zXs} {F : zF} (hF : zSh F) {d : Nat} {V : Nat → Nat → Int32} {T : Nat → Nat → Int64} {Q : Option Value → zG → Prop} {l1 : Int32} {o2 : Option Value} {o3 : Option Value} {o4 : Option Value} {o5 : Option Value}  {i1 : Nat} (e1 : ((Int32.ofInt 2) * l1) + (Int32.ofInt 1) = nI i1) (h1 : i1 < 10) (k : E x F d 182 74 [some (.ref 59), some (.int l1), o2, o3, o4, o5] [.int (V 66 i1)] (V, T) Q) : E x F d 182 56 [some (.ref 59), some (.int l1), o2, o3, o4, o5] [] (V, T) Q := by
  refine e_aload_n zd182_56 rfl rfl ?_
  refine e_getA zd182_57 (own := 8) (ci := 8) (kf := 11) (w := 869) (by decide +kernel) (by decide +kernel) (zsh_at hF rfl).1 (by decide +kernel) rfl (zrf_at hF (i := 65) rfl) ?_
  refine e_iconst zd182_60 ?_
  refine e_iload_n zd182_61 rfl ?_
  refine e_imul zd182_62 ?_
  refine e_iconst zd182_63 ?_
  refine e_iadd zd182_64 ?_
  refine e_iald zd182_65 (i := i1) (zsh_at hF rfl) e1 h1 (by omega) ?_
  exact e_goto zd182_66 (tg := 74) rfl k
theorem b182_69 {x : zXs} {F : zF} (hF : zSh F) {d : Nat} {V : Nat → Nat → Int32} {T : Nat → Nat → Int64} {Q : Option Value → zG → Prop} {o1 : Option Value} {l2 : Int32} {o3 : Option Value} {o4 : Option Value} {o5 : Option Value}   (k : E x F d 133 0 [some (.ref 59), some (.int l2)] [] (V, T) (fun r G' => E x F (d + 1) 182 74 [some (.ref 59), o1, some (.int l2), o3, o4, o5] (r.toList ++ []) G' Q)) : E x F (d + 1) 182 69 [some (.ref 59), o1, some (.int l2), o3, o4, o5] [] (V, T) Q := by
  refine e_aload_n zd182_69 rfl rfl ?_
  refine e_iload_n zd182_70 rfl ?_
  exact e_callV zd182_71 (own := 8) (nest := false) (w := 1013) (by decide +kernel) (by decide +kernel) zs133 (as := [.int l2]) (rest := []) rfl rfl (zsh_at hF rfl).1 (by omega) (Nat.le_of_ble_eq_true rfl) rfl rfl rfl (by omega) k
theorem b182_74 {x : zXs} {F : zF} (hF : zSh F) {d : Nat} {V : Nat → Nat → Int32} {T : Nat → Nat → Int64} {Q : Option Value → zG → Prop} {o1 : Option Value} {o2 : Option Value} {o3 : Option Value} {o4 : Option Value} {o5 : Option Value} {s0 : Int32}   (k : E x F d 181 0 [some (.ref 59), none] [] (V, T) (fun r G' => E x F (d + 1) 182 80 [some (.ref 59), o1, o2, o3, o4, some (.int s0)] (r.toList ++ []) G' Q)) : E x F (d + 1) 182 74 [some (.ref 59), o1, o2, o3, o4, o5] [.int s0] (V, T) Q := by
  refine e_istore zd182_74 (by decide +kernel) (Nat.le_of_ble_eq_true rfl) ?_
  refine e_aload_n zd182_76 rfl rfl ?_
  exact e_callV zd182_77 (own := 8) (nest := false) (w := 1214) (by decide +kernel) (by decide +kernel) zs181 (as := []) (rest := []) rfl rfl (zsh_at hF rfl).1 (by omega) (Nat.le_of_ble_eq_true rfl) rfl rfl rfl (by omega) k
theorem b182_80 {x : zXs} {F : zF} (hF : zSh F) {d : Nat} {V : Nat → Nat → Int32} {T : Nat → Nat → Int64} {Q : Option Value → zG → Prop} {o0 : Option Value} {o1 : Option Value} {o2 : Option Value} {o3 : Option Value} {o4 : Option Value} {l5 : Int32}   (k : Q (some (.int l5)) (V, T)) : E x F d 182 80 [o0, o1, o2, o3, o4, some (.int l5)] [] (V, T) Q := by
  refine e_iload zd182_80 rfl ?_
  exact e_ireti zd182_82 zs182 k
theorem zd183_0 : zop 183 0 = some (.iconst 0, 1) := by decide +kernel
theorem zd183_1 : zop 183 1 = some (.istore_n 3, 1) := by decide +kernel
theorem zd183_2 : zop 183 2 = some (.iload_n 3, 1) := by decide +kernel
theorem zd183_3 : zop 183 3 = some (.iload_n 2, 1) := by decide +kernel
theorem zd183_4 : zop 183 4 = some (.if_icmp .ge 39, 3) := by decide +kernel
theorem zd183_7 : zop 183 7 = some (.iconst 0, 1) := by decide +kernel
theorem zd183_8 : zop 183 8 = some (.istore 4, 2) := by decide +kernel
theorem zd183_10 : zop 183 10 = some (.iload 4, 2) := by decide +kernel
theorem zd183_12 : zop 183 12 = some (.aload_n 0, 1) := by decide +kernel
theorem zd183_13 : zop 183 13 = some (.getfield 88, 3) := by decide +kernel
theorem zd183_16 : zop 183 16 = some (.if_icmp .ge 17, 3) := by decide +kernel
theorem zd183_19 : zop 183 19 = some (.aload_n 0, 1) := by decide +kernel
theorem zd183_20 : zop 183 20 = some (.iload 4, 2) := by decide +kernel
theorem zd183_22 : zop 183 22 = some (.iload_n 1, 1) := by decide +kernel
theorem zd183_23 : zop 183 23 = some (.invokevirtual 285, 3) := by decide +kernel
theorem zd183_26 : zop 183 26 = some (.pop, 1) := by decide +kernel
theorem zd183_27 : zop 183 27 = some (.iinc 4 1, 3) := by decide +kernel
theorem zd183_30 : zop 183 30 = some (.goto (-20), 3) := by decide +kernel
theorem zd183_33 : zop 183 33 = some (.aload_n 0, 1) := by decide +kernel
theorem zd183_34 : zop 183 34 = some (.invokevirtual 291, 3) := by decide +kernel
theorem zd183_37 : zop 183 37 = some (.iinc 3 1, 3) := by decide +kernel
theorem zd183_40 : zop 183 40 = some (.goto (-38), 3) := by decide +kernel
theorem zd183_43 : zop 183 43 = some (.return_, 1) := by decide +kernel
theorem b183_0 {x : zXs} {F : zF} (hF : zSh F) {d : Nat} {V : Nat → Nat → Int32} {T : Nat → Nat → Int64} {Q : Option Value → zG → Prop} {o0 : Option Value} {o1 : Option Value} {o2 : Option Value} {o3 : Option Value} {o4 : Option Value}   (k : E x F d 183 2 [o0, o1, o2, some (.int (Int32.ofInt 0)), o4] [] (V, T) Q) : E x F d 183 0 [o0, o1, o2, o3, o4] [] (V, T) Q := by
  refine e_iconst zd183_0 ?_
  refine e_istore_n zd183_1 (by decide +kernel) (Nat.le_of_ble_eq_true rfl) ?_
  exact k
theorem b183_2 {x : zXs} {F : zF} (hF : zSh F) {d : Nat} {V : Nat → Nat → Int32} {T : Nat → Nat → Int64} {Q : Option Value → zG → Prop} {o0 : Option Value} {o1 : Option Value} {l2 : Int32} {l3 : Int32} {o4 : Option Value}   (kt : l2 ≤ l3 → E x F d 183 43 [o0, o1, some (.int l2), some (.int l3), o4] [] (V, T) Q) (kf : ¬ (l2 ≤ l3) → E x F d 183 7 [o0, o1, some (.int l2), some (.int l3), o4] [] (V, T) Q) : E x F d 183 2 [o0, o1, some (.int l2), some (.int l3), o4] [] (V, T) Q := by
  refine e_iload_n zd183_2 rfl ?_
  refine e_iload_n zd183_3 rfl ?_
  exact e_icmp_ge zd183_4 (tg := 43) rfl kt kf
theorem b183_7 {x : zXs} {F : zF} (hF : zSh F) {d : Nat} {V : Nat → Nat → Int32} {T : Nat → Nat → Int64} {Q : Option Value → zG → Prop} {o0 : Option Value} {o1 : Option Value} {o2 : Option Value} {o3 : Option Value} {o4 : Option Value}   (k : E x F d 183 10 [o0, o1, o2, o3, some (.int (Int32.ofInt 0))] [] (V, T) Q) : E x F d 183 7 [o0, o1, o2, o3, o4] [] (V, T) Q := by
  refine e_iconst zd183_7 ?_
  refine e_istore zd183_8 (by decide +kernel) (Nat.le_of_ble_eq_true rfl) ?_
  exact k
theorem b183_10 {x : zXs} {F : zF} (hF : zSh F) {d : Nat} {V : Nat → Nat → Int32} {T : Nat → Nat → Int64} {Q : Option Value → zG → Prop} {o1 : Option Value} {o2 : Option Value} {o3 : Option Value} {l4 : Int32}   (kt : (V 59 12) ≤ l4 → E x F d 183 33 [some (.ref 59), o1, o2, o3, some (.int l4)] [] (V, T) Q) (kf : ¬ ((V 59 12) ≤ l4) → E x F d 183 19 [some (.ref 59), o1, o2, o3, some (.int l4)] [] (V, T) Q) : E x F d 183 10 [some (.ref 59), o1, o2, o3, some (.int l4)] [] (V, T) Q := by
  refine e_iload zd183_10 rfl ?_
  refine e_aload_n zd183_12 rfl rfl ?_
  refine e_getI zd183_13 (own := 8) (ci := 8) (kf := 12) (w := 870) (by decide +kernel) (by decide +kernel) (zsh_at hF rfl).1 (by decide +kernel) rfl ?_
  exact e_icmp_ge zd183_16 (tg := 33) rfl kt kf
theorem b183_19 {x : zXs} {F : zF} (hF : zSh F) {d : Nat} {V : Nat → Nat → Int32} {T : Nat → Nat → Int64} {Q : Option Value → zG → Prop} {l1 : Int32} {o2 : Option Value} {o3 : Option Value} {l4 : Int32}   (k : E x F d 171 0 [some (.ref 59), some (.int l4), some (.int l1), none, none, none, none, none] [] (V, T) (fun r G' => E x F (d + 1) 183 26 [some (.ref 59), some (.int l1), o2, o3, some (.int l4)] (r.toList ++ []) G' Q)) : E x F (d + 1) 183 19 [some (.ref 59), some (.int l1), o2, o3, some (.int l4)] [] (V, T) Q := by
  refine e_aload_n zd183_19 rfl rfl ?_
  refine e_iload zd183_20 rfl ?_
  refine e_iload_n zd183_22 rfl ?_
  exact e_callV zd183_23 (own := 8) (nest := false) (w := 1174) (by decide +kernel) (by decide +kernel) zs171 (as := [.int l4, .int l1]) (rest := []) rfl rfl (zsh_at hF rfl).1 (by omega) (Nat.le_of_ble_eq_true rfl) rfl rfl rfl (by omega) k
theorem b183_26 {x : zXs} {F : zF} (hF : zSh F) {d : Nat} {V : Nat → Nat → Int32} {T : Nat → Nat → Int64} {Q : Option Value → zG → Prop} {o0 : Option Value} {o1 : Option Value} {o2 : Option Value} {o3 : Option Value} {l4 : Int32} {s0 : Int32}   (k : E x F d 183 10 [o0, o1, o2, o3, some (.int (l4 + Int32.ofInt 1))] [] (V, T) Q) : E x F d 183 26 [o0, o1, o2, o3, some (.int l4)] [.int s0] (V, T) Q := by
  refine e_pop zd183_26 rfl ?_
  refine e_iinc zd183_27 rfl (by decide +kernel) ?_
  exact e_goto zd183_30 (tg := 10) rfl k
theorem b183_33 {x : zXs} {F : zF} (hF : zSh F) {d : Nat} {V : Nat → Nat → Int32} {T : Nat → Nat → Int64} {Q : Option Value → zG → Prop} {o1 : Option Value} {o2 : Option Value} {o3 : Option Value} {o4 : Option Value}   (k : E x F d 176 0 [some (.ref 59), none] [] (V, T) (fun r G' => E x F (d + 1) 183 37 [some (.ref 59), o1, o2, o3, o4] (r.toList ++ []) G' Q)) : E x F (d + 1) 183 33 [some (.ref 59), o1, o2, o3, o4] [] (V, T) Q := by
  refine e_aload_n zd183_33 rfl rfl ?_
  exact e_callV zd183_34 (own := 8) (nest := false) (w := 1194) (by decide +kernel) (by decide +kernel) zs176 (as := []) (rest := []) rfl rfl (zsh_at hF rfl).1 (by omega) (Nat.le_of_ble_eq_true rfl) rfl rfl rfl (by omega) k
theorem b183_37 {x : zXs} {F : zF} (hF : zSh F) {d : Nat} {V : Nat → Nat → Int32} {T : Nat → Nat → Int64} {Q : Option Value → zG → Prop} {o0 : Option Value} {o1 : Option Value} {o2 : Option Value} {l3 : Int32} {o4 : Option Value}   (k : E x F d 183 2 [o0, o1, o2, some (.int (l3 + Int32.ofInt 1)), o4] [] (V, T) Q) : E x F d 183 37 [o0, o1, o2, some (.int l3), o4] [] (V, T) Q := by
  refine e_iinc zd183_37 rfl (by decide +kernel) ?_
  exact e_goto zd183_40 (tg := 2) rfl k
theorem b183_43 {x : zXs} {F : zF} (hF : zSh F) {d : Nat} {V : Nat → Nat → Int32} {T : Nat → Nat → Int64} {Q : Option Value → zG → Prop} {o0 : Option Value} {o1 : Option Value} {o2 : Option Value} {o3 : Option Value} {o4 : Option Value}   (k : Q none (V, T)) : E x F d 183 43 [o0, o1, o2, o3, o4] [] (V, T) Q := by
  exact e_vret zd183_43 zs183 k
theorem zd184_0 : zop 184 0 = some (.aload_n 0, 1) := by decide +kernel
theorem zd184_1 : zop 184 1 = some (.iload_n 1, 1) := by decide +kernel
theorem zd184_2 : zop 184 2 = some (.invokevirtual 112, 3) := by decide +kernel
theorem zd184_5 : zop 184 5 = some (.ifCond .eq 20, 3) := by decide +kernel
theorem zd184_8 : zop 184 8 = some (.iload_n 2, 1) := by decide +kernel
theorem zd184_9 : zop 184 9 = some (.invokestatic 97, 3) := by decide +kernel
theorem zd184_12 : zop 184 12 = some (.ifCond .eq 13, 3) := by decide +kernel
theorem zd184_15 : zop 184 15 = some (.iload_n 3, 1) := by decide +kernel
theorem zd184_16 : zop 184 16 = some (.i2l, 1) := by decide +kernel
theorem zd184_17 : zop 184 17 = some (.lconst 0, 1) := by decide +kernel
theorem zd184_18 : zop 184 18 = some (.lconst 1, 1) := by decide +kernel
theorem zd184_19 : zop 184 19 = some (.invokestatic 91, 3) := by decide +kernel
theorem zd184_22 : zop 184 22 = some (.ifCond .ne 7, 3) := by decide +kernel
theorem zd184_25 : zop 184 25 = some (.sipush (-1000), 3) := by decide +kernel
theorem zd184_28 : zop 184 28 = some (.ireturn, 1) := by decide +kernel
theorem zd184_29 : zop 184 29 = some (.aload_n 0, 1) := by decide +kernel
theorem zd184_30 : zop 184 30 = some (.iconst (-1), 1) := by decide +kernel
theorem zd184_31 : zop 184 31 = some (.putfield 312, 3) := by decide +kernel
theorem zd184_34 : zop 184 34 = some (.aload_n 0, 1) := by decide +kernel
theorem zd184_35 : zop 184 35 = some (.iconst 0, 1) := by decide +kernel
theorem zd184_36 : zop 184 36 = some (.putfield 315, 3) := by decide +kernel
theorem zd184_39 : zop 184 39 = some (.aload_n 0, 1) := by decide +kernel
theorem zd184_40 : zop 184 40 = some (.iload_n 2, 1) := by decide +kernel
theorem zd184_41 : zop 184 41 = some (.iload_n 1, 1) := by decide +kernel
theorem zd184_42 : zop 184 42 = some (.iconst 0, 1) := by decide +kernel
theorem zd184_43 : zop 184 43 = some (.iconst 0, 1) := by decide +kernel
theorem zd184_44 : zop 184 44 = some (.iconst 0, 1) := by decide +kernel
theorem zd184_45 : zop 184 45 = some (.invokevirtual 318, 3) := by decide +kernel
theorem zd184_48 : zop 184 48 = some (.iload_n 3, 1) := by decide +kernel
theorem zd184_49 : zop 184 49 = some (.ifCond .ne 10, 3) := by decide +kernel
theorem zd184_52 : zop 184 52 = some (.aload_n 0, 1) := by decide +kernel
theorem zd184_53 : zop 184 53 = some (.getfield 312, 3) := by decide +kernel
theorem zd184_56 : zop 184 56 = some (.goto 7, 3) := by decide +kernel
theorem zd184_59 : zop 184 59 = some (.aload_n 0, 1) := by decide +kernel
theorem zd184_60 : zop 184 60 = some (.getfield 315, 3) := by decide +kernel
theorem zd184_63 : zop 184 63 = some (.ireturn, 1) := by decide +kernel
theorem b184_0 {x : zXs} {F : zF} (hF : zSh F) {d : Nat} {V : Nat → Nat → Int32} {T : Nat → Nat → Int64} {Q : Option Value → zG → Prop} {l1 : Int32} {o2 : Option Value} {o3 : Option Value}   (k : E x F d 136 0 [some (.ref 59), some (.int l1)] [] (V, T) (fun r G' => E x F (d + 1) 184 5 [some (.ref 59), some (.int l1), o2, o3] (r.toList ++ []) G' Q)) : E x F (d + 1) 184 0 [some (.ref 59), some (.int l1), o2, o3] [] (V, T) Q := by
  refine e_aload_n zd184_0 rfl rfl ?_
  refine e_iload_n zd184_1 rfl ?_
  exact e_callV zd184_2 (own := 8) (nest := false) (w := 1025) (by decide +kernel) (by decide +kernel) zs136 (as := [.int l1]) (rest := []) rfl rfl (zsh_at hF rfl).1 (by omega) (Nat.le_of_ble_eq_true rfl) rfl rfl rfl (by omega) k
theorem b184_5 {x : zXs} {F : zF} (hF : zSh F) {d : Nat} {V : Nat → Nat → Int32} {T : Nat → Nat → Int64} {Q : Option Value → zG → Prop} {o0 : Option Value} {o1 : Option Value} {o2 : Option Value} {o3 : Option Value} {s0 : Int32}   (kt : s0 = 0 → E x F d 184 25 [o0, o1, o2, o3] [] (V, T) Q) (kf : ¬ (s0 = 0) → E x F d 184 8 [o0, o1, o2, o3] [] (V, T) Q) : E x F d 184 5 [o0, o1, o2, o3] [.int s0] (V, T) Q := by
  exact e_if_eq zd184_5 (tg := 25) rfl kt kf
theorem b184_8 {x : zXs} {F : zF} (hF : zSh F) {d : Nat} {V : Nat → Nat → Int32} {T : Nat → Nat → Int64} {Q : Option Value → zG → Prop} {o0 : Option Value} {o1 : Option Value} {l2 : Int32} {o3 : Option Value}   (k : E x F d 131 0 [some (.int l2)] [] (V, T) (fun r G' => E x F (d + 1) 184 12 [o0, o1, some (.int l2), o3] (r.toList ++ []) G' Q)) : E x F (d + 1) 184 8 [o0, o1, some (.int l2), o3] [] (V, T) Q := by
  refine e_iload_n zd184_8 rfl ?_
  exact e_callS zd184_9 (own := 8) (nest := false) (w := 1005) (by decide +kernel) (by decide +kernel) zs131 (as := [.int l2]) (rest := []) rfl rfl (Nat.le_of_ble_eq_true rfl) rfl rfl rfl (by omega) k
theorem b184_12 {x : zXs} {F : zF} (hF : zSh F) {d : Nat} {V : Nat → Nat → Int32} {T : Nat → Nat → Int64} {Q : Option Value → zG → Prop} {o0 : Option Value} {o1 : Option Value} {o2 : Option Value} {o3 : Option Value} {s0 : Int32}   (kt : s0 = 0 → E x F d 184 25 [o0, o1, o2, o3] [] (V, T) Q) (kf : ¬ (s0 = 0) → E x F d 184 15 [o0, o1, o2, o3] [] (V, T) Q) : E x F d 184 12 [o0, o1, o2, o3] [.int s0] (V, T) Q := by
  exact e_if_eq zd184_12 (tg := 25) rfl kt kf
theorem b184_15 {x : zXs} {F : zF} (hF : zSh F) {d : Nat} {V : Nat → Nat → Int32} {T : Nat → Nat → Int64} {Q : Option Value → zG → Prop} {o0 : Option Value} {o1 : Option Value} {o2 : Option Value} {l3 : Int32}   (k : E x F d 132 0 [some (.long l3.toInt64), none, some (.long 0), none, some (.long 1), none] [] (V, T) (fun r G' => E x F (d + 1) 184 22 [o0, o1, o2, some (.int l3)] (r.toList ++ []) G' Q)) : E x F (d + 1) 184 15 [o0, o1, o2, some (.int l3)] [] (V, T) Q := by
  refine e_iload_n zd184_15 rfl ?_
  refine e_i2l zd184_16 ?_
  refine e_lconst zd184_17 (v := 0) rfl ?_
  refine e_lconst zd184_18 (v := 1) rfl ?_
  exact e_callS zd184_19 (own := 8) (nest := false) (w := 1009) (by decide +kernel) (by decide +kernel) zs132 (as := [.long l3.toInt64, .long 0, .long 1]) (rest := []) rfl rfl (Nat.le_of_ble_eq_true rfl) rfl rfl rfl (by omega) k
theorem b184_22 {x : zXs} {F : zF} (hF : zSh F) {d : Nat} {V : Nat → Nat → Int32} {T : Nat → Nat → Int64} {Q : Option Value → zG → Prop} {o0 : Option Value} {o1 : Option Value} {o2 : Option Value} {o3 : Option Value} {s0 : Int32}   (kt : ¬ s0 = 0 → E x F d 184 29 [o0, o1, o2, o3] [] (V, T) Q) (kf : ¬ (¬ s0 = 0) → E x F d 184 25 [o0, o1, o2, o3] [] (V, T) Q) : E x F d 184 22 [o0, o1, o2, o3] [.int s0] (V, T) Q := by
  exact e_if_ne zd184_22 (tg := 29) rfl kt kf
theorem b184_25 {x : zXs} {F : zF} (hF : zSh F) {d : Nat} {V : Nat → Nat → Int32} {T : Nat → Nat → Int64} {Q : Option Value → zG → Prop} {o0 : Option Value} {o1 : Option Value} {o2 : Option Value} {o3 : Option Value}   (k : Q (some (.int (Int32.ofInt (-1000)))) (V, T)) : E x F d 184 25 [o0, o1, o2, o3] [] (V, T) Q := by
  refine e_sipush zd184_25 (v := Int32.ofInt (-1000)) (by decide +kernel) ?_
  exact e_ireti zd184_28 zs184 k
theorem b184_29 {x : zXs} {F : zF} (hF : zSh F) {d : Nat} {V : Nat → Nat → Int32} {T : Nat → Nat → Int64} {Q : Option Value → zG → Prop} {l1 : Int32} {l2 : Int32} {o3 : Option Value}   (k : E x F d 185 0 [some (.ref 59), some (.int l2), some (.int l1), some (.int (Int32.ofInt 0)), some (.int (Int32.ofInt 0)), some (.int (Int32.ofInt 0)), none, none, none, none, none] [] (zu (zu V 59 35 (Int32.ofInt (-1))) 59 36 (Int32.ofInt 0), T) (fun r G' => E x F (d + 1) 184 48 [some (.ref 59), some (.int l1), some (.int l2), o3] (r.toList ++ []) G' Q)) : E x F (d + 1) 184 29 [some (.ref 59), some (.int l1), some (.int l2), o3] [] (V, T) Q := by
  refine e_aload_n zd184_29 rfl rfl ?_
  refine e_iconst zd184_30 ?_
  refine e_putI zd184_31 (own := 8) (ci := 8) (kf := 35) (w := 893) (by decide +kernel) (by decide +kernel) (zsh_at hF rfl).1 (by decide +kernel) rfl ?_
  refine e_aload_n zd184_34 rfl rfl ?_
  refine e_iconst zd184_35 ?_
  refine e_putI zd184_36 (own := 8) (ci := 8) (kf := 36) (w := 894) (by decide +kernel) (by decide +kernel) (zsh_at hF rfl).1 (by decide +kernel) rfl ?_
  refine e_aload_n zd184_39 rfl rfl ?_
  refine e_iload_n zd184_40 rfl ?_
  refine e_iload_n zd184_41 rfl ?_
  refine e_iconst zd184_42 ?_
  refine e_iconst zd184_43 ?_
  refine e_iconst zd184_44 ?_
  exact e_callV zd184_45 (own := 8) (nest := false) (w := 1231) (by decide +kernel) (by decide +kernel) zs185 (as := [.int l2, .int l1, .int (Int32.ofInt 0), .int (Int32.ofInt 0), .int (Int32.ofInt 0)]) (rest := []) rfl rfl (zsh_at hF rfl).1 (by omega) (Nat.le_of_ble_eq_true rfl) rfl rfl rfl (by omega) k
theorem b184_48 {x : zXs} {F : zF} (hF : zSh F) {d : Nat} {V : Nat → Nat → Int32} {T : Nat → Nat → Int64} {Q : Option Value → zG → Prop} {o0 : Option Value} {o1 : Option Value} {o2 : Option Value} {l3 : Int32}   (kt : ¬ l3 = 0 → E x F d 184 59 [o0, o1, o2, some (.int l3)] [] (V, T) Q) (kf : ¬ (¬ l3 = 0) → E x F d 184 52 [o0, o1, o2, some (.int l3)] [] (V, T) Q) : E x F d 184 48 [o0, o1, o2, some (.int l3)] [] (V, T) Q := by
  refine e_iload_n zd184_48 rfl ?_
  exact e_if_ne zd184_49 (tg := 59) rfl kt kf
theorem b184_52 {x : zXs} {F : zF} (hF : zSh F) {d : Nat} {V : Nat → Nat → Int32} {T : Nat → Nat → Int64} {Q : Option Value → zG → Prop} {o1 : Option Value} {o2 : Option Value} {o3 : Option Value}   (k : E x F d 184 63 [some (.ref 59), o1, o2, o3] [.int (V 59 35)] (V, T) Q) : E x F d 184 52 [some (.ref 59), o1, o2, o3] [] (V, T) Q := by
  refine e_aload_n zd184_52 rfl rfl ?_
  refine e_getI zd184_53 (own := 8) (ci := 8) (kf := 35) (w := 893) (by decide +kernel) (by decide +kernel) (zsh_at hF rfl).1 (by decide +kernel) rfl ?_
  exact e_goto zd184_56 (tg := 63) rfl k
theorem b184_59 {x : zXs} {F : zF} (hF : zSh F) {d : Nat} {V : Nat → Nat → Int32} {T : Nat → Nat → Int64} {Q : Option Value → zG → Prop} {o1 : Option Value} {o2 : Option Value} {o3 : Option Value}   (k : E x F d 184 63 [some (.ref 59), o1, o2, o3] [.int (V 59 36)] (V, T) Q) : E x F d 184 59 [some (.ref 59), o1, o2, o3] [] (V, T) Q := by
  refine e_aload_n zd184_59 rfl rfl ?_
  refine e_getI zd184_60 (own := 8) (ci := 8) (kf := 36) (w := 894) (by decide +kernel) (by decide +kernel) (zsh_at hF rfl).1 (by decide +kernel) rfl ?_
  exact k
theorem b184_63 {x : zXs} {F : zF} (hF : zSh F) {d : Nat} {V : Nat → Nat → Int32} {T : Nat → Nat → Int64} {Q : Option Value → zG → Prop} {o0 : Option Value} {o1 : Option Value} {o2 : Option Value} {o3 : Option Value} {s0 : Int32}   (k : Q (some (.int s0)) (V, T)) : E x F d 184 63 [o0, o1, o2, o3] [.int s0] (V, T) Q := by
  exact e_ireti zd184_63 zs184 k
theorem zd185_0 : zop 185 0 = some (.iload_n 3, 1) := by decide +kernel
theorem zd185_1 : zop 185 1 = some (.iconst 1, 1) := by decide +kernel
theorem zd185_2 : zop 185 2 = some (.aload_n 0, 1) := by decide +kernel
theorem zd185_3 : zop 185 3 = some (.getfield 88, 3) := by decide +kernel
theorem zd185_6 : zop 185 6 = some (.ishl, 1) := by decide +kernel
theorem zd185_7 : zop 185 7 = some (.iconst 1, 1) := by decide +kernel
theorem zd185_8 : zop 185 8 = some (.isub, 1) := by decide +kernel
theorem zd185_9 : zop 185 9 = some (.if_icmp .ne 51, 3) := by decide +kernel
theorem zd185_12 : zop 185 12 = some (.iload_n 2, 1) := by decide +kernel
theorem zd185_13 : zop 185 13 = some (.iconst (-1), 1) := by decide +kernel
theorem zd185_14 : zop 185 14 = some (.if_icmp .ne 12, 3) := by decide +kernel
theorem zd185_17 : zop 185 17 = some (.aload_n 0, 1) := by decide +kernel
theorem zd185_18 : zop 185 18 = some (.iload_n 1, 1) := by decide +kernel
theorem zd185_19 : zop 185 19 = some (.invokevirtual 103, 3) := by decide +kernel
theorem zd185_22 : zop 185 22 = some (.ineg, 1) := by decide +kernel
theorem zd185_23 : zop 185 23 = some (.goto 5, 3) := by decide +kernel
theorem zd185_26 : zop 185 26 = some (.iload 5, 2) := by decide +kernel
theorem zd185_28 : zop 185 28 = some (.istore 6, 2) := by decide +kernel
theorem zd185_30 : zop 185 30 = some (.aload_n 0, 1) := by decide +kernel
theorem zd185_31 : zop 185 31 = some (.getfield 312, 3) := by decide +kernel
theorem zd185_34 : zop 185 34 = some (.iconst (-1), 1) := by decide +kernel
theorem zd185_35 : zop 185 35 = some (.if_icmp .eq 12, 3) := by decide +kernel
theorem zd185_38 : zop 185 38 = some (.iload 6, 2) := by decide +kernel
theorem zd185_40 : zop 185 40 = some (.aload_n 0, 1) := by decide +kernel
theorem zd185_41 : zop 185 41 = some (.getfield 315, 3) := by decide +kernel
theorem zd185_44 : zop 185 44 = some (.if_icmp .le 15, 3) := by decide +kernel
theorem zd185_47 : zop 185 47 = some (.aload_n 0, 1) := by decide +kernel
theorem zd185_48 : zop 185 48 = some (.iload 4, 2) := by decide +kernel
theorem zd185_50 : zop 185 50 = some (.putfield 312, 3) := by decide +kernel
theorem zd185_53 : zop 185 53 = some (.aload_n 0, 1) := by decide +kernel
theorem zd185_54 : zop 185 54 = some (.iload 6, 2) := by decide +kernel
theorem zd185_56 : zop 185 56 = some (.putfield 315, 3) := by decide +kernel
theorem zd185_59 : zop 185 59 = some (.return_, 1) := by decide +kernel
theorem zd185_60 : zop 185 60 = some (.aload_n 0, 1) := by decide +kernel
theorem zd185_61 : zop 185 61 = some (.getfield 23, 3) := by decide +kernel
theorem zd185_64 : zop 185 64 = some (.iload_n 1, 1) := by decide +kernel
theorem zd185_65 : zop 185 65 = some (.iaload, 1) := by decide +kernel
theorem zd185_66 : zop 185 66 = some (.istore 6, 2) := by decide +kernel
theorem zd185_68 : zop 185 68 = some (.aload_n 0, 1) := by decide +kernel
theorem zd185_69 : zop 185 69 = some (.getfield 26, 3) := by decide +kernel
theorem zd185_72 : zop 185 72 = some (.iload_n 1, 1) := by decide +kernel
theorem zd185_73 : zop 185 73 = some (.iaload, 1) := by decide +kernel
theorem zd185_74 : zop 185 74 = some (.istore 7, 2) := by decide +kernel
theorem zd185_76 : zop 185 76 = some (.iconst 0, 1) := by decide +kernel
theorem zd185_77 : zop 185 77 = some (.istore 8, 2) := by decide +kernel
theorem zd185_79 : zop 185 79 = some (.iload 8, 2) := by decide +kernel
theorem zd185_81 : zop 185 81 = some (.aload_n 0, 1) := by decide +kernel
theorem zd185_82 : zop 185 82 = some (.getfield 88, 3) := by decide +kernel
theorem zd185_85 : zop 185 85 = some (.if_icmp .ge 104, 3) := by decide +kernel
theorem zd185_88 : zop 185 88 = some (.iload_n 3, 1) := by decide +kernel
theorem zd185_89 : zop 185 89 = some (.iload 8, 2) := by decide +kernel
theorem zd185_91 : zop 185 91 = some (.ishr, 1) := by decide +kernel
theorem zd185_92 : zop 185 92 = some (.iconst 1, 1) := by decide +kernel
theorem zd185_93 : zop 185 93 = some (.iand, 1) := by decide +kernel
theorem zd185_94 : zop 185 94 = some (.ifCond .ne 89, 3) := by decide +kernel
theorem zd185_97 : zop 185 97 = some (.aload_n 0, 1) := by decide +kernel
theorem zd185_98 : zop 185 98 = some (.getfield 32, 3) := by decide +kernel
theorem zd185_101 : zop 185 101 = some (.iconst 2, 1) := by decide +kernel
theorem zd185_102 : zop 185 102 = some (.iload 8, 2) := by decide +kernel
theorem zd185_104 : zop 185 104 = some (.imul, 1) := by decide +kernel
theorem zd185_105 : zop 185 105 = some (.iconst 1, 1) := by decide +kernel
theorem zd185_106 : zop 185 106 = some (.iadd, 1) := by decide +kernel
theorem zd185_107 : zop 185 107 = some (.iaload, 1) := by decide +kernel
theorem zd185_108 : zop 185 108 = some (.istore 9, 2) := by decide +kernel
theorem zd185_110 : zop 185 110 = some (.aload_n 0, 1) := by decide +kernel
theorem zd185_111 : zop 185 111 = some (.iload 8, 2) := by decide +kernel
theorem zd185_113 : zop 185 113 = some (.iload_n 1, 1) := by decide +kernel
theorem zd185_114 : zop 185 114 = some (.invokevirtual 285, 3) := by decide +kernel
theorem zd185_117 : zop 185 117 = some (.istore 10, 2) := by decide +kernel
theorem zd185_119 : zop 185 119 = some (.aload_n 0, 1) := by decide +kernel
theorem zd185_120 : zop 185 120 = some (.iload_n 1, 1) := by decide +kernel
theorem zd185_121 : zop 185 121 = some (.iload_n 2, 1) := by decide +kernel
theorem zd185_122 : zop 185 122 = some (.iload_n 3, 1) := by decide +kernel
theorem zd185_123 : zop 185 123 = some (.iconst 1, 1) := by decide +kernel
theorem zd185_124 : zop 185 124 = some (.iload 8, 2) := by decide +kernel
theorem zd185_126 : zop 185 126 = some (.ishl, 1) := by decide +kernel
theorem zd185_127 : zop 185 127 = some (.ior, 1) := by decide +kernel
theorem zd185_128 : zop 185 128 = some (.bipush 10, 2) := by decide +kernel
theorem zd185_130 : zop 185 130 = some (.iload 4, 2) := by decide +kernel
theorem zd185_132 : zop 185 132 = some (.imul, 1) := by decide +kernel
theorem zd185_133 : zop 185 133 = some (.iload 8, 2) := by decide +kernel
theorem zd185_135 : zop 185 135 = some (.iadd, 1) := by decide +kernel
theorem zd185_136 : zop 185 136 = some (.iconst 1, 1) := by decide +kernel
theorem zd185_137 : zop 185 137 = some (.iadd, 1) := by decide +kernel
theorem zd185_138 : zop 185 138 = some (.iload 8, 2) := by decide +kernel
theorem zd185_140 : zop 185 140 = some (.iload_n 2, 1) := by decide +kernel
theorem zd185_141 : zop 185 141 = some (.if_icmp .ne 8, 3) := by decide +kernel
theorem zd185_144 : zop 185 144 = some (.iload 10, 2) := by decide +kernel
theorem zd185_146 : zop 185 146 = some (.goto 5, 3) := by decide +kernel
theorem zd185_149 : zop 185 149 = some (.iload 5, 2) := by decide +kernel
theorem zd185_151 : zop 185 151 = some (.invokevirtual 318, 3) := by decide +kernel
theorem zd185_154 : zop 185 154 = some (.aload_n 0, 1) := by decide +kernel
theorem zd185_155 : zop 185 155 = some (.getfield 23, 3) := by decide +kernel
theorem zd185_158 : zop 185 158 = some (.iload_n 1, 1) := by decide +kernel
theorem zd185_159 : zop 185 159 = some (.iload 6, 2) := by decide +kernel
theorem zd185_161 : zop 185 161 = some (.iastore, 1) := by decide +kernel
theorem zd185_162 : zop 185 162 = some (.aload_n 0, 1) := by decide +kernel
theorem zd185_163 : zop 185 163 = some (.getfield 26, 3) := by decide +kernel
theorem zd185_166 : zop 185 166 = some (.iload_n 1, 1) := by decide +kernel
theorem zd185_167 : zop 185 167 = some (.iload 7, 2) := by decide +kernel
theorem zd185_169 : zop 185 169 = some (.iastore, 1) := by decide +kernel
theorem zd185_170 : zop 185 170 = some (.aload_n 0, 1) := by decide +kernel
theorem zd185_171 : zop 185 171 = some (.getfield 32, 3) := by decide +kernel
theorem zd185_174 : zop 185 174 = some (.iconst 2, 1) := by decide +kernel
theorem zd185_175 : zop 185 175 = some (.iload 8, 2) := by decide +kernel
theorem zd185_177 : zop 185 177 = some (.imul, 1) := by decide +kernel
theorem zd185_178 : zop 185 178 = some (.iconst 1, 1) := by decide +kernel
theorem zd185_179 : zop 185 179 = some (.iadd, 1) := by decide +kernel
theorem zd185_180 : zop 185 180 = some (.iload 9, 2) := by decide +kernel
theorem zd185_182 : zop 185 182 = some (.iastore, 1) := by decide +kernel
theorem zd185_183 : zop 185 183 = some (.iinc 8 1, 3) := by decide +kernel
theorem zd185_186 : zop 185 186 = some (.goto (-107), 3) := by decide +kernel
theorem zd185_189 : zop 185 189 = some (.return_, 1) := by decide +kernel
theorem b185_0 {x : zXs} {F : zF} (hF : zSh F) {d : Nat} {V : Nat → Nat → Int32} {T : Nat → Nat → Int64} {Q : Option Value → zG → Prop} {o1 : Option Value} {o2 : Option Value} {l3 : Int32} {o4 : Option Value} {o5 : Option Value} {o6 : Option Value} {o7 : Option Value} {o8 : Option Value} {o9 : Option Value} {o10 : Option Value}   (kt : ¬ l3 = (((Int32.ofInt 1) <<< ((V 59 12) &&& 31)) - (Int32.ofInt 1)) → E x F d 185 60 [some (.ref 59), o1, o2, some (.int l3), o4, o5, o6, o7, o8, o9, o10] [] (V, T) Q) (kf : ¬ (¬ l3 = (((Int32.ofInt 1) <<< ((V 59 12) &&& 31)) - (Int32.ofInt 1))) → E x F d 185 12 [some (.ref 59), o1, o2, some (.int l3), o4, o5, o6, o7, o8, o9, o10] [] (V, T) Q) : E x F d 185 0 [some (.ref 59), o1, o2, some (.int l3), o4, o5, o6, o7, o8, o9, o10] [] (V, T) Q := by
  refine e_iload_n zd185_0 rfl ?_
  refine e_iconst zd185_1 ?_
  refine e_aload_n zd185_2 rfl rfl ?_
  refine e_getI zd185_3 (own := 8) (ci := 8) (kf := 12) (w := 870) (by decide +kernel) (by decide +kernel) (zsh_at hF rfl).1 (by decide +kernel) rfl ?_
  refine e_ishl zd185_6 ?_
  refine e_iconst zd185_7 ?_
  refine e_isub zd185_8 ?_
  exact e_icmp_ne zd185_9 (tg := 60) rfl kt kf
theorem b185_12 {x : zXs} {F : zF} (hF : zSh F) {d : Nat} {V : Nat → Nat → Int32} {T : Nat → Nat → Int64} {Q : Option Value → zG → Prop} {o0 : Option Value} {o1 : Option Value} {l2 : Int32} {o3 : Option Value} {o4 : Option Value} {o5 : Option Value} {o6 : Option Value} {o7 : Option Value} {o8 : Option Value} {o9 : Option Value} {o10 : Option Value}   (kt : ¬ l2 = (Int32.ofInt (-1)) → E x F d 185 26 [o0, o1, some (.int l2), o3, o4, o5, o6, o7, o8, o9, o10] [] (V, T) Q) (kf : ¬ (¬ l2 = (Int32.ofInt (-1))) → E x F d 185 17 [o0, o1, some (.int l2), o3, o4, o5, o6, o7, o8, o9, o10] [] (V, T) Q) : E x F d 185 12 [o0, o1, some (.int l2), o3, o4, o5, o6, o7, o8, o9, o10] [] (V, T) Q := by
  refine e_iload_n zd185_12 rfl ?_
  refine e_iconst zd185_13 ?_
  exact e_icmp_ne zd185_14 (tg := 26) rfl kt kf
theorem b185_17 {x : zXs} {F : zF} (hF : zSh F) {d : Nat} {V : Nat → Nat → Int32} {T : Nat → Nat → Int64} {Q : Option Value → zG → Prop} {l1 : Int32} {o2 : Option Value} {o3 : Option Value} {o4 : Option Value} {o5 : Option Value} {o6 : Option Value} {o7 : Option Value} {o8 : Option Value} {o9 : Option Value} {o10 : Option Value}   (k : E x F d 133 0 [some (.ref 59), some (.int l1)] [] (V, T) (fun r G' => E x F (d + 1) 185 22 [some (.ref 59), some (.int l1), o2, o3, o4, o5, o6, o7, o8, o9, o10] (r.toList ++ []) G' Q)) : E x F (d + 1) 185 17 [some (.ref 59), some (.int l1), o2, o3, o4, o5, o6, o7, o8, o9, o10] [] (V, T) Q := by
  refine e_aload_n zd185_17 rfl rfl ?_
  refine e_iload_n zd185_18 rfl ?_
  exact e_callV zd185_19 (own := 8) (nest := false) (w := 1013) (by decide +kernel) (by decide +kernel) zs133 (as := [.int l1]) (rest := []) rfl rfl (zsh_at hF rfl).1 (by omega) (Nat.le_of_ble_eq_true rfl) rfl rfl rfl (by omega) k
theorem b185_22 {x : zXs} {F : zF} (hF : zSh F) {d : Nat} {V : Nat → Nat → Int32} {T : Nat → Nat → Int64} {Q : Option Value → zG → Prop} {o0 : Option Value} {o1 : Option Value} {o2 : Option Value} {o3 : Option Value} {o4 : Option Value} {o5 : Option Value} {o6 : Option Value} {o7 : Option Value} {o8 : Option Value} {o9 : Option Value} {o10 : Option Value} {s0 : Int32}   (k : E x F d 185 28 [o0, o1, o2, o3, o4, o5, o6, o7, o8, o9, o10] [.int (-s0)] (V, T) Q) : E x F d 185 22 [o0, o1, o2, o3, o4, o5, o6, o7, o8, o9, o10] [.int s0] (V, T) Q := by
  refine e_ineg zd185_22 ?_
  exact e_goto zd185_23 (tg := 28) rfl k
theorem b185_26 {x : zXs} {F : zF} (hF : zSh F) {d : Nat} {V : Nat → Nat → Int32} {T : Nat → Nat → Int64} {Q : Option Value → zG → Prop} {o0 : Option Value} {o1 : Option Value} {o2 : Option Value} {o3 : Option Value} {o4 : Option Value} {l5 : Int32} {o6 : Option Value} {o7 : Option Value} {o8 : Option Value} {o9 : Option Value} {o10 : Option Value}   (k : E x F d 185 28 [o0, o1, o2, o3, o4, some (.int l5), o6, o7, o8, o9, o10] [.int l5] (V, T) Q) : E x F d 185 26 [o0, o1, o2, o3, o4, some (.int l5), o6, o7, o8, o9, o10] [] (V, T) Q := by
  refine e_iload zd185_26 rfl ?_
  exact k
theorem b185_28 {x : zXs} {F : zF} (hF : zSh F) {d : Nat} {V : Nat → Nat → Int32} {T : Nat → Nat → Int64} {Q : Option Value → zG → Prop} {o1 : Option Value} {o2 : Option Value} {o3 : Option Value} {o4 : Option Value} {o5 : Option Value} {o6 : Option Value} {o7 : Option Value} {o8 : Option Value} {o9 : Option Value} {o10 : Option Value} {s0 : Int32}   (kt : (V 59 35) = (Int32.ofInt (-1)) → E x F d 185 47 [some (.ref 59), o1, o2, o3, o4, o5, some (.int s0), o7, o8, o9, o10] [] (V, T) Q) (kf : ¬ ((V 59 35) = (Int32.ofInt (-1))) → E x F d 185 38 [some (.ref 59), o1, o2, o3, o4, o5, some (.int s0), o7, o8, o9, o10] [] (V, T) Q) : E x F d 185 28 [some (.ref 59), o1, o2, o3, o4, o5, o6, o7, o8, o9, o10] [.int s0] (V, T) Q := by
  refine e_istore zd185_28 (by decide +kernel) (Nat.le_of_ble_eq_true rfl) ?_
  refine e_aload_n zd185_30 rfl rfl ?_
  refine e_getI zd185_31 (own := 8) (ci := 8) (kf := 35) (w := 893) (by decide +kernel) (by decide +kernel) (zsh_at hF rfl).1 (by decide +kernel) rfl ?_
  refine e_iconst zd185_34 ?_
  exact e_icmp_eq zd185_35 (tg := 47) rfl kt kf
theorem b185_38 {x : zXs} {F : zF} (hF : zSh F) {d : Nat} {V : Nat → Nat → Int32} {T : Nat → Nat → Int64} {Q : Option Value → zG → Prop} {o1 : Option Value} {o2 : Option Value} {o3 : Option Value} {o4 : Option Value} {o5 : Option Value} {l6 : Int32} {o7 : Option Value} {o8 : Option Value} {o9 : Option Value} {o10 : Option Value}   (kt : l6 ≤ (V 59 36) → E x F d 185 59 [some (.ref 59), o1, o2, o3, o4, o5, some (.int l6), o7, o8, o9, o10] [] (V, T) Q) (kf : ¬ (l6 ≤ (V 59 36)) → E x F d 185 47 [some (.ref 59), o1, o2, o3, o4, o5, some (.int l6), o7, o8, o9, o10] [] (V, T) Q) : E x F d 185 38 [some (.ref 59), o1, o2, o3, o4, o5, some (.int l6), o7, o8, o9, o10] [] (V, T) Q := by
  refine e_iload zd185_38 rfl ?_
  refine e_aload_n zd185_40 rfl rfl ?_
  refine e_getI zd185_41 (own := 8) (ci := 8) (kf := 36) (w := 894) (by decide +kernel) (by decide +kernel) (zsh_at hF rfl).1 (by decide +kernel) rfl ?_
  exact e_icmp_le zd185_44 (tg := 59) rfl kt kf
theorem b185_47 {x : zXs} {F : zF} (hF : zSh F) {d : Nat} {V : Nat → Nat → Int32} {T : Nat → Nat → Int64} {Q : Option Value → zG → Prop} {o1 : Option Value} {o2 : Option Value} {o3 : Option Value} {l4 : Int32} {o5 : Option Value} {l6 : Int32} {o7 : Option Value} {o8 : Option Value} {o9 : Option Value} {o10 : Option Value}   (k : E x F d 185 59 [some (.ref 59), o1, o2, o3, some (.int l4), o5, some (.int l6), o7, o8, o9, o10] [] (zu (zu V 59 35 l4) 59 36 l6, T) Q) : E x F d 185 47 [some (.ref 59), o1, o2, o3, some (.int l4), o5, some (.int l6), o7, o8, o9, o10] [] (V, T) Q := by
  refine e_aload_n zd185_47 rfl rfl ?_
  refine e_iload zd185_48 rfl ?_
  refine e_putI zd185_50 (own := 8) (ci := 8) (kf := 35) (w := 893) (by decide +kernel) (by decide +kernel) (zsh_at hF rfl).1 (by decide +kernel) rfl ?_
  refine e_aload_n zd185_53 rfl rfl ?_
  refine e_iload zd185_54 rfl ?_
  refine e_putI zd185_56 (own := 8) (ci := 8) (kf := 36) (w := 894) (by decide +kernel) (by decide +kernel) (zsh_at hF rfl).1 (by decide +kernel) rfl ?_
  exact k
theorem b185_59 {x : zXs} {F : zF} (hF : zSh F) {d : Nat} {V : Nat → Nat → Int32} {T : Nat → Nat → Int64} {Q : Option Value → zG → Prop} {o0 : Option Value} {o1 : Option Value} {o2 : Option Value} {o3 : Option Value} {o4 : Option Value} {o5 : Option Value} {o6 : Option Value} {o7 : Option Value} {o8 : Option Value} {o9 : Option Value} {o10 : Option Value}   (k : Q none (V, T)) : E x F d 185 59 [o0, o1, o2, o3, o4, o5, o6, o7, o8, o9, o10] [] (V, T) Q := by
  exact e_vret zd185_59 zs185 k
theorem b185_60 {x : zXs} {F : zF} (hF : zSh F) {d : Nat} {V : Nat → Nat → Int32} {T : Nat → Nat → Int64} {Q : Option Value → zG → Prop} {l1 : Int32} {o2 : Option Value} {o3 : Option Value} {o4 : Option Value} {o5 : Option Value} {o6 : Option Value} {o7 : Option Value} {o8 : Option Value} {o9 : Option Value} {o10 : Option Value}  {i1 : Nat} (e1 : l1 = nI i1) (h1 : i1 < 5) {i2 : Nat} (e2 : l1 = nI i2) (h2 : i2 < 5) (k : E x F d 185 79 [some (.ref 59), some (.int l1), o2, o3, o4, o5, some (.int (V 63 i1)), some (.int (V 64 i2)), some (.int (Int32.ofInt 0)), o9, o10] [] (V, T) Q) : E x F d 185 60 [some (.ref 59), some (.int l1), o2, o3, o4, o5, o6, o7, o8, o9, o10] [] (V, T) Q := by
  refine e_aload_n zd185_60 rfl rfl ?_
  refine e_getA zd185_61 (own := 8) (ci := 8) (kf := 8) (w := 866) (by decide +kernel) (by decide +kernel) (zsh_at hF rfl).1 (by decide +kernel) rfl (zrf_at hF (i := 62) rfl) ?_
  refine e_iload_n zd185_64 rfl ?_
  refine e_iald zd185_65 (i := i1) (zsh_at hF rfl) e1 h1 (by omega) ?_
  refine e_istore zd185_66 (by decide +kernel) (Nat.le_of_ble_eq_true rfl) ?_
  refine e_aload_n zd185_68 rfl rfl ?_
  refine e_getA zd185_69 (own := 8) (ci := 8) (kf := 9) (w := 867) (by decide +kernel) (by decide +kernel) (zsh_at hF rfl).1 (by decide +kernel) rfl (zrf_at hF (i := 63) rfl) ?_
  refine e_iload_n zd185_72 rfl ?_
  refine e_iald zd185_73 (i := i2) (zsh_at hF rfl) e2 h2 (by omega) ?_
  refine e_istore zd185_74 (by decide +kernel) (Nat.le_of_ble_eq_true rfl) ?_
  refine e_iconst zd185_76 ?_
  refine e_istore zd185_77 (by decide +kernel) (Nat.le_of_ble_eq_true rfl) ?_
  exact k
theorem b185_79 {x : zXs} {F : zF} (hF : zSh F) {d : Nat} {V : Nat → Nat → Int32} {T : Nat → Nat → Int64} {Q : Option Value → zG → Prop} {o1 : Option Value} {o2 : Option Value} {o3 : Option Value} {o4 : Option Value} {o5 : Option Value} {o6 : Option Value} {o7 : Option Value} {l8 : Int32} {o9 : Option Value} {o10 : Option Value}   (kt : (V 59 12) ≤ l8 → E x F d 185 189 [some (.ref 59), o1, o2, o3, o4, o5, o6, o7, some (.int l8), o9, o10] [] (V, T) Q) (kf : ¬ ((V 59 12) ≤ l8) → E x F d 185 88 [some (.ref 59), o1, o2, o3, o4, o5, o6, o7, some (.int l8), o9, o10] [] (V, T) Q) : E x F d 185 79 [some (.ref 59), o1, o2, o3, o4, o5, o6, o7, some (.int l8), o9, o10] [] (V, T) Q := by
  refine e_iload zd185_79 rfl ?_
  refine e_aload_n zd185_81 rfl rfl ?_
  refine e_getI zd185_82 (own := 8) (ci := 8) (kf := 12) (w := 870) (by decide +kernel) (by decide +kernel) (zsh_at hF rfl).1 (by decide +kernel) rfl ?_
  exact e_icmp_ge zd185_85 (tg := 189) rfl kt kf
theorem b185_88 {x : zXs} {F : zF} (hF : zSh F) {d : Nat} {V : Nat → Nat → Int32} {T : Nat → Nat → Int64} {Q : Option Value → zG → Prop} {o0 : Option Value} {o1 : Option Value} {o2 : Option Value} {l3 : Int32} {o4 : Option Value} {o5 : Option Value} {o6 : Option Value} {o7 : Option Value} {l8 : Int32} {o9 : Option Value} {o10 : Option Value}   (kt : ¬ ((l3 >>> (l8 &&& 31)) &&& (Int32.ofInt 1)) = 0 → E x F d 185 183 [o0, o1, o2, some (.int l3), o4, o5, o6, o7, some (.int l8), o9, o10] [] (V, T) Q) (kf : ¬ (¬ ((l3 >>> (l8 &&& 31)) &&& (Int32.ofInt 1)) = 0) → E x F d 185 97 [o0, o1, o2, some (.int l3), o4, o5, o6, o7, some (.int l8), o9, o10] [] (V, T) Q) : E x F d 185 88 [o0, o1, o2, some (.int l3), o4, o5, o6, o7, some (.int l8), o9, o10] [] (V, T) Q := by
  refine e_iload_n zd185_88 rfl ?_
  refine e_iload zd185_89 rfl ?_
  refine e_ishr zd185_91 ?_
  refine e_iconst zd185_92 ?_
  refine e_iand zd185_93 ?_
  exact e_if_ne zd185_94 (tg := 183) rfl kt kf
theorem b185_97 {x : zXs} {F : zF} (hF : zSh F) {d : Nat} {V : Nat → Nat → Int32} {T : Nat → Nat → Int64} {Q : Option Value → zG → Prop} {l1 : Int32} {o2 : Option Value} {o3 : Option Value} {o4 : Option Value} {o5 : Option Value} {o6 : Option Value} {o7 : Option Value} {l8 : Int32} {o9 : Option Value} {o10 : Option Value}  {i1 : Nat} (e1 : ((Int32.ofInt 2) * l8) + (Int32.ofInt 1) = nI i1) (h1 : i1 < 10) (k : E x F d 171 0 [some (.ref 59), some (.int l8), some (.int l1), none, none, none, none, none] [] (V, T) (fun r G' => E x F (d + 1) 185 117 [some (.ref 59), some (.int l1), o2, o3, o4, o5, o6, o7, some (.int l8), some (.int (V 66 i1)), o10] (r.toList ++ []) G' Q)) : E x F (d + 1) 185 97 [some (.ref 59), some (.int l1), o2, o3, o4, o5, o6, o7, some (.int l8), o9, o10] [] (V, T) Q := by
  refine e_aload_n zd185_97 rfl rfl ?_
  refine e_getA zd185_98 (own := 8) (ci := 8) (kf := 11) (w := 869) (by decide +kernel) (by decide +kernel) (zsh_at hF rfl).1 (by decide +kernel) rfl (zrf_at hF (i := 65) rfl) ?_
  refine e_iconst zd185_101 ?_
  refine e_iload zd185_102 rfl ?_
  refine e_imul zd185_104 ?_
  refine e_iconst zd185_105 ?_
  refine e_iadd zd185_106 ?_
  refine e_iald zd185_107 (i := i1) (zsh_at hF rfl) e1 h1 (by omega) ?_
  refine e_istore zd185_108 (by decide +kernel) (Nat.le_of_ble_eq_true rfl) ?_
  refine e_aload_n zd185_110 rfl rfl ?_
  refine e_iload zd185_111 rfl ?_
  refine e_iload_n zd185_113 rfl ?_
  exact e_callV zd185_114 (own := 8) (nest := false) (w := 1174) (by decide +kernel) (by decide +kernel) zs171 (as := [.int l8, .int l1]) (rest := []) rfl rfl (zsh_at hF rfl).1 (by omega) (Nat.le_of_ble_eq_true rfl) rfl rfl rfl (by omega) k
theorem b185_117 {x : zXs} {F : zF} (hF : zSh F) {d : Nat} {V : Nat → Nat → Int32} {T : Nat → Nat → Int64} {Q : Option Value → zG → Prop} {l1 : Int32} {l2 : Int32} {l3 : Int32} {l4 : Int32} {o5 : Option Value} {o6 : Option Value} {o7 : Option Value} {l8 : Int32} {o9 : Option Value} {o10 : Option Value} {s0 : Int32}   (kt : ¬ l8 = l2 → E x F d 185 149 [some (.ref 59), some (.int l1), some (.int l2), some (.int l3), some (.int l4), o5, o6, o7, some (.int l8), o9, some (.int s0)] [.int ((((Int32.ofInt 10) * l4) + l8) + (Int32.ofInt 1)), .int (l3 ||| ((Int32.ofInt 1) <<< (l8 &&& 31))), .int l2, .int l1, .ref 59] (V, T) Q) (kf : ¬ (¬ l8 = l2) → E x F d 185 144 [some (.ref 59), some (.int l1), some (.int l2), some (.int l3), some (.int l4), o5, o6, o7, some (.int l8), o9, some (.int s0)] [.int ((((Int32.ofInt 10) * l4) + l8) + (Int32.ofInt 1)), .int (l3 ||| ((Int32.ofInt 1) <<< (l8 &&& 31))), .int l2, .int l1, .ref 59] (V, T) Q) : E x F d 185 117 [some (.ref 59), some (.int l1), some (.int l2), some (.int l3), some (.int l4), o5, o6, o7, some (.int l8), o9, o10] [.int s0] (V, T) Q := by
  refine e_istore zd185_117 (by decide +kernel) (Nat.le_of_ble_eq_true rfl) ?_
  refine e_aload_n zd185_119 rfl rfl ?_
  refine e_iload_n zd185_120 rfl ?_
  refine e_iload_n zd185_121 rfl ?_
  refine e_iload_n zd185_122 rfl ?_
  refine e_iconst zd185_123 ?_
  refine e_iload zd185_124 rfl ?_
  refine e_ishl zd185_126 ?_
  refine e_ior zd185_127 ?_
  refine e_bipush zd185_128 (v := Int32.ofInt 10) (by decide +kernel) ?_
  refine e_iload zd185_130 rfl ?_
  refine e_imul zd185_132 ?_
  refine e_iload zd185_133 rfl ?_
  refine e_iadd zd185_135 ?_
  refine e_iconst zd185_136 ?_
  refine e_iadd zd185_137 ?_
  refine e_iload zd185_138 rfl ?_
  refine e_iload_n zd185_140 rfl ?_
  exact e_icmp_ne zd185_141 (tg := 149) rfl kt kf
theorem b185_144 {x : zXs} {F : zF} (hF : zSh F) {d : Nat} {V : Nat → Nat → Int32} {T : Nat → Nat → Int64} {Q : Option Value → zG → Prop} {o0 : Option Value} {o1 : Option Value} {o2 : Option Value} {o3 : Option Value} {o4 : Option Value} {o5 : Option Value} {o6 : Option Value} {o7 : Option Value} {o8 : Option Value} {o9 : Option Value} {l10 : Int32} {s1 : Int32} {s2 : Int32} {s3 : Int32} {s4 : Int32}   (k : E x F d 185 151 [o0, o1, o2, o3, o4, o5, o6, o7, o8, o9, some (.int l10)] [.int l10, .int s4, .int s3, .int s2, .int s1, .ref 59] (V, T) Q) : E x F d 185 144 [o0, o1, o2, o3, o4, o5, o6, o7, o8, o9, some (.int l10)] [.int s4, .int s3, .int s2, .int s1, .ref 59] (V, T) Q := by
  refine e_iload zd185_144 rfl ?_
  exact e_goto zd185_146 (tg := 151) rfl k
theorem b185_149 {x : zXs} {F : zF} (hF : zSh F) {d : Nat} {V : Nat → Nat → Int32} {T : Nat → Nat → Int64} {Q : Option Value → zG → Prop} {o0 : Option Value} {o1 : Option Value} {o2 : Option Value} {o3 : Option Value} {o4 : Option Value} {l5 : Int32} {o6 : Option Value} {o7 : Option Value} {o8 : Option Value} {o9 : Option Value} {o10 : Option Value} {s1 : Int32} {s2 : Int32} {s3 : Int32} {s4 : Int32}   (k : E x F d 185 151 [o0, o1, o2, o3, o4, some (.int l5), o6, o7, o8, o9, o10] [.int l5, .int s4, .int s3, .int s2, .int s1, .ref 59] (V, T) Q) : E x F d 185 149 [o0, o1, o2, o3, o4, some (.int l5), o6, o7, o8, o9, o10] [.int s4, .int s3, .int s2, .int s1, .ref 59] (V, T) Q := by
  refine e_iload zd185_149 rfl ?_
  exact k
theorem b185_151 {x : zXs} {F : zF} (hF : zSh F) {d : Nat} {V : Nat → Nat → Int32} {T : Nat → Nat → Int64} {Q : Option Value → zG → Prop} {o0 : Option Value} {o1 : Option Value} {o2 : Option Value} {o3 : Option Value} {o4 : Option Value} {o5 : Option Value} {o6 : Option Value} {o7 : Option Value} {o8 : Option Value} {o9 : Option Value} {o10 : Option Value} {s1 : Int32} {s2 : Int32} {s3 : Int32} {s4 : Int32} {s5 : Int32}   (k : E x F d 185 0 [some (.ref 59), some (.int s1), some (.int s2), some (.int s3), some (.int s4), some (.int s5), none, none, none, none, none] [] (V, T) (fun r G' => E x F (d + 1) 185 154 [o0, o1, o2, o3, o4, o5, o6, o7, o8, o9, o10] (r.toList ++ []) G' Q)) : E x F (d + 1) 185 151 [o0, o1, o2, o3, o4, o5, o6, o7, o8, o9, o10] [.int s5, .int s4, .int s3, .int s2, .int s1, .ref 59] (V, T) Q := by
  exact e_callV zd185_151 (own := 8) (nest := false) (w := 1231) (by decide +kernel) (by decide +kernel) zs185 (as := [.int s1, .int s2, .int s3, .int s4, .int s5]) (rest := []) rfl rfl (zsh_at hF rfl).1 (by omega) (Nat.le_of_ble_eq_true rfl) rfl rfl rfl (by omega) k
theorem b185_154 {x : zXs} {F : zF} (hF : zSh F) {d : Nat} {V : Nat → Nat → Int32} {T : Nat → Nat → Int64} {Q : Option Value → zG → Prop} {l1 : Int32} {o2 : Option Value} {o3 : Option Value} {o4 : Option Value} {o5 : Option Value} {l6 : Int32} {l7 : Int32} {l8 : Int32} {l9 : Int32} {o10 : Option Value}  {i1 : Nat} (e1 : l1 = nI i1) (h1 : i1 < 5) {i2 : Nat} (e2 : l1 = nI i2) (h2 : i2 < 5) {i3 : Nat} (e3 : ((Int32.ofInt 2) * l8) + (Int32.ofInt 1) = nI i3) (h3 : i3 < 10) (k : E x F d 185 183 [some (.ref 59), some (.int l1), o2, o3, o4, o5, some (.int l6), some (.int l7), some (.int l8), some (.int l9), o10] [] (zu (zu (zu V 63 i1 l6) 64 i2 l7) 66 i3 l9, T) Q) : E x F d 185 154 [some (.ref 59), some (.int l1), o2, o3, o4, o5, some (.int l6), some (.int l7), some (.int l8), some (.int l9), o10] [] (V, T) Q := by
  refine e_aload_n zd185_154 rfl rfl ?_
  refine e_getA zd185_155 (own := 8) (ci := 8) (kf := 8) (w := 866) (by decide +kernel) (by decide +kernel) (zsh_at hF rfl).1 (by decide +kernel) rfl (zrf_at hF (i := 62) rfl) ?_
  refine e_iload_n zd185_158 rfl ?_
  refine e_iload zd185_159 rfl ?_
  refine e_iast zd185_161 (i := i1) (zsh_at hF rfl) e1 h1 (by omega) ?_
  refine e_aload_n zd185_162 rfl rfl ?_
  refine e_getA zd185_163 (own := 8) (ci := 8) (kf := 9) (w := 867) (by decide +kernel) (by decide +kernel) (zsh_at hF rfl).1 (by decide +kernel) rfl (zrf_at hF (i := 63) rfl) ?_
  refine e_iload_n zd185_166 rfl ?_
  refine e_iload zd185_167 rfl ?_
  refine e_iast zd185_169 (i := i2) (zsh_at hF rfl) e2 h2 (by omega) ?_
  refine e_aload_n zd185_170 rfl rfl ?_
  refine e_getA zd185_171 (own := 8) (ci := 8) (kf := 11) (w := 869) (by decide +kernel) (by decide +kernel) (zsh_at hF rfl).1 (by decide +kernel) rfl (zrf_at hF (i := 65) rfl) ?_
  refine e_iconst zd185_174 ?_
  refine e_iload zd185_175 rfl ?_
  refine e_imul zd185_177 ?_
  refine e_iconst zd185_178 ?_
  refine e_iadd zd185_179 ?_
  refine e_iload zd185_180 rfl ?_
  refine e_iast zd185_182 (i := i3) (zsh_at hF rfl) e3 h3 (by omega) ?_
  exact k
theorem b185_183 {x : zXs} {F : zF} (hF : zSh F) {d : Nat} {V : Nat → Nat → Int32} {T : Nat → Nat → Int64} {Q : Option Value → zG → Prop} {o0 : Option Value} {o1 : Option Value} {o2 : Option Value} {o3 : Option Value} {o4 : Option Value} {o5 : Option Value} {o6 : Option Value} {o7 : Option Value} {l8 : Int32} {o9 : Option Value} {o10 : Option Value}   (k : E x F d 185 79 [o0, o1, o2, o3, o4, o5, o6, o7, some (.int (l8 + Int32.ofInt 1)), o9, o10] [] (V, T) Q) : E x F d 185 183 [o0, o1, o2, o3, o4, o5, o6, o7, some (.int l8), o9, o10] [] (V, T) Q := by
  refine e_iinc zd185_183 rfl (by decide +kernel) ?_
  exact e_goto zd185_186 (tg := 79) rfl k
theorem b185_189 {x : zXs} {F : zF} (hF : zSh F) {d : Nat} {V : Nat → Nat → Int32} {T : Nat → Nat → Int64} {Q : Option Value → zG → Prop} {o0 : Option Value} {o1 : Option Value} {o2 : Option Value} {o3 : Option Value} {o4 : Option Value} {o5 : Option Value} {o6 : Option Value} {o7 : Option Value} {o8 : Option Value} {o9 : Option Value} {o10 : Option Value}   (k : Q none (V, T)) : E x F d 185 189 [o0, o1, o2, o3, o4, o5, o6, o7, o8, o9, o10] [] (V, T) Q := by
  exact e_vret zd185_189 zs185 k
theorem zd186_0 : zop 186 0 = some (.iload_n 1, 1) := by decide +kernel
theorem zd186_1 : zop 186 1 = some (.invokestatic 97, 3) := by decide +kernel
theorem zd186_4 : zop 186 4 = some (.ifCond .eq 15, 3) := by decide +kernel
theorem zd186_7 : zop 186 7 = some (.iload_n 2, 1) := by decide +kernel
theorem zd186_8 : zop 186 8 = some (.i2l, 1) := by decide +kernel
theorem zd186_9 : zop 186 9 = some (.lconst 0, 1) := by decide +kernel
theorem zd186_10 : zop 186 10 = some (.ldc2_w 322, 3) := by decide +kernel
theorem zd186_13 : zop 186 13 = some (.invokestatic 91, 3) := by decide +kernel
theorem zd186_16 : zop 186 16 = some (.ifCond .ne 7, 3) := by decide +kernel
theorem zd186_19 : zop 186 19 = some (.sipush (-1000), 3) := by decide +kernel
theorem zd186_22 : zop 186 22 = some (.ireturn, 1) := by decide +kernel
theorem zd186_23 : zop 186 23 = some (.iload_n 2, 1) := by decide +kernel
theorem zd186_24 : zop 186 24 = some (.iconst 1, 1) := by decide +kernel
theorem zd186_25 : zop 186 25 = some (.if_icmp .le 23, 3) := by decide +kernel
theorem zd186_28 : zop 186 28 = some (.iload_n 2, 1) := by decide +kernel
theorem zd186_29 : zop 186 29 = some (.iconst 4, 1) := by decide +kernel
theorem zd186_30 : zop 186 30 = some (.if_icmp .ne 11, 3) := by decide +kernel
theorem zd186_33 : zop 186 33 = some (.aload_n 0, 1) := by decide +kernel
theorem zd186_34 : zop 186 34 = some (.iload_n 1, 1) := by decide +kernel
theorem zd186_35 : zop 186 35 = some (.invokevirtual 324, 3) := by decide +kernel
theorem zd186_38 : zop 186 38 = some (.goto 9, 3) := by decide +kernel
theorem zd186_41 : zop 186 41 = some (.aload_n 0, 1) := by decide +kernel
theorem zd186_42 : zop 186 42 = some (.iload_n 1, 1) := by decide +kernel
theorem zd186_43 : zop 186 43 = some (.iload_n 2, 1) := by decide +kernel
theorem zd186_44 : zop 186 44 = some (.invokevirtual 327, 3) := by decide +kernel
theorem zd186_47 : zop 186 47 = some (.ireturn, 1) := by decide +kernel
theorem zd186_48 : zop 186 48 = some (.aload_n 0, 1) := by decide +kernel
theorem zd186_49 : zop 186 49 = some (.iconst (-1), 1) := by decide +kernel
theorem zd186_50 : zop 186 50 = some (.putfield 312, 3) := by decide +kernel
theorem zd186_53 : zop 186 53 = some (.aload_n 0, 1) := by decide +kernel
theorem zd186_54 : zop 186 54 = some (.iconst 0, 1) := by decide +kernel
theorem zd186_55 : zop 186 55 = some (.putfield 315, 3) := by decide +kernel
theorem zd186_58 : zop 186 58 = some (.aload_n 0, 1) := by decide +kernel
theorem zd186_59 : zop 186 59 = some (.iload_n 1, 1) := by decide +kernel
theorem zd186_60 : zop 186 60 = some (.iconst (-1), 1) := by decide +kernel
theorem zd186_61 : zop 186 61 = some (.iconst 0, 1) := by decide +kernel
theorem zd186_62 : zop 186 62 = some (.iconst 0, 1) := by decide +kernel
theorem zd186_63 : zop 186 63 = some (.iconst 0, 1) := by decide +kernel
theorem zd186_64 : zop 186 64 = some (.invokevirtual 318, 3) := by decide +kernel
theorem zd186_67 : zop 186 67 = some (.iload_n 2, 1) := by decide +kernel
theorem zd186_68 : zop 186 68 = some (.ifCond .ne 10, 3) := by decide +kernel
theorem zd186_71 : zop 186 71 = some (.aload_n 0, 1) := by decide +kernel
theorem zd186_72 : zop 186 72 = some (.getfield 312, 3) := by decide +kernel
theorem zd186_75 : zop 186 75 = some (.goto 8, 3) := by decide +kernel
theorem zd186_78 : zop 186 78 = some (.aload_n 0, 1) := by decide +kernel
theorem zd186_79 : zop 186 79 = some (.getfield 315, 3) := by decide +kernel
theorem zd186_82 : zop 186 82 = some (.ineg, 1) := by decide +kernel
theorem zd186_83 : zop 186 83 = some (.ireturn, 1) := by decide +kernel
theorem b186_0 {x : zXs} {F : zF} (hF : zSh F) {d : Nat} {V : Nat → Nat → Int32} {T : Nat → Nat → Int64} {Q : Option Value → zG → Prop} {o0 : Option Value} {l1 : Int32} {o2 : Option Value}   (k : E x F d 131 0 [some (.int l1)] [] (V, T) (fun r G' => E x F (d + 1) 186 4 [o0, some (.int l1), o2] (r.toList ++ []) G' Q)) : E x F (d + 1) 186 0 [o0, some (.int l1), o2] [] (V, T) Q := by
  refine e_iload_n zd186_0 rfl ?_
  exact e_callS zd186_1 (own := 8) (nest := false) (w := 1005) (by decide +kernel) (by decide +kernel) zs131 (as := [.int l1]) (rest := []) rfl rfl (Nat.le_of_ble_eq_true rfl) rfl rfl rfl (by omega) k
theorem b186_4 {x : zXs} {F : zF} (hF : zSh F) {d : Nat} {V : Nat → Nat → Int32} {T : Nat → Nat → Int64} {Q : Option Value → zG → Prop} {o0 : Option Value} {o1 : Option Value} {o2 : Option Value} {s0 : Int32}   (kt : s0 = 0 → E x F d 186 19 [o0, o1, o2] [] (V, T) Q) (kf : ¬ (s0 = 0) → E x F d 186 7 [o0, o1, o2] [] (V, T) Q) : E x F d 186 4 [o0, o1, o2] [.int s0] (V, T) Q := by
  exact e_if_eq zd186_4 (tg := 19) rfl kt kf
theorem b186_7 {x : zXs} {F : zF} (hF : zSh F) {d : Nat} {V : Nat → Nat → Int32} {T : Nat → Nat → Int64} {Q : Option Value → zG → Prop} {o0 : Option Value} {o1 : Option Value} {l2 : Int32}   (k : E x F d 132 0 [some (.long l2.toInt64), none, some (.long 0), none, some (.long (4 : Int64)), none] [] (V, T) (fun r G' => E x F (d + 1) 186 16 [o0, o1, some (.int l2)] (r.toList ++ []) G' Q)) : E x F (d + 1) 186 7 [o0, o1, some (.int l2)] [] (V, T) Q := by
  refine e_iload_n zd186_7 rfl ?_
  refine e_i2l zd186_8 ?_
  refine e_lconst zd186_9 (v := 0) rfl ?_
  refine e_ldc2 zd186_10 (own := 8) (w := 1239) (v := 4) (by decide +kernel) (by decide +kernel) ?_
  exact e_callS zd186_13 (own := 8) (nest := false) (w := 1009) (by decide +kernel) (by decide +kernel) zs132 (as := [.long l2.toInt64, .long 0, .long (4 : Int64)]) (rest := []) rfl rfl (Nat.le_of_ble_eq_true rfl) rfl rfl rfl (by omega) k
theorem b186_16 {x : zXs} {F : zF} (hF : zSh F) {d : Nat} {V : Nat → Nat → Int32} {T : Nat → Nat → Int64} {Q : Option Value → zG → Prop} {o0 : Option Value} {o1 : Option Value} {o2 : Option Value} {s0 : Int32}   (kt : ¬ s0 = 0 → E x F d 186 23 [o0, o1, o2] [] (V, T) Q) (kf : ¬ (¬ s0 = 0) → E x F d 186 19 [o0, o1, o2] [] (V, T) Q) : E x F d 186 16 [o0, o1, o2] [.int s0] (V, T) Q := by
  exact e_if_ne zd186_16 (tg := 23) rfl kt kf
theorem b186_19 {x : zXs} {F : zF} (hF : zSh F) {d : Nat} {V : Nat → Nat → Int32} {T : Nat → Nat → Int64} {Q : Option Value → zG → Prop} {o0 : Option Value} {o1 : Option Value} {o2 : Option Value}   (k : Q (some (.int (Int32.ofInt (-1000)))) (V, T)) : E x F d 186 19 [o0, o1, o2] [] (V, T) Q := by
  refine e_sipush zd186_19 (v := Int32.ofInt (-1000)) (by decide +kernel) ?_
  exact e_ireti zd186_22 zs186 k
theorem b186_23 {x : zXs} {F : zF} (hF : zSh F) {d : Nat} {V : Nat → Nat → Int32} {T : Nat → Nat → Int64} {Q : Option Value → zG → Prop} {o0 : Option Value} {o1 : Option Value} {l2 : Int32}   (kt : l2 ≤ (Int32.ofInt 1) → E x F d 186 48 [o0, o1, some (.int l2)] [] (V, T) Q) (kf : ¬ (l2 ≤ (Int32.ofInt 1)) → E x F d 186 28 [o0, o1, some (.int l2)] [] (V, T) Q) : E x F d 186 23 [o0, o1, some (.int l2)] [] (V, T) Q := by
  refine e_iload_n zd186_23 rfl ?_
  refine e_iconst zd186_24 ?_
  exact e_icmp_le zd186_25 (tg := 48) rfl kt kf
theorem b186_28 {x : zXs} {F : zF} (hF : zSh F) {d : Nat} {V : Nat → Nat → Int32} {T : Nat → Nat → Int64} {Q : Option Value → zG → Prop} {o0 : Option Value} {o1 : Option Value} {l2 : Int32}   (kt : ¬ l2 = (Int32.ofInt 4) → E x F d 186 41 [o0, o1, some (.int l2)] [] (V, T) Q) (kf : ¬ (¬ l2 = (Int32.ofInt 4)) → E x F d 186 33 [o0, o1, some (.int l2)] [] (V, T) Q) : E x F d 186 28 [o0, o1, some (.int l2)] [] (V, T) Q := by
  refine e_iload_n zd186_28 rfl ?_
  refine e_iconst zd186_29 ?_
  exact e_icmp_ne zd186_30 (tg := 41) rfl kt kf
theorem b186_33 {x : zXs} {F : zF} (hF : zSh F) {d : Nat} {V : Nat → Nat → Int32} {T : Nat → Nat → Int64} {Q : Option Value → zG → Prop} {l1 : Int32} {o2 : Option Value}   (k : E x F d 187 0 [some (.ref 59), some (.int l1), none] [] (V, T) (fun r G' => E x F (d + 1) 186 38 [some (.ref 59), some (.int l1), o2] (r.toList ++ []) G' Q)) : E x F (d + 1) 186 33 [some (.ref 59), some (.int l1), o2] [] (V, T) Q := by
  refine e_aload_n zd186_33 rfl rfl ?_
  refine e_iload_n zd186_34 rfl ?_
  exact e_callV zd186_35 (own := 8) (nest := false) (w := 1240) (by decide +kernel) (by decide +kernel) zs187 (as := [.int l1]) (rest := []) rfl rfl (zsh_at hF rfl).1 (by omega) (Nat.le_of_ble_eq_true rfl) rfl rfl rfl (by omega) k
theorem b186_38 {x : zXs} {F : zF} (hF : zSh F) {d : Nat} {V : Nat → Nat → Int32} {T : Nat → Nat → Int64} {Q : Option Value → zG → Prop} {o0 : Option Value} {o1 : Option Value} {o2 : Option Value} {s0 : Int32}   (k : E x F d 186 47 [o0, o1, o2] [.int s0] (V, T) Q) : E x F d 186 38 [o0, o1, o2] [.int s0] (V, T) Q := by
  exact e_goto zd186_38 (tg := 47) rfl k
theorem b186_41 {x : zXs} {F : zF} (hF : zSh F) {d : Nat} {V : Nat → Nat → Int32} {T : Nat → Nat → Int64} {Q : Option Value → zG → Prop} {l1 : Int32} {l2 : Int32}   (k : E x F d 188 0 [some (.ref 59), some (.int l1), some (.int l2), none, none, none, none] [] (V, T) (fun r G' => E x F (d + 1) 186 47 [some (.ref 59), some (.int l1), some (.int l2)] (r.toList ++ []) G' Q)) : E x F (d + 1) 186 41 [some (.ref 59), some (.int l1), some (.int l2)] [] (V, T) Q := by
  refine e_aload_n zd186_41 rfl rfl ?_
  refine e_iload_n zd186_42 rfl ?_
  refine e_iload_n zd186_43 rfl ?_
  exact e_callV zd186_44 (own := 8) (nest := false) (w := 1244) (by decide +kernel) (by decide +kernel) zs188 (as := [.int l1, .int l2]) (rest := []) rfl rfl (zsh_at hF rfl).1 (by omega) (Nat.le_of_ble_eq_true rfl) rfl rfl rfl (by omega) k
theorem b186_47 {x : zXs} {F : zF} (hF : zSh F) {d : Nat} {V : Nat → Nat → Int32} {T : Nat → Nat → Int64} {Q : Option Value → zG → Prop} {o0 : Option Value} {o1 : Option Value} {o2 : Option Value} {s0 : Int32}   (k : Q (some (.int s0)) (V, T)) : E x F d 186 47 [o0, o1, o2] [.int s0] (V, T) Q := by
  exact e_ireti zd186_47 zs186 k
theorem b186_48 {x : zXs} {F : zF} (hF : zSh F) {d : Nat} {V : Nat → Nat → Int32} {T : Nat → Nat → Int64} {Q : Option Value → zG → Prop} {l1 : Int32} {o2 : Option Value}   (k : E x F d 185 0 [some (.ref 59), some (.int l1), some (.int (Int32.ofInt (-1))), some (.int (Int32.ofInt 0)), some (.int (Int32.ofInt 0)), some (.int (Int32.ofInt 0)), none, none, none, none, none] [] (zu (zu V 59 35 (Int32.ofInt (-1))) 59 36 (Int32.ofInt 0), T) (fun r G' => E x F (d + 1) 186 67 [some (.ref 59), some (.int l1), o2] (r.toList ++ []) G' Q)) : E x F (d + 1) 186 48 [some (.ref 59), some (.int l1), o2] [] (V, T) Q := by
  refine e_aload_n zd186_48 rfl rfl ?_
  refine e_iconst zd186_49 ?_
  refine e_putI zd186_50 (own := 8) (ci := 8) (kf := 35) (w := 893) (by decide +kernel) (by decide +kernel) (zsh_at hF rfl).1 (by decide +kernel) rfl ?_
  refine e_aload_n zd186_53 rfl rfl ?_
  refine e_iconst zd186_54 ?_
  refine e_putI zd186_55 (own := 8) (ci := 8) (kf := 36) (w := 894) (by decide +kernel) (by decide +kernel) (zsh_at hF rfl).1 (by decide +kernel) rfl ?_
  refine e_aload_n zd186_58 rfl rfl ?_
  refine e_iload_n zd186_59 rfl ?_
  refine e_iconst zd186_60 ?_
  refine e_iconst zd186_61 ?_
  refine e_iconst zd186_62 ?_
  refine e_iconst zd186_63 ?_
  exact e_callV zd186_64 (own := 8) (nest := false) (w := 1231) (by decide +kernel) (by decide +kernel) zs185 (as := [.int l1, .int (Int32.ofInt (-1)), .int (Int32.ofInt 0), .int (Int32.ofInt 0), .int (Int32.ofInt 0)]) (rest := []) rfl rfl (zsh_at hF rfl).1 (by omega) (Nat.le_of_ble_eq_true rfl) rfl rfl rfl (by omega) k
theorem b186_67 {x : zXs} {F : zF} (hF : zSh F) {d : Nat} {V : Nat → Nat → Int32} {T : Nat → Nat → Int64} {Q : Option Value → zG → Prop} {o0 : Option Value} {o1 : Option Value} {l2 : Int32}   (kt : ¬ l2 = 0 → E x F d 186 78 [o0, o1, some (.int l2)] [] (V, T) Q) (kf : ¬ (¬ l2 = 0) → E x F d 186 71 [o0, o1, some (.int l2)] [] (V, T) Q) : E x F d 186 67 [o0, o1, some (.int l2)] [] (V, T) Q := by
  refine e_iload_n zd186_67 rfl ?_
  exact e_if_ne zd186_68 (tg := 78) rfl kt kf
theorem b186_71 {x : zXs} {F : zF} (hF : zSh F) {d : Nat} {V : Nat → Nat → Int32} {T : Nat → Nat → Int64} {Q : Option Value → zG → Prop} {o1 : Option Value} {o2 : Option Value}   (k : E x F d 186 83 [some (.ref 59), o1, o2] [.int (V 59 35)] (V, T) Q) : E x F d 186 71 [some (.ref 59), o1, o2] [] (V, T) Q := by
  refine e_aload_n zd186_71 rfl rfl ?_
  refine e_getI zd186_72 (own := 8) (ci := 8) (kf := 35) (w := 893) (by decide +kernel) (by decide +kernel) (zsh_at hF rfl).1 (by decide +kernel) rfl ?_
  exact e_goto zd186_75 (tg := 83) rfl k
theorem b186_78 {x : zXs} {F : zF} (hF : zSh F) {d : Nat} {V : Nat → Nat → Int32} {T : Nat → Nat → Int64} {Q : Option Value → zG → Prop} {o1 : Option Value} {o2 : Option Value}   (k : E x F d 186 83 [some (.ref 59), o1, o2] [.int (-(V 59 36))] (V, T) Q) : E x F d 186 78 [some (.ref 59), o1, o2] [] (V, T) Q := by
  refine e_aload_n zd186_78 rfl rfl ?_
  refine e_getI zd186_79 (own := 8) (ci := 8) (kf := 36) (w := 894) (by decide +kernel) (by decide +kernel) (zsh_at hF rfl).1 (by decide +kernel) rfl ?_
  refine e_ineg zd186_82 ?_
  exact k
theorem b186_83 {x : zXs} {F : zF} (hF : zSh F) {d : Nat} {V : Nat → Nat → Int32} {T : Nat → Nat → Int64} {Q : Option Value → zG → Prop} {o0 : Option Value} {o1 : Option Value} {o2 : Option Value} {s0 : Int32}   (k : Q (some (.int s0)) (V, T)) : E x F d 186 83 [o0, o1, o2] [.int s0] (V, T) Q := by
  exact e_ireti zd186_83 zs186 k
theorem zd187_0 : zop 187 0 = some (.aload_n 0, 1) := by decide +kernel
theorem zd187_1 : zop 187 1 = some (.invokevirtual 297, 3) := by decide +kernel
theorem zd187_4 : zop 187 4 = some (.iconst 0, 1) := by decide +kernel
theorem zd187_5 : zop 187 5 = some (.istore_n 2, 1) := by decide +kernel
theorem zd187_6 : zop 187 6 = some (.iload_n 2, 1) := by decide +kernel
theorem zd187_7 : zop 187 7 = some (.bipush 20, 2) := by decide +kernel
theorem zd187_9 : zop 187 9 = some (.if_icmp .gt 23, 3) := by decide +kernel
theorem zd187_12 : zop 187 12 = some (.aload_n 0, 1) := by decide +kernel
theorem zd187_13 : zop 187 13 = some (.iload_n 1, 1) := by decide +kernel
theorem zd187_14 : zop 187 14 = some (.invokevirtual 103, 3) := by decide +kernel
theorem zd187_17 : zop 187 17 = some (.ifCond .eq 15, 3) := by decide +kernel
theorem zd187_20 : zop 187 20 = some (.aload_n 0, 1) := by decide +kernel
theorem zd187_21 : zop 187 21 = some (.iload_n 1, 1) := by decide +kernel
theorem zd187_22 : zop 187 22 = some (.iconst 1, 1) := by decide +kernel
theorem zd187_23 : zop 187 23 = some (.invokevirtual 308, 3) := by decide +kernel
theorem zd187_26 : zop 187 26 = some (.iinc 2 1, 3) := by decide +kernel
theorem zd187_29 : zop 187 29 = some (.goto (-23), 3) := by decide +kernel
theorem zd187_32 : zop 187 32 = some (.aload_n 0, 1) := by decide +kernel
theorem zd187_33 : zop 187 33 = some (.invokevirtual 300, 3) := by decide +kernel
theorem zd187_36 : zop 187 36 = some (.iload_n 2, 1) := by decide +kernel
theorem zd187_37 : zop 187 37 = some (.bipush 20, 2) := by decide +kernel
theorem zd187_39 : zop 187 39 = some (.if_icmp .le 7, 3) := by decide +kernel
theorem zd187_42 : zop 187 42 = some (.iconst (-1), 1) := by decide +kernel
theorem zd187_43 : zop 187 43 = some (.goto 4, 3) := by decide +kernel
theorem zd187_46 : zop 187 46 = some (.iload_n 2, 1) := by decide +kernel
theorem zd187_47 : zop 187 47 = some (.ireturn, 1) := by decide +kernel
theorem b187_0 {x : zXs} {F : zF} (hF : zSh F) {d : Nat} {V : Nat → Nat → Int32} {T : Nat → Nat → Int64} {Q : Option Value → zG → Prop} {o1 : Option Value} {o2 : Option Value}   (k : E x F d 180 0 [some (.ref 59), none] [] (V, T) (fun r G' => E x F (d + 1) 187 4 [some (.ref 59), o1, o2] (r.toList ++ []) G' Q)) : E x F (d + 1) 187 0 [some (.ref 59), o1, o2] [] (V, T) Q := by
  refine e_aload_n zd187_0 rfl rfl ?_
  exact e_callV zd187_1 (own := 8) (nest := false) (w := 1210) (by decide +kernel) (by decide +kernel) zs180 (as := []) (rest := []) rfl rfl (zsh_at hF rfl).1 (by omega) (Nat.le_of_ble_eq_true rfl) rfl rfl rfl (by omega) k
theorem b187_4 {x : zXs} {F : zF} (hF : zSh F) {d : Nat} {V : Nat → Nat → Int32} {T : Nat → Nat → Int64} {Q : Option Value → zG → Prop} {o0 : Option Value} {o1 : Option Value} {o2 : Option Value}   (k : E x F d 187 6 [o0, o1, some (.int (Int32.ofInt 0))] [] (V, T) Q) : E x F d 187 4 [o0, o1, o2] [] (V, T) Q := by
  refine e_iconst zd187_4 ?_
  refine e_istore_n zd187_5 (by decide +kernel) (Nat.le_of_ble_eq_true rfl) ?_
  exact k
theorem b187_6 {x : zXs} {F : zF} (hF : zSh F) {d : Nat} {V : Nat → Nat → Int32} {T : Nat → Nat → Int64} {Q : Option Value → zG → Prop} {o0 : Option Value} {o1 : Option Value} {l2 : Int32}   (kt : (Int32.ofInt 20) < l2 → E x F d 187 32 [o0, o1, some (.int l2)] [] (V, T) Q) (kf : ¬ ((Int32.ofInt 20) < l2) → E x F d 187 12 [o0, o1, some (.int l2)] [] (V, T) Q) : E x F d 187 6 [o0, o1, some (.int l2)] [] (V, T) Q := by
  refine e_iload_n zd187_6 rfl ?_
  refine e_bipush zd187_7 (v := Int32.ofInt 20) (by decide +kernel) ?_
  exact e_icmp_gt zd187_9 (tg := 32) rfl kt kf
theorem b187_12 {x : zXs} {F : zF} (hF : zSh F) {d : Nat} {V : Nat → Nat → Int32} {T : Nat → Nat → Int64} {Q : Option Value → zG → Prop} {l1 : Int32} {o2 : Option Value}   (k : E x F d 133 0 [some (.ref 59), some (.int l1)] [] (V, T) (fun r G' => E x F (d + 1) 187 17 [some (.ref 59), some (.int l1), o2] (r.toList ++ []) G' Q)) : E x F (d + 1) 187 12 [some (.ref 59), some (.int l1), o2] [] (V, T) Q := by
  refine e_aload_n zd187_12 rfl rfl ?_
  refine e_iload_n zd187_13 rfl ?_
  exact e_callV zd187_14 (own := 8) (nest := false) (w := 1013) (by decide +kernel) (by decide +kernel) zs133 (as := [.int l1]) (rest := []) rfl rfl (zsh_at hF rfl).1 (by omega) (Nat.le_of_ble_eq_true rfl) rfl rfl rfl (by omega) k
theorem b187_17 {x : zXs} {F : zF} (hF : zSh F) {d : Nat} {V : Nat → Nat → Int32} {T : Nat → Nat → Int64} {Q : Option Value → zG → Prop} {o0 : Option Value} {o1 : Option Value} {o2 : Option Value} {s0 : Int32}   (kt : s0 = 0 → E x F d 187 32 [o0, o1, o2] [] (V, T) Q) (kf : ¬ (s0 = 0) → E x F d 187 20 [o0, o1, o2] [] (V, T) Q) : E x F d 187 17 [o0, o1, o2] [.int s0] (V, T) Q := by
  exact e_if_eq zd187_17 (tg := 32) rfl kt kf
theorem b187_20 {x : zXs} {F : zF} (hF : zSh F) {d : Nat} {V : Nat → Nat → Int32} {T : Nat → Nat → Int64} {Q : Option Value → zG → Prop} {l1 : Int32} {o2 : Option Value}   (k : E x F d 183 0 [some (.ref 59), some (.int l1), some (.int (Int32.ofInt 1)), none, none] [] (V, T) (fun r G' => E x F (d + 1) 187 26 [some (.ref 59), some (.int l1), o2] (r.toList ++ []) G' Q)) : E x F (d + 1) 187 20 [some (.ref 59), some (.int l1), o2] [] (V, T) Q := by
  refine e_aload_n zd187_20 rfl rfl ?_
  refine e_iload_n zd187_21 rfl ?_
  refine e_iconst zd187_22 ?_
  exact e_callV zd187_23 (own := 8) (nest := false) (w := 1223) (by decide +kernel) (by decide +kernel) zs183 (as := [.int l1, .int (Int32.ofInt 1)]) (rest := []) rfl rfl (zsh_at hF rfl).1 (by omega) (Nat.le_of_ble_eq_true rfl) rfl rfl rfl (by omega) k
theorem b187_26 {x : zXs} {F : zF} (hF : zSh F) {d : Nat} {V : Nat → Nat → Int32} {T : Nat → Nat → Int64} {Q : Option Value → zG → Prop} {o0 : Option Value} {o1 : Option Value} {l2 : Int32}   (k : E x F d 187 6 [o0, o1, some (.int (l2 + Int32.ofInt 1))] [] (V, T) Q) : E x F d 187 26 [o0, o1, some (.int l2)] [] (V, T) Q := by
  refine e_iinc zd187_26 rfl (by decide +kernel) ?_
  exact e_goto zd187_29 (tg := 6) rfl k
theorem b187_32 {x : zXs} {F : zF} (hF : zSh F) {d : Nat} {V : Nat → Nat → Int32} {T : Nat → Nat → Int64} {Q : Option Value → zG → Prop} {o1 : Option Value} {o2 : Option Value}   (k : E x F d 181 0 [some (.ref 59), none] [] (V, T) (fun r G' => E x F (d + 1) 187 36 [some (.ref 59), o1, o2] (r.toList ++ []) G' Q)) : E x F (d + 1) 187 32 [some (.ref 59), o1, o2] [] (V, T) Q := by
  refine e_aload_n zd187_32 rfl rfl ?_
  exact e_callV zd187_33 (own := 8) (nest := false) (w := 1214) (by decide +kernel) (by decide +kernel) zs181 (as := []) (rest := []) rfl rfl (zsh_at hF rfl).1 (by omega) (Nat.le_of_ble_eq_true rfl) rfl rfl rfl (by omega) k
theorem b187_36 {x : zXs} {F : zF} (hF : zSh F) {d : Nat} {V : Nat → Nat → Int32} {T : Nat → Nat → Int64} {Q : Option Value → zG → Prop} {o0 : Option Value} {o1 : Option Value} {l2 : Int32}   (kt : l2 ≤ (Int32.ofInt 20) → E x F d 187 46 [o0, o1, some (.int l2)] [] (V, T) Q) (kf : ¬ (l2 ≤ (Int32.ofInt 20)) → E x F d 187 42 [o0, o1, some (.int l2)] [] (V, T) Q) : E x F d 187 36 [o0, o1, some (.int l2)] [] (V, T) Q := by
  refine e_iload_n zd187_36 rfl ?_
  refine e_bipush zd187_37 (v := Int32.ofInt 20) (by decide +kernel) ?_
  exact e_icmp_le zd187_39 (tg := 46) rfl kt kf
theorem b187_42 {x : zXs} {F : zF} (hF : zSh F) {d : Nat} {V : Nat → Nat → Int32} {T : Nat → Nat → Int64} {Q : Option Value → zG → Prop} {o0 : Option Value} {o1 : Option Value} {o2 : Option Value}   (k : E x F d 187 47 [o0, o1, o2] [.int (Int32.ofInt (-1))] (V, T) Q) : E x F d 187 42 [o0, o1, o2] [] (V, T) Q := by
  refine e_iconst zd187_42 ?_
  exact e_goto zd187_43 (tg := 47) rfl k
theorem b187_46 {x : zXs} {F : zF} (hF : zSh F) {d : Nat} {V : Nat → Nat → Int32} {T : Nat → Nat → Int64} {Q : Option Value → zG → Prop} {o0 : Option Value} {o1 : Option Value} {l2 : Int32}   (k : E x F d 187 47 [o0, o1, some (.int l2)] [.int l2] (V, T) Q) : E x F d 187 46 [o0, o1, some (.int l2)] [] (V, T) Q := by
  refine e_iload_n zd187_46 rfl ?_
  exact k
theorem b187_47 {x : zXs} {F : zF} (hF : zSh F) {d : Nat} {V : Nat → Nat → Int32} {T : Nat → Nat → Int64} {Q : Option Value → zG → Prop} {o0 : Option Value} {o1 : Option Value} {o2 : Option Value} {s0 : Int32}   (k : Q (some (.int s0)) (V, T)) : E x F d 187 47 [o0, o1, o2] [.int s0] (V, T) Q := by
  exact e_ireti zd187_47 zs187 k
theorem zd188_0 : zop 188 0 = some (.iconst (-1), 1) := by decide +kernel
theorem zd188_1 : zop 188 1 = some (.istore_n 3, 1) := by decide +kernel
theorem zd188_2 : zop 188 2 = some (.iconst (-1), 1) := by decide +kernel
theorem zd188_3 : zop 188 3 = some (.istore 4, 2) := by decide +kernel
theorem zd188_5 : zop 188 5 = some (.iconst 0, 1) := by decide +kernel
theorem zd188_6 : zop 188 6 = some (.istore 5, 2) := by decide +kernel
theorem zd188_8 : zop 188 8 = some (.iload 5, 2) := by decide +kernel
theorem zd188_10 : zop 188 10 = some (.aload_n 0, 1) := by decide +kernel
theorem zd188_11 : zop 188 11 = some (.getfield 88, 3) := by decide +kernel
theorem zd188_14 : zop 188 14 = some (.if_icmp .ge 38, 3) := by decide +kernel
theorem zd188_17 : zop 188 17 = some (.aload_n 0, 1) := by decide +kernel
theorem zd188_18 : zop 188 18 = some (.iload 5, 2) := by decide +kernel
theorem zd188_20 : zop 188 20 = some (.iload_n 1, 1) := by decide +kernel
theorem zd188_21 : zop 188 21 = some (.iconst 0, 1) := by decide +kernel
theorem zd188_22 : zop 188 22 = some (.invokevirtual 303, 3) := by decide +kernel
theorem zd188_25 : zop 188 25 = some (.istore 6, 2) := by decide +kernel
theorem zd188_27 : zop 188 27 = some (.iload_n 3, 1) := by decide +kernel
theorem zd188_28 : zop 188 28 = some (.iconst (-1), 1) := by decide +kernel
theorem zd188_29 : zop 188 29 = some (.if_icmp .eq 10, 3) := by decide +kernel
theorem zd188_32 : zop 188 32 = some (.iload 6, 2) := by decide +kernel
theorem zd188_34 : zop 188 34 = some (.iload 4, 2) := by decide +kernel
theorem zd188_36 : zop 188 36 = some (.if_icmp .le 10, 3) := by decide +kernel
theorem zd188_39 : zop 188 39 = some (.iload 5, 2) := by decide +kernel
theorem zd188_41 : zop 188 41 = some (.istore_n 3, 1) := by decide +kernel
theorem zd188_42 : zop 188 42 = some (.iload 6, 2) := by decide +kernel
theorem zd188_44 : zop 188 44 = some (.istore 4, 2) := by decide +kernel
theorem zd188_46 : zop 188 46 = some (.iinc 5 1, 3) := by decide +kernel
theorem zd188_49 : zop 188 49 = some (.goto (-41), 3) := by decide +kernel
theorem zd188_52 : zop 188 52 = some (.iload_n 2, 1) := by decide +kernel
theorem zd188_53 : zop 188 53 = some (.iconst 2, 1) := by decide +kernel
theorem zd188_54 : zop 188 54 = some (.if_icmp .ne 7, 3) := by decide +kernel
theorem zd188_57 : zop 188 57 = some (.iload_n 3, 1) := by decide +kernel
theorem zd188_58 : zop 188 58 = some (.goto 5, 3) := by decide +kernel
theorem zd188_61 : zop 188 61 = some (.iload 4, 2) := by decide +kernel
theorem zd188_63 : zop 188 63 = some (.ireturn, 1) := by decide +kernel
theorem b188_0 {x : zXs} {F : zF} (hF : zSh F) {d : Nat} {V : Nat → Nat → Int32} {T : Nat → Nat → Int64} {Q : Option Value → zG → Prop} {o0 : Option Value} {o1 : Option Value} {o2 : Option Value} {o3 : Option Value} {o4 : Option Value} {o5 : Option Value} {o6 : Option Value}   (k : E x F d 188 8 [o0, o1, o2, some (.int (Int32.ofInt (-1))), some (.int (Int32.ofInt (-1))), some (.int (Int32.ofInt 0)), o6] [] (V, T) Q) : E x F d 188 0 [o0, o1, o2, o3, o4, o5, o6] [] (V, T) Q := by
  refine e_iconst zd188_0 ?_
  refine e_istore_n zd188_1 (by decide +kernel) (Nat.le_of_ble_eq_true rfl) ?_
  refine e_iconst zd188_2 ?_
  refine e_istore zd188_3 (by decide +kernel) (Nat.le_of_ble_eq_true rfl) ?_
  refine e_iconst zd188_5 ?_
  refine e_istore zd188_6 (by decide +kernel) (Nat.le_of_ble_eq_true rfl) ?_
  exact k
theorem b188_8 {x : zXs} {F : zF} (hF : zSh F) {d : Nat} {V : Nat → Nat → Int32} {T : Nat → Nat → Int64} {Q : Option Value → zG → Prop} {o1 : Option Value} {o2 : Option Value} {o3 : Option Value} {o4 : Option Value} {l5 : Int32} {o6 : Option Value}   (kt : (V 59 12) ≤ l5 → E x F d 188 52 [some (.ref 59), o1, o2, o3, o4, some (.int l5), o6] [] (V, T) Q) (kf : ¬ ((V 59 12) ≤ l5) → E x F d 188 17 [some (.ref 59), o1, o2, o3, o4, some (.int l5), o6] [] (V, T) Q) : E x F d 188 8 [some (.ref 59), o1, o2, o3, o4, some (.int l5), o6] [] (V, T) Q := by
  refine e_iload zd188_8 rfl ?_
  refine e_aload_n zd188_10 rfl rfl ?_
  refine e_getI zd188_11 (own := 8) (ci := 8) (kf := 12) (w := 870) (by decide +kernel) (by decide +kernel) (zsh_at hF rfl).1 (by decide +kernel) rfl ?_
  exact e_icmp_ge zd188_14 (tg := 52) rfl kt kf
theorem b188_17 {x : zXs} {F : zF} (hF : zSh F) {d : Nat} {V : Nat → Nat → Int32} {T : Nat → Nat → Int64} {Q : Option Value → zG → Prop} {l1 : Int32} {o2 : Option Value} {o3 : Option Value} {o4 : Option Value} {l5 : Int32} {o6 : Option Value}   (k : E x F d 179 0 [some (.ref 59), some (.int l5), some (.int l1), some (.int (Int32.ofInt 0)), none, none] [] (V, T) (fun r G' => E x F (d + 1) 188 25 [some (.ref 59), some (.int l1), o2, o3, o4, some (.int l5), o6] (r.toList ++ []) G' Q)) : E x F (d + 1) 188 17 [some (.ref 59), some (.int l1), o2, o3, o4, some (.int l5), o6] [] (V, T) Q := by
  refine e_aload_n zd188_17 rfl rfl ?_
  refine e_iload zd188_18 rfl ?_
  refine e_iload_n zd188_20 rfl ?_
  refine e_iconst zd188_21 ?_
  exact e_callV zd188_22 (own := 8) (nest := false) (w := 1206) (by decide +kernel) (by decide +kernel) zs179 (as := [.int l5, .int l1, .int (Int32.ofInt 0)]) (rest := []) rfl rfl (zsh_at hF rfl).1 (by omega) (Nat.le_of_ble_eq_true rfl) rfl rfl rfl (by omega) k
theorem b188_25 {x : zXs} {F : zF} (hF : zSh F) {d : Nat} {V : Nat → Nat → Int32} {T : Nat → Nat → Int64} {Q : Option Value → zG → Prop} {o0 : Option Value} {o1 : Option Value} {o2 : Option Value} {l3 : Int32} {o4 : Option Value} {o5 : Option Value} {o6 : Option Value} {s0 : Int32}   (kt : l3 = (Int32.ofInt (-1)) → E x F d 188 39 [o0, o1, o2, some (.int l3), o4, o5, some (.int s0)] [] (V, T) Q) (kf : ¬ (l3 = (Int32.ofInt (-1))) → E x F d 188 32 [o0, o1, o2, some (.int l3), o4, o5, some (.int s0)] [] (V, T) Q) : E x F d 188 25 [o0, o1, o2, some (.int l3), o4, o5, o6] [.int s0] (V, T) Q := by
  refine e_istore zd188_25 (by decide +kernel) (Nat.le_of_ble_eq_true rfl) ?_
  refine e_iload_n zd188_27 rfl ?_
  refine e_iconst zd188_28 ?_
  exact e_icmp_eq zd188_29 (tg := 39) rfl kt kf
theorem b188_32 {x : zXs} {F : zF} (hF : zSh F) {d : Nat} {V : Nat → Nat → Int32} {T : Nat → Nat → Int64} {Q : Option Value → zG → Prop} {o0 : Option Value} {o1 : Option Value} {o2 : Option Value} {o3 : Option Value} {l4 : Int32} {o5 : Option Value} {l6 : Int32}   (kt : l6 ≤ l4 → E x F d 188 46 [o0, o1, o2, o3, some (.int l4), o5, some (.int l6)] [] (V, T) Q) (kf : ¬ (l6 ≤ l4) → E x F d 188 39 [o0, o1, o2, o3, some (.int l4), o5, some (.int l6)] [] (V, T) Q) : E x F d 188 32 [o0, o1, o2, o3, some (.int l4), o5, some (.int l6)] [] (V, T) Q := by
  refine e_iload zd188_32 rfl ?_
  refine e_iload zd188_34 rfl ?_
  exact e_icmp_le zd188_36 (tg := 46) rfl kt kf
theorem b188_39 {x : zXs} {F : zF} (hF : zSh F) {d : Nat} {V : Nat → Nat → Int32} {T : Nat → Nat → Int64} {Q : Option Value → zG → Prop} {o0 : Option Value} {o1 : Option Value} {o2 : Option Value} {o3 : Option Value} {o4 : Option Value} {l5 : Int32} {l6 : Int32}   (k : E x F d 188 46 [o0, o1, o2, some (.int l5), some (.int l6), some (.int l5), some (.int l6)] [] (V, T) Q) : E x F d 188 39 [o0, o1, o2, o3, o4, some (.int l5), some (.int l6)] [] (V, T) Q := by
  refine e_iload zd188_39 rfl ?_
  refine e_istore_n zd188_41 (by decide +kernel) (Nat.le_of_ble_eq_true rfl) ?_
  refine e_iload zd188_42 rfl ?_
  refine e_istore zd188_44 (by decide +kernel) (Nat.le_of_ble_eq_true rfl) ?_
  exact k
theorem b188_46 {x : zXs} {F : zF} (hF : zSh F) {d : Nat} {V : Nat → Nat → Int32} {T : Nat → Nat → Int64} {Q : Option Value → zG → Prop} {o0 : Option Value} {o1 : Option Value} {o2 : Option Value} {o3 : Option Value} {o4 : Option Value} {l5 : Int32} {o6 : Option Value}   (k : E x F d 188 8 [o0, o1, o2, o3, o4, some (.int (l5 + Int32.ofInt 1)), o6] [] (V, T) Q) : E x F d 188 46 [o0, o1, o2, o3, o4, some (.int l5), o6] [] (V, T) Q := by
  refine e_iinc zd188_46 rfl (by decide +kernel) ?_
  exact e_goto zd188_49 (tg := 8) rfl k
theorem b188_52 {x : zXs} {F : zF} (hF : zSh F) {d : Nat} {V : Nat → Nat → Int32} {T : Nat → Nat → Int64} {Q : Option Value → zG → Prop} {o0 : Option Value} {o1 : Option Value} {l2 : Int32} {o3 : Option Value} {o4 : Option Value} {o5 : Option Value} {o6 : Option Value}   (kt : ¬ l2 = (Int32.ofInt 2) → E x F d 188 61 [o0, o1, some (.int l2), o3, o4, o5, o6] [] (V, T) Q) (kf : ¬ (¬ l2 = (Int32.ofInt 2)) → E x F d 188 57 [o0, o1, some (.int l2), o3, o4, o5, o6] [] (V, T) Q) : E x F d 188 52 [o0, o1, some (.int l2), o3, o4, o5, o6] [] (V, T) Q := by
  refine e_iload_n zd188_52 rfl ?_
  refine e_iconst zd188_53 ?_
  exact e_icmp_ne zd188_54 (tg := 61) rfl kt kf
theorem b188_57 {x : zXs} {F : zF} (hF : zSh F) {d : Nat} {V : Nat → Nat → Int32} {T : Nat → Nat → Int64} {Q : Option Value → zG → Prop} {o0 : Option Value} {o1 : Option Value} {o2 : Option Value} {l3 : Int32} {o4 : Option Value} {o5 : Option Value} {o6 : Option Value}   (k : E x F d 188 63 [o0, o1, o2, some (.int l3), o4, o5, o6] [.int l3] (V, T) Q) : E x F d 188 57 [o0, o1, o2, some (.int l3), o4, o5, o6] [] (V, T) Q := by
  refine e_iload_n zd188_57 rfl ?_
  exact e_goto zd188_58 (tg := 63) rfl k
theorem b188_61 {x : zXs} {F : zF} (hF : zSh F) {d : Nat} {V : Nat → Nat → Int32} {T : Nat → Nat → Int64} {Q : Option Value → zG → Prop} {o0 : Option Value} {o1 : Option Value} {o2 : Option Value} {o3 : Option Value} {l4 : Int32} {o5 : Option Value} {o6 : Option Value}   (k : E x F d 188 63 [o0, o1, o2, o3, some (.int l4), o5, o6] [.int l4] (V, T) Q) : E x F d 188 61 [o0, o1, o2, o3, some (.int l4), o5, o6] [] (V, T) Q := by
  refine e_iload zd188_61 rfl ?_
  exact k
theorem b188_63 {x : zXs} {F : zF} (hF : zSh F) {d : Nat} {V : Nat → Nat → Int32} {T : Nat → Nat → Int64} {Q : Option Value → zG → Prop} {o0 : Option Value} {o1 : Option Value} {o2 : Option Value} {o3 : Option Value} {o4 : Option Value} {o5 : Option Value} {o6 : Option Value} {s0 : Int32}   (k : Q (some (.int s0)) (V, T)) : E x F d 188 63 [o0, o1, o2, o3, o4, o5, o6] [.int s0] (V, T) Q := by
  exact e_ireti zd188_63 zs188 k
theorem zd189_0 : zop 189 0 = some (.aload_n 0, 1) := by decide +kernel
theorem zd189_1 : zop 189 1 = some (.iload_n 1, 1) := by decide +kernel
theorem zd189_2 : zop 189 2 = some (.invokevirtual 112, 3) := by decide +kernel
theorem zd189_5 : zop 189 5 = some (.ifCond .eq 13, 3) := by decide +kernel
theorem zd189_8 : zop 189 8 = some (.iload_n 2, 1) := by decide +kernel
theorem zd189_9 : zop 189 9 = some (.i2l, 1) := by decide +kernel
theorem zd189_10 : zop 189 10 = some (.lconst 0, 1) := by decide +kernel
theorem zd189_11 : zop 189 11 = some (.lconst 1, 1) := by decide +kernel
theorem zd189_12 : zop 189 12 = some (.invokestatic 91, 3) := by decide +kernel
theorem zd189_15 : zop 189 15 = some (.ifCond .ne 7, 3) := by decide +kernel
theorem zd189_18 : zop 189 18 = some (.sipush (-1000), 3) := by decide +kernel
theorem zd189_21 : zop 189 21 = some (.ireturn, 1) := by decide +kernel
theorem zd189_22 : zop 189 22 = some (.iconst (-1), 1) := by decide +kernel
theorem zd189_23 : zop 189 23 = some (.istore_n 3, 1) := by decide +kernel
theorem zd189_24 : zop 189 24 = some (.iconst 0, 1) := by decide +kernel
theorem zd189_25 : zop 189 25 = some (.istore 4, 2) := by decide +kernel
theorem zd189_27 : zop 189 27 = some (.iconst 0, 1) := by decide +kernel
theorem zd189_28 : zop 189 28 = some (.istore 5, 2) := by decide +kernel
theorem zd189_30 : zop 189 30 = some (.iload 5, 2) := by decide +kernel
theorem zd189_32 : zop 189 32 = some (.iconst 4, 1) := by decide +kernel
theorem zd189_33 : zop 189 33 = some (.if_icmp .ge 38, 3) := by decide +kernel
theorem zd189_36 : zop 189 36 = some (.aload_n 0, 1) := by decide +kernel
theorem zd189_37 : zop 189 37 = some (.iload_n 1, 1) := by decide +kernel
theorem zd189_38 : zop 189 38 = some (.iload 5, 2) := by decide +kernel
theorem zd189_40 : zop 189 40 = some (.iconst 0, 1) := by decide +kernel
theorem zd189_41 : zop 189 41 = some (.invokevirtual 303, 3) := by decide +kernel
theorem zd189_44 : zop 189 44 = some (.istore 6, 2) := by decide +kernel
theorem zd189_46 : zop 189 46 = some (.iload_n 3, 1) := by decide +kernel
theorem zd189_47 : zop 189 47 = some (.iconst (-1), 1) := by decide +kernel
theorem zd189_48 : zop 189 48 = some (.if_icmp .eq 10, 3) := by decide +kernel
theorem zd189_51 : zop 189 51 = some (.iload 6, 2) := by decide +kernel
theorem zd189_53 : zop 189 53 = some (.iload 4, 2) := by decide +kernel
theorem zd189_55 : zop 189 55 = some (.if_icmp .le 10, 3) := by decide +kernel
theorem zd189_58 : zop 189 58 = some (.iload 5, 2) := by decide +kernel
theorem zd189_60 : zop 189 60 = some (.istore_n 3, 1) := by decide +kernel
theorem zd189_61 : zop 189 61 = some (.iload 6, 2) := by decide +kernel
theorem zd189_63 : zop 189 63 = some (.istore 4, 2) := by decide +kernel
theorem zd189_65 : zop 189 65 = some (.iinc 5 1, 3) := by decide +kernel
theorem zd189_68 : zop 189 68 = some (.goto (-38), 3) := by decide +kernel
theorem zd189_71 : zop 189 71 = some (.iload_n 2, 1) := by decide +kernel
theorem zd189_72 : zop 189 72 = some (.ifCond .ne 7, 3) := by decide +kernel
theorem zd189_75 : zop 189 75 = some (.iload_n 3, 1) := by decide +kernel
theorem zd189_76 : zop 189 76 = some (.goto 5, 3) := by decide +kernel
theorem zd189_79 : zop 189 79 = some (.iload 4, 2) := by decide +kernel
theorem zd189_81 : zop 189 81 = some (.ireturn, 1) := by decide +kernel
theorem b189_0 {x : zXs} {F : zF} (hF : zSh F) {d : Nat} {V : Nat → Nat → Int32} {T : Nat → Nat → Int64} {Q : Option Value → zG → Prop} {l1 : Int32} {o2 : Option Value} {o3 : Option Value} {o4 : Option Value} {o5 : Option Value} {o6 : Option Value}   (k : E x F d 136 0 [some (.ref 59), some (.int l1)] [] (V, T) (fun r G' => E x F (d + 1) 189 5 [some (.ref 59), some (.int l1), o2, o3, o4, o5, o6] (r.toList ++ []) G' Q)) : E x F (d + 1) 189 0 [some (.ref 59), some (.int l1), o2, o3, o4, o5, o6] [] (V, T) Q := by
  refine e_aload_n zd189_0 rfl rfl ?_
  refine e_iload_n zd189_1 rfl ?_
  exact e_callV zd189_2 (own := 8) (nest := false) (w := 1025) (by decide +kernel) (by decide +kernel) zs136 (as := [.int l1]) (rest := []) rfl rfl (zsh_at hF rfl).1 (by omega) (Nat.le_of_ble_eq_true rfl) rfl rfl rfl (by omega) k
theorem b189_5 {x : zXs} {F : zF} (hF : zSh F) {d : Nat} {V : Nat → Nat → Int32} {T : Nat → Nat → Int64} {Q : Option Value → zG → Prop} {o0 : Option Value} {o1 : Option Value} {o2 : Option Value} {o3 : Option Value} {o4 : Option Value} {o5 : Option Value} {o6 : Option Value} {s0 : Int32}   (kt : s0 = 0 → E x F d 189 18 [o0, o1, o2, o3, o4, o5, o6] [] (V, T) Q) (kf : ¬ (s0 = 0) → E x F d 189 8 [o0, o1, o2, o3, o4, o5, o6] [] (V, T) Q) : E x F d 189 5 [o0, o1, o2, o3, o4, o5, o6] [.int s0] (V, T) Q := by
  exact e_if_eq zd189_5 (tg := 18) rfl kt kf
theorem b189_8 {x : zXs} {F : zF} (hF : zSh F) {d : Nat} {V : Nat → Nat → Int32} {T : Nat → Nat → Int64} {Q : Option Value → zG → Prop} {o0 : Option Value} {o1 : Option Value} {l2 : Int32} {o3 : Option Value} {o4 : Option Value} {o5 : Option Value} {o6 : Option Value}   (k : E x F d 132 0 [some (.long l2.toInt64), none, some (.long 0), none, some (.long 1), none] [] (V, T) (fun r G' => E x F (d + 1) 189 15 [o0, o1, some (.int l2), o3, o4, o5, o6] (r.toList ++ []) G' Q)) : E x F (d + 1) 189 8 [o0, o1, some (.int l2), o3, o4, o5, o6] [] (V, T) Q := by
  refine e_iload_n zd189_8 rfl ?_
  refine e_i2l zd189_9 ?_
  refine e_lconst zd189_10 (v := 0) rfl ?_
  refine e_lconst zd189_11 (v := 1) rfl ?_
  exact e_callS zd189_12 (own := 8) (nest := false) (w := 1009) (by decide +kernel) (by decide +kernel) zs132 (as := [.long l2.toInt64, .long 0, .long 1]) (rest := []) rfl rfl (Nat.le_of_ble_eq_true rfl) rfl rfl rfl (by omega) k
theorem b189_15 {x : zXs} {F : zF} (hF : zSh F) {d : Nat} {V : Nat → Nat → Int32} {T : Nat → Nat → Int64} {Q : Option Value → zG → Prop} {o0 : Option Value} {o1 : Option Value} {o2 : Option Value} {o3 : Option Value} {o4 : Option Value} {o5 : Option Value} {o6 : Option Value} {s0 : Int32}   (kt : ¬ s0 = 0 → E x F d 189 22 [o0, o1, o2, o3, o4, o5, o6] [] (V, T) Q) (kf : ¬ (¬ s0 = 0) → E x F d 189 18 [o0, o1, o2, o3, o4, o5, o6] [] (V, T) Q) : E x F d 189 15 [o0, o1, o2, o3, o4, o5, o6] [.int s0] (V, T) Q := by
  exact e_if_ne zd189_15 (tg := 22) rfl kt kf
theorem b189_18 {x : zXs} {F : zF} (hF : zSh F) {d : Nat} {V : Nat → Nat → Int32} {T : Nat → Nat → Int64} {Q : Option Value → zG → Prop} {o0 : Option Value} {o1 : Option Value} {o2 : Option Value} {o3 : Option Value} {o4 : Option Value} {o5 : Option Value} {o6 : Option Value}   (k : Q (some (.int (Int32.ofInt (-1000)))) (V, T)) : E x F d 189 18 [o0, o1, o2, o3, o4, o5, o6] [] (V, T) Q := by
  refine e_sipush zd189_18 (v := Int32.ofInt (-1000)) (by decide +kernel) ?_
  exact e_ireti zd189_21 zs189 k
theorem b189_22 {x : zXs} {F : zF} (hF : zSh F) {d : Nat} {V : Nat → Nat → Int32} {T : Nat → Nat → Int64} {Q : Option Value → zG → Prop} {o0 : Option Value} {o1 : Option Value} {o2 : Option Value} {o3 : Option Value} {o4 : Option Value} {o5 : Option Value} {o6 : Option Value}   (k : E x F d 189 30 [o0, o1, o2, some (.int (Int32.ofInt (-1))), some (.int (Int32.ofInt 0)), some (.int (Int32.ofInt 0)), o6] [] (V, T) Q) : E x F d 189 22 [o0, o1, o2, o3, o4, o5, o6] [] (V, T) Q := by
  refine e_iconst zd189_22 ?_
  refine e_istore_n zd189_23 (by decide +kernel) (Nat.le_of_ble_eq_true rfl) ?_
  refine e_iconst zd189_24 ?_
  refine e_istore zd189_25 (by decide +kernel) (Nat.le_of_ble_eq_true rfl) ?_
  refine e_iconst zd189_27 ?_
  refine e_istore zd189_28 (by decide +kernel) (Nat.le_of_ble_eq_true rfl) ?_
  exact k
theorem b189_30 {x : zXs} {F : zF} (hF : zSh F) {d : Nat} {V : Nat → Nat → Int32} {T : Nat → Nat → Int64} {Q : Option Value → zG → Prop} {o0 : Option Value} {o1 : Option Value} {o2 : Option Value} {o3 : Option Value} {o4 : Option Value} {l5 : Int32} {o6 : Option Value}   (kt : (Int32.ofInt 4) ≤ l5 → E x F d 189 71 [o0, o1, o2, o3, o4, some (.int l5), o6] [] (V, T) Q) (kf : ¬ ((Int32.ofInt 4) ≤ l5) → E x F d 189 36 [o0, o1, o2, o3, o4, some (.int l5), o6] [] (V, T) Q) : E x F d 189 30 [o0, o1, o2, o3, o4, some (.int l5), o6] [] (V, T) Q := by
  refine e_iload zd189_30 rfl ?_
  refine e_iconst zd189_32 ?_
  exact e_icmp_ge zd189_33 (tg := 71) rfl kt kf
theorem b189_36 {x : zXs} {F : zF} (hF : zSh F) {d : Nat} {V : Nat → Nat → Int32} {T : Nat → Nat → Int64} {Q : Option Value → zG → Prop} {l1 : Int32} {o2 : Option Value} {o3 : Option Value} {o4 : Option Value} {l5 : Int32} {o6 : Option Value}   (k : E x F d 179 0 [some (.ref 59), some (.int l1), some (.int l5), some (.int (Int32.ofInt 0)), none, none] [] (V, T) (fun r G' => E x F (d + 1) 189 44 [some (.ref 59), some (.int l1), o2, o3, o4, some (.int l5), o6] (r.toList ++ []) G' Q)) : E x F (d + 1) 189 36 [some (.ref 59), some (.int l1), o2, o3, o4, some (.int l5), o6] [] (V, T) Q := by
  refine e_aload_n zd189_36 rfl rfl ?_
  refine e_iload_n zd189_37 rfl ?_
  refine e_iload zd189_38 rfl ?_
  refine e_iconst zd189_40 ?_
  exact e_callV zd189_41 (own := 8) (nest := false) (w := 1206) (by decide +kernel) (by decide +kernel) zs179 (as := [.int l1, .int l5, .int (Int32.ofInt 0)]) (rest := []) rfl rfl (zsh_at hF rfl).1 (by omega) (Nat.le_of_ble_eq_true rfl) rfl rfl rfl (by omega) k
theorem b189_44 {x : zXs} {F : zF} (hF : zSh F) {d : Nat} {V : Nat → Nat → Int32} {T : Nat → Nat → Int64} {Q : Option Value → zG → Prop} {o0 : Option Value} {o1 : Option Value} {o2 : Option Value} {l3 : Int32} {o4 : Option Value} {o5 : Option Value} {o6 : Option Value} {s0 : Int32}   (kt : l3 = (Int32.ofInt (-1)) → E x F d 189 58 [o0, o1, o2, some (.int l3), o4, o5, some (.int s0)] [] (V, T) Q) (kf : ¬ (l3 = (Int32.ofInt (-1))) → E x F d 189 51 [o0, o1, o2, some (.int l3), o4, o5, some (.int s0)] [] (V, T) Q) : E x F d 189 44 [o0, o1, o2, some (.int l3), o4, o5, o6] [.int s0] (V, T) Q := by
  refine e_istore zd189_44 (by decide +kernel) (Nat.le_of_ble_eq_true rfl) ?_
  refine e_iload_n zd189_46 rfl ?_
  refine e_iconst zd189_47 ?_
  exact e_icmp_eq zd189_48 (tg := 58) rfl kt kf
theorem b189_51 {x : zXs} {F : zF} (hF : zSh F) {d : Nat} {V : Nat → Nat → Int32} {T : Nat → Nat → Int64} {Q : Option Value → zG → Prop} {o0 : Option Value} {o1 : Option Value} {o2 : Option Value} {o3 : Option Value} {l4 : Int32} {o5 : Option Value} {l6 : Int32}   (kt : l6 ≤ l4 → E x F d 189 65 [o0, o1, o2, o3, some (.int l4), o5, some (.int l6)] [] (V, T) Q) (kf : ¬ (l6 ≤ l4) → E x F d 189 58 [o0, o1, o2, o3, some (.int l4), o5, some (.int l6)] [] (V, T) Q) : E x F d 189 51 [o0, o1, o2, o3, some (.int l4), o5, some (.int l6)] [] (V, T) Q := by
  refine e_iload zd189_51 rfl ?_
  refine e_iload zd189_53 rfl ?_
  exact e_icmp_le zd189_55 (tg := 65) rfl kt kf
theorem b189_58 {x : zXs} {F : zF} (hF : zSh F) {d : Nat} {V : Nat → Nat → Int32} {T : Nat → Nat → Int64} {Q : Option Value → zG → Prop} {o0 : Option Value} {o1 : Option Value} {o2 : Option Value} {o3 : Option Value} {o4 : Option Value} {l5 : Int32} {l6 : Int32}   (k : E x F d 189 65 [o0, o1, o2, some (.int l5), some (.int l6), some (.int l5), some (.int l6)] [] (V, T) Q) : E x F d 189 58 [o0, o1, o2, o3, o4, some (.int l5), some (.int l6)] [] (V, T) Q := by
  refine e_iload zd189_58 rfl ?_
  refine e_istore_n zd189_60 (by decide +kernel) (Nat.le_of_ble_eq_true rfl) ?_
  refine e_iload zd189_61 rfl ?_
  refine e_istore zd189_63 (by decide +kernel) (Nat.le_of_ble_eq_true rfl) ?_
  exact k
theorem b189_65 {x : zXs} {F : zF} (hF : zSh F) {d : Nat} {V : Nat → Nat → Int32} {T : Nat → Nat → Int64} {Q : Option Value → zG → Prop} {o0 : Option Value} {o1 : Option Value} {o2 : Option Value} {o3 : Option Value} {o4 : Option Value} {l5 : Int32} {o6 : Option Value}   (k : E x F d 189 30 [o0, o1, o2, o3, o4, some (.int (l5 + Int32.ofInt 1)), o6] [] (V, T) Q) : E x F d 189 65 [o0, o1, o2, o3, o4, some (.int l5), o6] [] (V, T) Q := by
  refine e_iinc zd189_65 rfl (by decide +kernel) ?_
  exact e_goto zd189_68 (tg := 30) rfl k
theorem b189_71 {x : zXs} {F : zF} (hF : zSh F) {d : Nat} {V : Nat → Nat → Int32} {T : Nat → Nat → Int64} {Q : Option Value → zG → Prop} {o0 : Option Value} {o1 : Option Value} {l2 : Int32} {o3 : Option Value} {o4 : Option Value} {o5 : Option Value} {o6 : Option Value}   (kt : ¬ l2 = 0 → E x F d 189 79 [o0, o1, some (.int l2), o3, o4, o5, o6] [] (V, T) Q) (kf : ¬ (¬ l2 = 0) → E x F d 189 75 [o0, o1, some (.int l2), o3, o4, o5, o6] [] (V, T) Q) : E x F d 189 71 [o0, o1, some (.int l2), o3, o4, o5, o6] [] (V, T) Q := by
  refine e_iload_n zd189_71 rfl ?_
  exact e_if_ne zd189_72 (tg := 79) rfl kt kf
theorem b189_75 {x : zXs} {F : zF} (hF : zSh F) {d : Nat} {V : Nat → Nat → Int32} {T : Nat → Nat → Int64} {Q : Option Value → zG → Prop} {o0 : Option Value} {o1 : Option Value} {o2 : Option Value} {l3 : Int32} {o4 : Option Value} {o5 : Option Value} {o6 : Option Value}   (k : E x F d 189 81 [o0, o1, o2, some (.int l3), o4, o5, o6] [.int l3] (V, T) Q) : E x F d 189 75 [o0, o1, o2, some (.int l3), o4, o5, o6] [] (V, T) Q := by
  refine e_iload_n zd189_75 rfl ?_
  exact e_goto zd189_76 (tg := 81) rfl k
theorem b189_79 {x : zXs} {F : zF} (hF : zSh F) {d : Nat} {V : Nat → Nat → Int32} {T : Nat → Nat → Int64} {Q : Option Value → zG → Prop} {o0 : Option Value} {o1 : Option Value} {o2 : Option Value} {o3 : Option Value} {l4 : Int32} {o5 : Option Value} {o6 : Option Value}   (k : E x F d 189 81 [o0, o1, o2, o3, some (.int l4), o5, o6] [.int l4] (V, T) Q) : E x F d 189 79 [o0, o1, o2, o3, some (.int l4), o5, o6] [] (V, T) Q := by
  refine e_iload zd189_79 rfl ?_
  exact k
theorem b189_81 {x : zXs} {F : zF} (hF : zSh F) {d : Nat} {V : Nat → Nat → Int32} {T : Nat → Nat → Int64} {Q : Option Value → zG → Prop} {o0 : Option Value} {o1 : Option Value} {o2 : Option Value} {o3 : Option Value} {o4 : Option Value} {o5 : Option Value} {o6 : Option Value} {s0 : Int32}   (k : Q (some (.int s0)) (V, T)) : E x F d 189 81 [o0, o1, o2, o3, o4, o5, o6] [.int s0] (V, T) Q := by
  exact e_ireti zd189_81 zs189 k
theorem zd190_0 : zop 190 0 = some (.iconst (-1), 1) := by decide +kernel
theorem zd190_1 : zop 190 1 = some (.istore_n 1, 1) := by decide +kernel
theorem zd190_2 : zop 190 2 = some (.iconst 0, 1) := by decide +kernel
theorem zd190_3 : zop 190 3 = some (.istore_n 2, 1) := by decide +kernel
theorem zd190_4 : zop 190 4 = some (.iconst 0, 1) := by decide +kernel
theorem zd190_5 : zop 190 5 = some (.istore_n 3, 1) := by decide +kernel
theorem zd190_6 : zop 190 6 = some (.iload_n 3, 1) := by decide +kernel
theorem zd190_7 : zop 190 7 = some (.iconst 4, 1) := by decide +kernel
theorem zd190_8 : zop 190 8 = some (.if_icmp .ge 59, 3) := by decide +kernel
theorem zd190_11 : zop 190 11 = some (.aload_n 0, 1) := by decide +kernel
theorem zd190_12 : zop 190 12 = some (.iload_n 3, 1) := by decide +kernel
theorem zd190_13 : zop 190 13 = some (.invokevirtual 141, 3) := by decide +kernel
theorem zd190_16 : zop 190 16 = some (.istore 4, 2) := by decide +kernel
theorem zd190_18 : zop 190 18 = some (.iconst 0, 1) := by decide +kernel
theorem zd190_19 : zop 190 19 = some (.istore 5, 2) := by decide +kernel
theorem zd190_21 : zop 190 21 = some (.iload 5, 2) := by decide +kernel
theorem zd190_23 : zop 190 23 = some (.iload 4, 2) := by decide +kernel
theorem zd190_25 : zop 190 25 = some (.if_icmp .ge 36, 3) := by decide +kernel
theorem zd190_28 : zop 190 28 = some (.aload_n 0, 1) := by decide +kernel
theorem zd190_29 : zop 190 29 = some (.getfield 38, 3) := by decide +kernel
theorem zd190_32 : zop 190 32 = some (.iload 5, 2) := by decide +kernel
theorem zd190_34 : zop 190 34 = some (.iaload, 1) := by decide +kernel
theorem zd190_35 : zop 190 35 = some (.iload_n 2, 1) := by decide +kernel
theorem zd190_36 : zop 190 36 = some (.if_icmp .le 19, 3) := by decide +kernel
theorem zd190_39 : zop 190 39 = some (.bipush 100, 2) := by decide +kernel
theorem zd190_41 : zop 190 41 = some (.iload_n 3, 1) := by decide +kernel
theorem zd190_42 : zop 190 42 = some (.imul, 1) := by decide +kernel
theorem zd190_43 : zop 190 43 = some (.iload 5, 2) := by decide +kernel
theorem zd190_45 : zop 190 45 = some (.iadd, 1) := by decide +kernel
theorem zd190_46 : zop 190 46 = some (.istore_n 1, 1) := by decide +kernel
theorem zd190_47 : zop 190 47 = some (.aload_n 0, 1) := by decide +kernel
theorem zd190_48 : zop 190 48 = some (.getfield 38, 3) := by decide +kernel
theorem zd190_51 : zop 190 51 = some (.iload 5, 2) := by decide +kernel
theorem zd190_53 : zop 190 53 = some (.iaload, 1) := by decide +kernel
theorem zd190_54 : zop 190 54 = some (.istore_n 2, 1) := by decide +kernel
theorem zd190_55 : zop 190 55 = some (.iinc 5 1, 3) := by decide +kernel
theorem zd190_58 : zop 190 58 = some (.goto (-37), 3) := by decide +kernel
theorem zd190_61 : zop 190 61 = some (.iinc 3 1, 3) := by decide +kernel
theorem zd190_64 : zop 190 64 = some (.goto (-58), 3) := by decide +kernel
theorem zd190_67 : zop 190 67 = some (.iload_n 1, 1) := by decide +kernel
theorem zd190_68 : zop 190 68 = some (.ireturn, 1) := by decide +kernel
theorem b190_0 {x : zXs} {F : zF} (hF : zSh F) {d : Nat} {V : Nat → Nat → Int32} {T : Nat → Nat → Int64} {Q : Option Value → zG → Prop} {o0 : Option Value} {o1 : Option Value} {o2 : Option Value} {o3 : Option Value} {o4 : Option Value} {o5 : Option Value}   (k : E x F d 190 6 [o0, some (.int (Int32.ofInt (-1))), some (.int (Int32.ofInt 0)), some (.int (Int32.ofInt 0)), o4, o5] [] (V, T) Q) : E x F d 190 0 [o0, o1, o2, o3, o4, o5] [] (V, T) Q := by
  refine e_iconst zd190_0 ?_
  refine e_istore_n zd190_1 (by decide +kernel) (Nat.le_of_ble_eq_true rfl) ?_
  refine e_iconst zd190_2 ?_
  refine e_istore_n zd190_3 (by decide +kernel) (Nat.le_of_ble_eq_true rfl) ?_
  refine e_iconst zd190_4 ?_
  refine e_istore_n zd190_5 (by decide +kernel) (Nat.le_of_ble_eq_true rfl) ?_
  exact k
theorem b190_6 {x : zXs} {F : zF} (hF : zSh F) {d : Nat} {V : Nat → Nat → Int32} {T : Nat → Nat → Int64} {Q : Option Value → zG → Prop} {o0 : Option Value} {o1 : Option Value} {o2 : Option Value} {l3 : Int32} {o4 : Option Value} {o5 : Option Value}   (kt : (Int32.ofInt 4) ≤ l3 → E x F d 190 67 [o0, o1, o2, some (.int l3), o4, o5] [] (V, T) Q) (kf : ¬ ((Int32.ofInt 4) ≤ l3) → E x F d 190 11 [o0, o1, o2, some (.int l3), o4, o5] [] (V, T) Q) : E x F d 190 6 [o0, o1, o2, some (.int l3), o4, o5] [] (V, T) Q := by
  refine e_iload_n zd190_6 rfl ?_
  refine e_iconst zd190_7 ?_
  exact e_icmp_ge zd190_8 (tg := 67) rfl kt kf
theorem b190_11 {x : zXs} {F : zF} (hF : zSh F) {d : Nat} {V : Nat → Nat → Int32} {T : Nat → Nat → Int64} {Q : Option Value → zG → Prop} {o1 : Option Value} {o2 : Option Value} {l3 : Int32} {o4 : Option Value} {o5 : Option Value}   (k : E x F d 158 0 [some (.ref 59), some (.int l3), none, none] [] (V, T) (fun r G' => E x F (d + 1) 190 16 [some (.ref 59), o1, o2, some (.int l3), o4, o5] (r.toList ++ []) G' Q)) : E x F (d + 1) 190 11 [some (.ref 59), o1, o2, some (.int l3), o4, o5] [] (V, T) Q := by
  refine e_aload_n zd190_11 rfl rfl ?_
  refine e_iload_n zd190_12 rfl ?_
  exact e_callV zd190_13 (own := 8) (nest := false) (w := 1118) (by decide +kernel) (by decide +kernel) zs158 (as := [.int l3]) (rest := []) rfl rfl (zsh_at hF rfl).1 (by omega) (Nat.le_of_ble_eq_true rfl) rfl rfl rfl (by omega) k
theorem b190_16 {x : zXs} {F : zF} (hF : zSh F) {d : Nat} {V : Nat → Nat → Int32} {T : Nat → Nat → Int64} {Q : Option Value → zG → Prop} {o0 : Option Value} {o1 : Option Value} {o2 : Option Value} {o3 : Option Value} {o4 : Option Value} {o5 : Option Value} {s0 : Int32}   (k : E x F d 190 21 [o0, o1, o2, o3, some (.int s0), some (.int (Int32.ofInt 0))] [] (V, T) Q) : E x F d 190 16 [o0, o1, o2, o3, o4, o5] [.int s0] (V, T) Q := by
  refine e_istore zd190_16 (by decide +kernel) (Nat.le_of_ble_eq_true rfl) ?_
  refine e_iconst zd190_18 ?_
  refine e_istore zd190_19 (by decide +kernel) (Nat.le_of_ble_eq_true rfl) ?_
  exact k
theorem b190_21 {x : zXs} {F : zF} (hF : zSh F) {d : Nat} {V : Nat → Nat → Int32} {T : Nat → Nat → Int64} {Q : Option Value → zG → Prop} {o0 : Option Value} {o1 : Option Value} {o2 : Option Value} {o3 : Option Value} {l4 : Int32} {l5 : Int32}   (kt : l4 ≤ l5 → E x F d 190 61 [o0, o1, o2, o3, some (.int l4), some (.int l5)] [] (V, T) Q) (kf : ¬ (l4 ≤ l5) → E x F d 190 28 [o0, o1, o2, o3, some (.int l4), some (.int l5)] [] (V, T) Q) : E x F d 190 21 [o0, o1, o2, o3, some (.int l4), some (.int l5)] [] (V, T) Q := by
  refine e_iload zd190_21 rfl ?_
  refine e_iload zd190_23 rfl ?_
  exact e_icmp_ge zd190_25 (tg := 61) rfl kt kf
theorem b190_28 {x : zXs} {F : zF} (hF : zSh F) {d : Nat} {V : Nat → Nat → Int32} {T : Nat → Nat → Int64} {Q : Option Value → zG → Prop} {o1 : Option Value} {l2 : Int32} {o3 : Option Value} {o4 : Option Value} {l5 : Int32}  {i1 : Nat} (e1 : l5 = nI i1) (h1 : i1 < 24) (kt : (V 68 i1) ≤ l2 → E x F d 190 55 [some (.ref 59), o1, some (.int l2), o3, o4, some (.int l5)] [] (V, T) Q) (kf : ¬ ((V 68 i1) ≤ l2) → E x F d 190 39 [some (.ref 59), o1, some (.int l2), o3, o4, some (.int l5)] [] (V, T) Q) : E x F d 190 28 [some (.ref 59), o1, some (.int l2), o3, o4, some (.int l5)] [] (V, T) Q := by
  refine e_aload_n zd190_28 rfl rfl ?_
  refine e_getA zd190_29 (own := 8) (ci := 8) (kf := 29) (w := 887) (by decide +kernel) (by decide +kernel) (zsh_at hF rfl).1 (by decide +kernel) rfl (zrf_at hF (i := 67) rfl) ?_
  refine e_iload zd190_32 rfl ?_
  refine e_iald zd190_34 (i := i1) (zsh_at hF rfl) e1 h1 (by omega) ?_
  refine e_iload_n zd190_35 rfl ?_
  exact e_icmp_le zd190_36 (tg := 55) rfl kt kf
theorem b190_39 {x : zXs} {F : zF} (hF : zSh F) {d : Nat} {V : Nat → Nat → Int32} {T : Nat → Nat → Int64} {Q : Option Value → zG → Prop} {o1 : Option Value} {o2 : Option Value} {l3 : Int32} {o4 : Option Value} {l5 : Int32}  {i1 : Nat} (e1 : l5 = nI i1) (h1 : i1 < 24) (k : E x F d 190 55 [some (.ref 59), some (.int (((Int32.ofInt 100) * l3) + l5)), some (.int (V 68 i1)), some (.int l3), o4, some (.int l5)] [] (V, T) Q) : E x F d 190 39 [some (.ref 59), o1, o2, some (.int l3), o4, some (.int l5)] [] (V, T) Q := by
  refine e_bipush zd190_39 (v := Int32.ofInt 100) (by decide +kernel) ?_
  refine e_iload_n zd190_41 rfl ?_
  refine e_imul zd190_42 ?_
  refine e_iload zd190_43 rfl ?_
  refine e_iadd zd190_45 ?_
  refine e_istore_n zd190_46 (by decide +kernel) (Nat.le_of_ble_eq_true rfl) ?_
  refine e_aload_n zd190_47 rfl rfl ?_
  refine e_getA zd190_48 (own := 8) (ci := 8) (kf := 29) (w := 887) (by decide +kernel) (by decide +kernel) (zsh_at hF rfl).1 (by decide +kernel) rfl (zrf_at hF (i := 67) rfl) ?_
  refine e_iload zd190_51 rfl ?_
  refine e_iald zd190_53 (i := i1) (zsh_at hF rfl) e1 h1 (by omega) ?_
  refine e_istore_n zd190_54 (by decide +kernel) (Nat.le_of_ble_eq_true rfl) ?_
  exact k
theorem b190_55 {x : zXs} {F : zF} (hF : zSh F) {d : Nat} {V : Nat → Nat → Int32} {T : Nat → Nat → Int64} {Q : Option Value → zG → Prop} {o0 : Option Value} {o1 : Option Value} {o2 : Option Value} {o3 : Option Value} {o4 : Option Value} {l5 : Int32}   (k : E x F d 190 21 [o0, o1, o2, o3, o4, some (.int (l5 + Int32.ofInt 1))] [] (V, T) Q) : E x F d 190 55 [o0, o1, o2, o3, o4, some (.int l5)] [] (V, T) Q := by
  refine e_iinc zd190_55 rfl (by decide +kernel) ?_
  exact e_goto zd190_58 (tg := 21) rfl k
theorem b190_61 {x : zXs} {F : zF} (hF : zSh F) {d : Nat} {V : Nat → Nat → Int32} {T : Nat → Nat → Int64} {Q : Option Value → zG → Prop} {o0 : Option Value} {o1 : Option Value} {o2 : Option Value} {l3 : Int32} {o4 : Option Value} {o5 : Option Value}   (k : E x F d 190 6 [o0, o1, o2, some (.int (l3 + Int32.ofInt 1)), o4, o5] [] (V, T) Q) : E x F d 190 61 [o0, o1, o2, some (.int l3), o4, o5] [] (V, T) Q := by
  refine e_iinc zd190_61 rfl (by decide +kernel) ?_
  exact e_goto zd190_64 (tg := 6) rfl k
theorem b190_67 {x : zXs} {F : zF} (hF : zSh F) {d : Nat} {V : Nat → Nat → Int32} {T : Nat → Nat → Int64} {Q : Option Value → zG → Prop} {o0 : Option Value} {l1 : Int32} {o2 : Option Value} {o3 : Option Value} {o4 : Option Value} {o5 : Option Value}   (k : Q (some (.int l1)) (V, T)) : E x F d 190 67 [o0, some (.int l1), o2, o3, o4, o5] [] (V, T) Q := by
  refine e_iload_n zd190_67 rfl ?_
  exact e_ireti zd190_68 zs190 k
theorem zd191_0 : zop 191 0 = some (.aload_n 0, 1) := by decide +kernel
theorem zd191_1 : zop 191 1 = some (.getfield 26, 3) := by decide +kernel
theorem zd191_4 : zop 191 4 = some (.iconst 0, 1) := by decide +kernel
theorem zd191_5 : zop 191 5 = some (.iaload, 1) := by decide +kernel
theorem zd191_6 : zop 191 6 = some (.aload_n 0, 1) := by decide +kernel
theorem zd191_7 : zop 191 7 = some (.getfield 26, 3) := by decide +kernel
theorem zd191_10 : zop 191 10 = some (.iconst 1, 1) := by decide +kernel
theorem zd191_11 : zop 191 11 = some (.iaload, 1) := by decide +kernel
theorem zd191_12 : zop 191 12 = some (.iadd, 1) := by decide +kernel
theorem zd191_13 : zop 191 13 = some (.aload_n 0, 1) := by decide +kernel
theorem zd191_14 : zop 191 14 = some (.getfield 26, 3) := by decide +kernel
theorem zd191_17 : zop 191 17 = some (.iconst 2, 1) := by decide +kernel
theorem zd191_18 : zop 191 18 = some (.iaload, 1) := by decide +kernel
theorem zd191_19 : zop 191 19 = some (.iadd, 1) := by decide +kernel
theorem zd191_20 : zop 191 20 = some (.aload_n 0, 1) := by decide +kernel
theorem zd191_21 : zop 191 21 = some (.getfield 26, 3) := by decide +kernel
theorem zd191_24 : zop 191 24 = some (.iconst 3, 1) := by decide +kernel
theorem zd191_25 : zop 191 25 = some (.iaload, 1) := by decide +kernel
theorem zd191_26 : zop 191 26 = some (.iadd, 1) := by decide +kernel
theorem zd191_27 : zop 191 27 = some (.istore_n 2, 1) := by decide +kernel
theorem zd191_28 : zop 191 28 = some (.iload_n 1, 1) := by decide +kernel
theorem zd191_29 : zop 191 29 = some (.i2l, 1) := by decide +kernel
theorem zd191_30 : zop 191 30 = some (.lconst 0, 1) := by decide +kernel
theorem zd191_31 : zop 191 31 = some (.lconst 1, 1) := by decide +kernel
theorem zd191_32 : zop 191 32 = some (.invokestatic 91, 3) := by decide +kernel
theorem zd191_35 : zop 191 35 = some (.ifCond .eq 23, 3) := by decide +kernel
theorem zd191_38 : zop 191 38 = some (.iload_n 2, 1) := by decide +kernel
theorem zd191_39 : zop 191 39 = some (.ifCond .le 19, 3) := by decide +kernel
theorem zd191_42 : zop 191 42 = some (.iload_n 2, 1) := by decide +kernel
theorem zd191_43 : zop 191 43 = some (.aload_n 0, 1) := by decide +kernel
theorem zd191_44 : zop 191 44 = some (.invokevirtual 294, 3) := by decide +kernel
theorem zd191_47 : zop 191 47 = some (.isub, 1) := by decide +kernel
theorem zd191_48 : zop 191 48 = some (.i2l, 1) := by decide +kernel
theorem zd191_49 : zop 191 49 = some (.iload_n 2, 1) := by decide +kernel
theorem zd191_50 : zop 191 50 = some (.i2l, 1) := by decide +kernel
theorem zd191_51 : zop 191 51 = some (.iload_n 1, 1) := by decide +kernel
theorem zd191_52 : zop 191 52 = some (.invokestatic 330, 3) := by decide +kernel
theorem zd191_55 : zop 191 55 = some (.goto 6, 3) := by decide +kernel
theorem zd191_58 : zop 191 58 = some (.ldc2_w 334, 3) := by decide +kernel
theorem zd191_61 : zop 191 61 = some (.lreturn, 1) := by decide +kernel
theorem b191_0 {x : zXs} {F : zF} (hF : zSh F) {d : Nat} {V : Nat → Nat → Int32} {T : Nat → Nat → Int64} {Q : Option Value → zG → Prop} {l1 : Int32} {o2 : Option Value}   (k : E x F d 132 0 [some (.long l1.toInt64), none, some (.long 0), none, some (.long 1), none] [] (V, T) (fun r G' => E x F (d + 1) 191 35 [some (.ref 59), some (.int l1), some (.int ((((V 64 0) + (V 64 1)) + (V 64 2)) + (V 64 3)))] (r.toList ++ []) G' Q)) : E x F (d + 1) 191 0 [some (.ref 59), some (.int l1), o2] [] (V, T) Q := by
  refine e_aload_n zd191_0 rfl rfl ?_
  refine e_getA zd191_1 (own := 8) (ci := 8) (kf := 9) (w := 867) (by decide +kernel) (by decide +kernel) (zsh_at hF rfl).1 (by decide +kernel) rfl (zrf_at hF (i := 63) rfl) ?_
  refine e_iconst zd191_4 ?_
  refine e_iald zd191_5 (i := 0) (zsh_at hF rfl) rfl (by omega) (by omega) ?_
  refine e_aload_n zd191_6 rfl rfl ?_
  refine e_getA zd191_7 (own := 8) (ci := 8) (kf := 9) (w := 867) (by decide +kernel) (by decide +kernel) (zsh_at hF rfl).1 (by decide +kernel) rfl (zrf_at hF (i := 63) rfl) ?_
  refine e_iconst zd191_10 ?_
  refine e_iald zd191_11 (i := 1) (zsh_at hF rfl) rfl (by omega) (by omega) ?_
  refine e_iadd zd191_12 ?_
  refine e_aload_n zd191_13 rfl rfl ?_
  refine e_getA zd191_14 (own := 8) (ci := 8) (kf := 9) (w := 867) (by decide +kernel) (by decide +kernel) (zsh_at hF rfl).1 (by decide +kernel) rfl (zrf_at hF (i := 63) rfl) ?_
  refine e_iconst zd191_17 ?_
  refine e_iald zd191_18 (i := 2) (zsh_at hF rfl) rfl (by omega) (by omega) ?_
  refine e_iadd zd191_19 ?_
  refine e_aload_n zd191_20 rfl rfl ?_
  refine e_getA zd191_21 (own := 8) (ci := 8) (kf := 9) (w := 867) (by decide +kernel) (by decide +kernel) (zsh_at hF rfl).1 (by decide +kernel) rfl (zrf_at hF (i := 63) rfl) ?_
  refine e_iconst zd191_24 ?_
  refine e_iald zd191_25 (i := 3) (zsh_at hF rfl) rfl (by omega) (by omega) ?_
  refine e_iadd zd191_26 ?_
  refine e_istore_n zd191_27 (by decide +kernel) (Nat.le_of_ble_eq_true rfl) ?_
  refine e_iload_n zd191_28 rfl ?_
  refine e_i2l zd191_29 ?_
  refine e_lconst zd191_30 (v := 0) rfl ?_
  refine e_lconst zd191_31 (v := 1) rfl ?_
  exact e_callS zd191_32 (own := 8) (nest := false) (w := 1009) (by decide +kernel) (by decide +kernel) zs132 (as := [.long l1.toInt64, .long 0, .long 1]) (rest := []) rfl rfl (Nat.le_of_ble_eq_true rfl) rfl rfl rfl (by omega) k
theorem b191_35 {x : zXs} {F : zF} (hF : zSh F) {d : Nat} {V : Nat → Nat → Int32} {T : Nat → Nat → Int64} {Q : Option Value → zG → Prop} {o0 : Option Value} {o1 : Option Value} {o2 : Option Value} {s0 : Int32}   (kt : s0 = 0 → E x F d 191 58 [o0, o1, o2] [] (V, T) Q) (kf : ¬ (s0 = 0) → E x F d 191 38 [o0, o1, o2] [] (V, T) Q) : E x F d 191 35 [o0, o1, o2] [.int s0] (V, T) Q := by
  exact e_if_eq zd191_35 (tg := 58) rfl kt kf
theorem b191_38 {x : zXs} {F : zF} (hF : zSh F) {d : Nat} {V : Nat → Nat → Int32} {T : Nat → Nat → Int64} {Q : Option Value → zG → Prop} {o0 : Option Value} {o1 : Option Value} {l2 : Int32}   (kt : l2 ≤ 0 → E x F d 191 58 [o0, o1, some (.int l2)] [] (V, T) Q) (kf : ¬ (l2 ≤ 0) → E x F d 191 42 [o0, o1, some (.int l2)] [] (V, T) Q) : E x F d 191 38 [o0, o1, some (.int l2)] [] (V, T) Q := by
  refine e_iload_n zd191_38 rfl ?_
  exact e_if_le zd191_39 (tg := 58) rfl kt kf
theorem b191_42 {x : zXs} {F : zF} (hF : zSh F) {d : Nat} {V : Nat → Nat → Int32} {T : Nat → Nat → Int64} {Q : Option Value → zG → Prop} {o1 : Option Value} {l2 : Int32}   (k : E x F d 177 0 [some (.ref 59)] [] (V, T) (fun r G' => E x F (d + 1) 191 47 [some (.ref 59), o1, some (.int l2)] (r.toList ++ [.int l2]) G' Q)) : E x F (d + 1) 191 42 [some (.ref 59), o1, some (.int l2)] [] (V, T) Q := by
  refine e_iload_n zd191_42 rfl ?_
  refine e_aload_n zd191_43 rfl rfl ?_
  exact e_callV zd191_44 (own := 8) (nest := false) (w := 1198) (by decide +kernel) (by decide +kernel) zs177 (as := []) (rest := [.int l2]) rfl rfl (zsh_at hF rfl).1 (by omega) (Nat.le_of_ble_eq_true rfl) rfl rfl rfl (by omega) k
theorem b191_47 {x : zXs} {F : zF} (hF : zSh F) {d : Nat} {V : Nat → Nat → Int32} {T : Nat → Nat → Int64} {Q : Option Value → zG → Prop} {o0 : Option Value} {l1 : Int32} {l2 : Int32} {s0 : Int32} {s1 : Int32}   (k : E x F d 192 0 [some (.long ((s0 - s1).toInt64)), none, some (.long l2.toInt64), none, some (.int l1), none, none, none, none, none, none] [] (V, T) (fun r G' => E x F (d + 1) 191 55 [o0, some (.int l1), some (.int l2)] (r.toList ++ []) G' Q)) : E x F (d + 1) 191 47 [o0, some (.int l1), some (.int l2)] [.int s1, .int s0] (V, T) Q := by
  refine e_isub zd191_47 ?_
  refine e_i2l zd191_48 ?_
  refine e_iload_n zd191_49 rfl ?_
  refine e_i2l zd191_50 ?_
  refine e_iload_n zd191_51 rfl ?_
  exact e_callS zd191_52 (own := 8) (nest := false) (w := 1260) (by decide +kernel) (by decide +kernel) zs192 (as := [.long ((s0 - s1).toInt64), .long l2.toInt64, .int l1]) (rest := []) rfl rfl (Nat.le_of_ble_eq_true rfl) rfl rfl rfl (by omega) k
theorem b191_55 {x : zXs} {F : zF} (hF : zSh F) {d : Nat} {V : Nat → Nat → Int32} {T : Nat → Nat → Int64} {Q : Option Value → zG → Prop} {o0 : Option Value} {o1 : Option Value} {o2 : Option Value} {s0 : Int64}   (k : E x F d 191 61 [o0, o1, o2] [.long s0] (V, T) Q) : E x F d 191 55 [o0, o1, o2] [.long s0] (V, T) Q := by
  exact e_goto zd191_55 (tg := 61) rfl k
theorem b191_58 {x : zXs} {F : zF} (hF : zSh F) {d : Nat} {V : Nat → Nat → Int32} {T : Nat → Nat → Int64} {Q : Option Value → zG → Prop} {o0 : Option Value} {o1 : Option Value} {o2 : Option Value}   (k : E x F d 191 61 [o0, o1, o2] [.long (-4611686018427387904 : Int64)] (V, T) Q) : E x F d 191 58 [o0, o1, o2] [] (V, T) Q := by
  refine e_ldc2 zd191_58 (own := 8) (w := 1263) (v := (-4611686018427387904)) (by decide +kernel) (by decide +kernel) ?_
  exact k
theorem b191_61 {x : zXs} {F : zF} (hF : zSh F) {d : Nat} {V : Nat → Nat → Int32} {T : Nat → Nat → Int64} {Q : Option Value → zG → Prop} {o0 : Option Value} {o1 : Option Value} {o2 : Option Value} {s0 : Int64}   (k : Q (some (.long s0)) (V, T)) : E x F d 191 61 [o0, o1, o2] [.long s0] (V, T) Q := by
  exact e_lret zd191_61 zs191 k
theorem zd192_0 : zop 192 0 = some (.lload_n 0, 1) := by decide +kernel
theorem zd192_1 : zop 192 1 = some (.lstore 5, 2) := by decide +kernel
theorem zd192_3 : zop 192 3 = some (.lload_n 2, 1) := by decide +kernel
theorem zd192_4 : zop 192 4 = some (.lstore 7, 2) := by decide +kernel
theorem zd192_6 : zop 192 6 = some (.lload 7, 2) := by decide +kernel
theorem zd192_8 : zop 192 8 = some (.lconst 0, 1) := by decide +kernel
theorem zd192_9 : zop 192 9 = some (.lcmp, 1) := by decide +kernel
theorem zd192_10 : zop 192 10 = some (.ifCond .eq 21, 3) := by decide +kernel
theorem zd192_13 : zop 192 13 = some (.lload 5, 2) := by decide +kernel
theorem zd192_15 : zop 192 15 = some (.lload 7, 2) := by decide +kernel
theorem zd192_17 : zop 192 17 = some (.lrem, 1) := by decide +kernel
theorem zd192_18 : zop 192 18 = some (.lstore 9, 2) := by decide +kernel
theorem zd192_20 : zop 192 20 = some (.lload 7, 2) := by decide +kernel
theorem zd192_22 : zop 192 22 = some (.lstore 5, 2) := by decide +kernel
theorem zd192_24 : zop 192 24 = some (.lload 9, 2) := by decide +kernel
theorem zd192_26 : zop 192 26 = some (.lstore 7, 2) := by decide +kernel
theorem zd192_28 : zop 192 28 = some (.goto (-22), 3) := by decide +kernel
theorem zd192_31 : zop 192 31 = some (.iload 4, 2) := by decide +kernel
theorem zd192_33 : zop 192 33 = some (.ifCond .ne 10, 3) := by decide +kernel
theorem zd192_36 : zop 192 36 = some (.lload_n 0, 1) := by decide +kernel
theorem zd192_37 : zop 192 37 = some (.lload 5, 2) := by decide +kernel
theorem zd192_39 : zop 192 39 = some (.ldiv, 1) := by decide +kernel
theorem zd192_40 : zop 192 40 = some (.goto 7, 3) := by decide +kernel
theorem zd192_43 : zop 192 43 = some (.lload_n 2, 1) := by decide +kernel
theorem zd192_44 : zop 192 44 = some (.lload 5, 2) := by decide +kernel
theorem zd192_46 : zop 192 46 = some (.ldiv, 1) := by decide +kernel
theorem zd192_47 : zop 192 47 = some (.lreturn, 1) := by decide +kernel
theorem b192_0 {x : zXs} {F : zF} (hF : zSh F) {d : Nat} {V : Nat → Nat → Int32} {T : Nat → Nat → Int64} {Q : Option Value → zG → Prop} {l0 : Int64} {o1 : Option Value} {l2 : Int64} {o3 : Option Value} {o4 : Option Value} {o5 : Option Value} {o6 : Option Value} {o7 : Option Value} {o8 : Option Value} {o9 : Option Value} {o10 : Option Value}   (k : E x F d 192 6 [some (.long l0), o1, some (.long l2), o3, o4, some (.long l0), none, some (.long l2), none, o9, o10] [] (V, T) Q) : E x F d 192 0 [some (.long l0), o1, some (.long l2), o3, o4, o5, o6, o7, o8, o9, o10] [] (V, T) Q := by
  refine e_lload_n zd192_0 rfl ?_
  refine e_lstore zd192_1 (by decide +kernel) (Nat.le_of_ble_eq_true rfl) ?_
  refine e_lload_n zd192_3 rfl ?_
  refine e_lstore zd192_4 (by decide +kernel) (Nat.le_of_ble_eq_true rfl) ?_
  exact k
theorem b192_6 {x : zXs} {F : zF} (hF : zSh F) {d : Nat} {V : Nat → Nat → Int32} {T : Nat → Nat → Int64} {Q : Option Value → zG → Prop} {o0 : Option Value} {o1 : Option Value} {o2 : Option Value} {o3 : Option Value} {o4 : Option Value} {o5 : Option Value} {o6 : Option Value} {l7 : Int64} {o8 : Option Value} {o9 : Option Value} {o10 : Option Value}   (kt : (lg_cmp l7 0) = 0 → E x F d 192 31 [o0, o1, o2, o3, o4, o5, o6, some (.long l7), o8, o9, o10] [] (V, T) Q) (kf : ¬ ((lg_cmp l7 0) = 0) → E x F d 192 13 [o0, o1, o2, o3, o4, o5, o6, some (.long l7), o8, o9, o10] [] (V, T) Q) : E x F d 192 6 [o0, o1, o2, o3, o4, o5, o6, some (.long l7), o8, o9, o10] [] (V, T) Q := by
  refine e_lload zd192_6 rfl ?_
  refine e_lconst zd192_8 (v := 0) rfl ?_
  refine e_lcmp zd192_9 ?_
  exact e_if_eq zd192_10 (tg := 31) rfl kt kf
theorem b192_13 {x : zXs} {F : zF} (hF : zSh F) {d : Nat} {V : Nat → Nat → Int32} {T : Nat → Nat → Int64} {Q : Option Value → zG → Prop} {o0 : Option Value} {o1 : Option Value} {o2 : Option Value} {o3 : Option Value} {o4 : Option Value} {l5 : Int64} {o6 : Option Value} {l7 : Int64} {o8 : Option Value} {o9 : Option Value} {o10 : Option Value}  (n1 : ¬ l7 = 0) (k : E x F d 192 6 [o0, o1, o2, o3, o4, some (.long l7), none, some (.long (l5 - l5 / l7 * l7)), none, some (.long (l5 - l5 / l7 * l7)), none] [] (V, T) Q) : E x F d 192 13 [o0, o1, o2, o3, o4, some (.long l5), o6, some (.long l7), o8, o9, o10] [] (V, T) Q := by
  refine e_lload zd192_13 rfl ?_
  refine e_lload zd192_15 rfl ?_
  refine e_lrem zd192_17 n1 ?_
  refine e_lstore zd192_18 (by decide +kernel) (Nat.le_of_ble_eq_true rfl) ?_
  refine e_lload zd192_20 rfl ?_
  refine e_lstore zd192_22 (by decide +kernel) (Nat.le_of_ble_eq_true rfl) ?_
  refine e_lload zd192_24 rfl ?_
  refine e_lstore zd192_26 (by decide +kernel) (Nat.le_of_ble_eq_true rfl) ?_
  exact e_goto zd192_28 (tg := 6) rfl k
theorem b192_31 {x : zXs} {F : zF} (hF : zSh F) {d : Nat} {V : Nat → Nat → Int32} {T : Nat → Nat → Int64} {Q : Option Value → zG → Prop} {o0 : Option Value} {o1 : Option Value} {o2 : Option Value} {o3 : Option Value} {l4 : Int32} {o5 : Option Value} {o6 : Option Value} {o7 : Option Value} {o8 : Option Value} {o9 : Option Value} {o10 : Option Value}   (kt : ¬ l4 = 0 → E x F d 192 43 [o0, o1, o2, o3, some (.int l4), o5, o6, o7, o8, o9, o10] [] (V, T) Q) (kf : ¬ (¬ l4 = 0) → E x F d 192 36 [o0, o1, o2, o3, some (.int l4), o5, o6, o7, o8, o9, o10] [] (V, T) Q) : E x F d 192 31 [o0, o1, o2, o3, some (.int l4), o5, o6, o7, o8, o9, o10] [] (V, T) Q := by
  refine e_iload zd192_31 rfl ?_
  exact e_if_ne zd192_33 (tg := 43) rfl kt kf
theorem b192_36 {x : zXs} {F : zF} (hF : zSh F) {d : Nat} {V : Nat → Nat → Int32} {T : Nat → Nat → Int64} {Q : Option Value → zG → Prop} {l0 : Int64} {o1 : Option Value} {o2 : Option Value} {o3 : Option Value} {o4 : Option Value} {l5 : Int64} {o6 : Option Value} {o7 : Option Value} {o8 : Option Value} {o9 : Option Value} {o10 : Option Value}  (n1 : ¬ l5 = 0) (k : E x F d 192 47 [some (.long l0), o1, o2, o3, o4, some (.long l5), o6, o7, o8, o9, o10] [.long (l0 / l5)] (V, T) Q) : E x F d 192 36 [some (.long l0), o1, o2, o3, o4, some (.long l5), o6, o7, o8, o9, o10] [] (V, T) Q := by
  refine e_lload_n zd192_36 rfl ?_
  refine e_lload zd192_37 rfl ?_
  refine e_ldiv zd192_39 n1 ?_
  exact e_goto zd192_40 (tg := 47) rfl k
theorem b192_43 {x : zXs} {F : zF} (hF : zSh F) {d : Nat} {V : Nat → Nat → Int32} {T : Nat → Nat → Int64} {Q : Option Value → zG → Prop} {o0 : Option Value} {o1 : Option Value} {l2 : Int64} {o3 : Option Value} {o4 : Option Value} {l5 : Int64} {o6 : Option Value} {o7 : Option Value} {o8 : Option Value} {o9 : Option Value} {o10 : Option Value}  (n1 : ¬ l5 = 0) (k : E x F d 192 47 [o0, o1, some (.long l2), o3, o4, some (.long l5), o6, o7, o8, o9, o10] [.long (l2 / l5)] (V, T) Q) : E x F d 192 43 [o0, o1, some (.long l2), o3, o4, some (.long l5), o6, o7, o8, o9, o10] [] (V, T) Q := by
  refine e_lload_n zd192_43 rfl ?_
  refine e_lload zd192_44 rfl ?_
  refine e_ldiv zd192_46 n1 ?_
  exact k
theorem b192_47 {x : zXs} {F : zF} (hF : zSh F) {d : Nat} {V : Nat → Nat → Int32} {T : Nat → Nat → Int64} {Q : Option Value → zG → Prop} {o0 : Option Value} {o1 : Option Value} {o2 : Option Value} {o3 : Option Value} {o4 : Option Value} {o5 : Option Value} {o6 : Option Value} {o7 : Option Value} {o8 : Option Value} {o9 : Option Value} {o10 : Option Value} {s0 : Int64}   (k : Q (some (.long s0)) (V, T)) : E x F d 192 47 [o0, o1, o2, o3, o4, o5, o6, o7, o8, o9, o10] [.long s0] (V, T) Q := by
  exact e_lret zd192_47 zs192 k
theorem zd193_0 : zop 193 0 = some (.iload_n 1, 1) := by decide +kernel
theorem zd193_1 : zop 193 1 = some (.invokestatic 339, 3) := by decide +kernel
theorem zd193_4 : zop 193 4 = some (.ifCond .eq 31, 3) := by decide +kernel
theorem zd193_7 : zop 193 7 = some (.aload_n 0, 1) := by decide +kernel
theorem zd193_8 : zop 193 8 = some (.iload_n 2, 1) := by decide +kernel
theorem zd193_9 : zop 193 9 = some (.invokevirtual 112, 3) := by decide +kernel
theorem zd193_12 : zop 193 12 = some (.ifCond .eq 23, 3) := by decide +kernel
theorem zd193_15 : zop 193 15 = some (.iload_n 3, 1) := by decide +kernel
theorem zd193_16 : zop 193 16 = some (.invokestatic 97, 3) := by decide +kernel
theorem zd193_19 : zop 193 19 = some (.ifCond .eq 16, 3) := by decide +kernel
theorem zd193_22 : zop 193 22 = some (.iload 4, 2) := by decide +kernel
theorem zd193_24 : zop 193 24 = some (.i2l, 1) := by decide +kernel
theorem zd193_25 : zop 193 25 = some (.lconst 0, 1) := by decide +kernel
theorem zd193_26 : zop 193 26 = some (.ldc2_w 342, 3) := by decide +kernel
theorem zd193_29 : zop 193 29 = some (.invokestatic 91, 3) := by decide +kernel
theorem zd193_32 : zop 193 32 = some (.ifCond .ne 6, 3) := by decide +kernel
theorem zd193_35 : zop 193 35 = some (.bipush (-2), 2) := by decide +kernel
theorem zd193_37 : zop 193 37 = some (.ireturn, 1) := by decide +kernel
theorem zd193_38 : zop 193 38 = some (.aload_n 0, 1) := by decide +kernel
theorem zd193_39 : zop 193 39 = some (.getfield 68, 3) := by decide +kernel
theorem zd193_42 : zop 193 42 = some (.iload_n 1, 1) := by decide +kernel
theorem zd193_43 : zop 193 43 = some (.baload, 1) := by decide +kernel
theorem zd193_44 : zop 193 44 = some (.ifCond .ne 6, 3) := by decide +kernel
theorem zd193_47 : zop 193 47 = some (.bipush (-11), 2) := by decide +kernel
theorem zd193_49 : zop 193 49 = some (.ireturn, 1) := by decide +kernel
theorem zd193_50 : zop 193 50 = some (.aload_n 0, 1) := by decide +kernel
theorem zd193_51 : zop 193 51 = some (.getfield 75, 3) := by decide +kernel
theorem zd193_54 : zop 193 54 = some (.iload_n 1, 1) := by decide +kernel
theorem zd193_55 : zop 193 55 = some (.iaload, 1) := by decide +kernel
theorem zd193_56 : zop 193 56 = some (.aload_n 0, 1) := by decide +kernel
theorem zd193_57 : zop 193 57 = some (.iload_n 3, 1) := by decide +kernel
theorem zd193_58 : zop 193 58 = some (.invokevirtual 141, 3) := by decide +kernel
theorem zd193_61 : zop 193 61 = some (.if_icmp .le 6, 3) := by decide +kernel
theorem zd193_64 : zop 193 64 = some (.bipush (-2), 2) := by decide +kernel
theorem zd193_66 : zop 193 66 = some (.ireturn, 1) := by decide +kernel
theorem zd193_67 : zop 193 67 = some (.iload 4, 2) := by decide +kernel
theorem zd193_69 : zop 193 69 = some (.ifCond .ne 11, 3) := by decide +kernel
theorem zd193_72 : zop 193 72 = some (.aload_n 0, 1) := by decide +kernel
theorem zd193_73 : zop 193 73 = some (.iload_n 1, 1) := by decide +kernel
theorem zd193_74 : zop 193 74 = some (.iload_n 2, 1) := by decide +kernel
theorem zd193_75 : zop 193 75 = some (.iload_n 3, 1) := by decide +kernel
theorem zd193_76 : zop 193 76 = some (.invokevirtual 336, 3) := by decide +kernel
theorem zd193_79 : zop 193 79 = some (.ireturn, 1) := by decide +kernel
theorem zd193_80 : zop 193 80 = some (.iload 4, 2) := by decide +kernel
theorem zd193_82 : zop 193 82 = some (.iconst 5, 1) := by decide +kernel
theorem zd193_83 : zop 193 83 = some (.if_icmp .le 26, 3) := by decide +kernel
theorem zd193_86 : zop 193 86 = some (.iload 4, 2) := by decide +kernel
theorem zd193_88 : zop 193 88 = some (.bipush 6, 2) := by decide +kernel
theorem zd193_90 : zop 193 90 = some (.if_icmp .ne 12, 3) := by decide +kernel
theorem zd193_93 : zop 193 93 = some (.aload_n 0, 1) := by decide +kernel
theorem zd193_94 : zop 193 94 = some (.iload_n 1, 1) := by decide +kernel
theorem zd193_95 : zop 193 95 = some (.iload_n 3, 1) := by decide +kernel
theorem zd193_96 : zop 193 96 = some (.invokevirtual 344, 3) := by decide +kernel
theorem zd193_99 : zop 193 99 = some (.goto 9, 3) := by decide +kernel
theorem zd193_102 : zop 193 102 = some (.aload_n 0, 1) := by decide +kernel
theorem zd193_103 : zop 193 103 = some (.iload_n 1, 1) := by decide +kernel
theorem zd193_104 : zop 193 104 = some (.iload_n 2, 1) := by decide +kernel
theorem zd193_105 : zop 193 105 = some (.invokevirtual 347, 3) := by decide +kernel
theorem zd193_108 : zop 193 108 = some (.ireturn, 1) := by decide +kernel
theorem zd193_109 : zop 193 109 = some (.iload 4, 2) := by decide +kernel
theorem zd193_111 : zop 193 111 = some (.iconst 1, 1) := by decide +kernel
theorem zd193_112 : zop 193 112 = some (.if_icmp .ne 7, 3) := by decide +kernel
theorem zd193_115 : zop 193 115 = some (.iconst 3, 1) := by decide +kernel
theorem zd193_116 : zop 193 116 = some (.goto 24, 3) := by decide +kernel
theorem zd193_119 : zop 193 119 = some (.iload 4, 2) := by decide +kernel
theorem zd193_121 : zop 193 121 = some (.iconst 2, 1) := by decide +kernel
theorem zd193_122 : zop 193 122 = some (.if_icmp .ne 7, 3) := by decide +kernel
theorem zd193_125 : zop 193 125 = some (.iconst 1, 1) := by decide +kernel
theorem zd193_126 : zop 193 126 = some (.goto 14, 3) := by decide +kernel
theorem zd193_129 : zop 193 129 = some (.iload 4, 2) := by decide +kernel
theorem zd193_131 : zop 193 131 = some (.iconst 5, 1) := by decide +kernel
theorem zd193_132 : zop 193 132 = some (.if_icmp .ne 7, 3) := by decide +kernel
theorem zd193_135 : zop 193 135 = some (.iconst 4, 1) := by decide +kernel
theorem zd193_136 : zop 193 136 = some (.goto 4, 3) := by decide +kernel
theorem zd193_139 : zop 193 139 = some (.iconst 2, 1) := by decide +kernel
theorem zd193_140 : zop 193 140 = some (.istore 5, 2) := by decide +kernel
theorem zd193_142 : zop 193 142 = some (.iload 5, 2) := by decide +kernel
theorem zd193_144 : zop 193 144 = some (.iconst 4, 1) := by decide +kernel
theorem zd193_145 : zop 193 145 = some (.if_icmp .ne 10, 3) := by decide +kernel
theorem zd193_148 : zop 193 148 = some (.aload_n 0, 1) := by decide +kernel
theorem zd193_149 : zop 193 149 = some (.getfield 129, 3) := by decide +kernel
theorem zd193_152 : zop 193 152 = some (.goto 10, 3) := by decide +kernel
theorem zd193_155 : zop 193 155 = some (.aload_n 0, 1) := by decide +kernel
theorem zd193_156 : zop 193 156 = some (.iload_n 2, 1) := by decide +kernel
theorem zd193_157 : zop 193 157 = some (.iload 5, 2) := by decide +kernel
theorem zd193_159 : zop 193 159 = some (.invokevirtual 118, 3) := by decide +kernel
theorem zd193_162 : zop 193 162 = some (.istore 6, 2) := by decide +kernel
theorem zd193_164 : zop 193 164 = some (.iload 5, 2) := by decide +kernel
theorem zd193_166 : zop 193 166 = some (.iconst 4, 1) := by decide +kernel
theorem zd193_167 : zop 193 167 = some (.if_icmp .ne 12, 3) := by decide +kernel
theorem zd193_170 : zop 193 170 = some (.aload_n 0, 1) := by decide +kernel
theorem zd193_171 : zop 193 171 = some (.getfield 85, 3) := by decide +kernel
theorem zd193_174 : zop 193 174 = some (.iconst 1, 1) := by decide +kernel
theorem zd193_175 : zop 193 175 = some (.isub, 1) := by decide +kernel
theorem zd193_176 : zop 193 176 = some (.goto 26, 3) := by decide +kernel
theorem zd193_179 : zop 193 179 = some (.iload 5, 2) := by decide +kernel
theorem zd193_181 : zop 193 181 = some (.iconst 3, 1) := by decide +kernel
theorem zd193_182 : zop 193 182 = some (.if_icmp .ne 7, 3) := by decide +kernel
theorem zd193_185 : zop 193 185 = some (.iconst 5, 1) := by decide +kernel
theorem zd193_186 : zop 193 186 = some (.goto 16, 3) := by decide +kernel
theorem zd193_189 : zop 193 189 = some (.iload 5, 2) := by decide +kernel
theorem zd193_191 : zop 193 191 = some (.iconst 1, 1) := by decide +kernel
theorem zd193_192 : zop 193 192 = some (.if_icmp .ne 8, 3) := by decide +kernel
theorem zd193_195 : zop 193 195 = some (.bipush 9, 2) := by decide +kernel
theorem zd193_197 : zop 193 197 = some (.goto 5, 3) := by decide +kernel
theorem zd193_200 : zop 193 200 = some (.bipush 99, 2) := by decide +kernel
theorem zd193_202 : zop 193 202 = some (.istore 7, 2) := by decide +kernel
theorem zd193_204 : zop 193 204 = some (.iconst 0, 1) := by decide +kernel
theorem zd193_205 : zop 193 205 = some (.istore 8, 2) := by decide +kernel
theorem zd193_207 : zop 193 207 = some (.iconst 0, 1) := by decide +kernel
theorem zd193_208 : zop 193 208 = some (.istore 9, 2) := by decide +kernel
theorem zd193_210 : zop 193 210 = some (.iconst (-1), 1) := by decide +kernel
theorem zd193_211 : zop 193 211 = some (.istore 10, 2) := by decide +kernel
theorem zd193_213 : zop 193 213 = some (.iload 7, 2) := by decide +kernel
theorem zd193_215 : zop 193 215 = some (.istore 11, 2) := by decide +kernel
theorem zd193_217 : zop 193 217 = some (.iload 11, 2) := by decide +kernel
theorem zd193_219 : zop 193 219 = some (.ifCond .lt 56, 3) := by decide +kernel
theorem zd193_222 : zop 193 222 = some (.aload_n 0, 1) := by decide +kernel
theorem zd193_223 : zop 193 223 = some (.iload 5, 2) := by decide +kernel
theorem zd193_225 : zop 193 225 = some (.iload_n 2, 1) := by decide +kernel
theorem zd193_226 : zop 193 226 = some (.iload 11, 2) := by decide +kernel
theorem zd193_228 : zop 193 228 = some (.invokevirtual 122, 3) := by decide +kernel
theorem zd193_231 : zop 193 231 = some (.aload_n 0, 1) := by decide +kernel
theorem zd193_232 : zop 193 232 = some (.iload_n 1, 1) := by decide +kernel
theorem zd193_233 : zop 193 233 = some (.iload_n 2, 1) := by decide +kernel
theorem zd193_234 : zop 193 234 = some (.iload_n 3, 1) := by decide +kernel
theorem zd193_235 : zop 193 235 = some (.invokevirtual 336, 3) := by decide +kernel
theorem zd193_238 : zop 193 238 = some (.iconst (-1), 1) := by decide +kernel
theorem zd193_239 : zop 193 239 = some (.if_icmp .ne 30, 3) := by decide +kernel
theorem zd193_242 : zop 193 242 = some (.iload 8, 2) := by decide +kernel
theorem zd193_244 : zop 193 244 = some (.iload 11, 2) := by decide +kernel
theorem zd193_246 : zop 193 246 = some (.bipush 10, 2) := by decide +kernel
theorem zd193_248 : zop 193 248 = some (.if_icmp .ge 10, 3) := by decide +kernel
theorem zd193_251 : zop 193 251 = some (.iconst 1, 1) := by decide +kernel
theorem zd193_252 : zop 193 252 = some (.iload 11, 2) := by decide +kernel
theorem zd193_254 : zop 193 254 = some (.ishl, 1) := by decide +kernel
theorem zd193_255 : zop 193 255 = some (.goto 4, 3) := by decide +kernel
theorem zd193_258 : zop 193 258 = some (.iconst 0, 1) := by decide +kernel
theorem zd193_259 : zop 193 259 = some (.ior, 1) := by decide +kernel
theorem zd193_260 : zop 193 260 = some (.istore 8, 2) := by decide +kernel
theorem zd193_262 : zop 193 262 = some (.iinc 9 1, 3) := by decide +kernel
theorem zd193_265 : zop 193 265 = some (.iload 11, 2) := by decide +kernel
theorem zd193_267 : zop 193 267 = some (.istore 10, 2) := by decide +kernel
theorem zd193_269 : zop 193 269 = some (.iinc 11 (-1), 3) := by decide +kernel
theorem zd193_272 : zop 193 272 = some (.goto (-55), 3) := by decide +kernel
theorem zd193_275 : zop 193 275 = some (.aload_n 0, 1) := by decide +kernel
theorem zd193_276 : zop 193 276 = some (.iload 5, 2) := by decide +kernel
theorem zd193_278 : zop 193 278 = some (.iload_n 2, 1) := by decide +kernel
theorem zd193_279 : zop 193 279 = some (.iload 6, 2) := by decide +kernel
theorem zd193_281 : zop 193 281 = some (.invokevirtual 122, 3) := by decide +kernel
theorem zd193_284 : zop 193 284 = some (.iload 4, 2) := by decide +kernel
theorem zd193_286 : zop 193 286 = some (.iconst 3, 1) := by decide +kernel
theorem zd193_287 : zop 193 287 = some (.if_icmp .ne 8, 3) := by decide +kernel
theorem zd193_290 : zop 193 290 = some (.iload 9, 2) := by decide +kernel
theorem zd193_292 : zop 193 292 = some (.goto 16, 3) := by decide +kernel
theorem zd193_295 : zop 193 295 = some (.iload 4, 2) := by decide +kernel
theorem zd193_297 : zop 193 297 = some (.iconst 4, 1) := by decide +kernel
theorem zd193_298 : zop 193 298 = some (.if_icmp .ne 8, 3) := by decide +kernel
theorem zd193_301 : zop 193 301 = some (.iload 10, 2) := by decide +kernel
theorem zd193_303 : zop 193 303 = some (.goto 5, 3) := by decide +kernel
theorem zd193_306 : zop 193 306 = some (.iload 8, 2) := by decide +kernel
theorem zd193_308 : zop 193 308 = some (.ireturn, 1) := by decide +kernel
theorem b193_0 {x : zXs} {F : zF} (hF : zSh F) {d : Nat} {V : Nat → Nat → Int32} {T : Nat → Nat → Int64} {Q : Option Value → zG → Prop} {o0 : Option Value} {l1 : Int32} {o2 : Option Value} {o3 : Option Value} {o4 : Option Value} {o5 : Option Value} {o6 : Option Value} {o7 : Option Value} {o8 : Option Value} {o9 : Option Value} {o10 : Option Value} {o11 : Option Value}   (k : E x F d 194 0 [some (.int l1)] [] (V, T) (fun r G' => E x F (d + 1) 193 4 [o0, some (.int l1), o2, o3, o4, o5, o6, o7, o8, o9, o10, o11] (r.toList ++ []) G' Q)) : E x F (d + 1) 193 0 [o0, some (.int l1), o2, o3, o4, o5, o6, o7, o8, o9, o10, o11] [] (V, T) Q := by
  refine e_iload_n zd193_0 rfl ?_
  exact e_callS zd193_1 (own := 8) (nest := false) (w := 1268) (by decide +kernel) (by decide +kernel) zs194 (as := [.int l1]) (rest := []) rfl rfl (Nat.le_of_ble_eq_true rfl) rfl rfl rfl (by omega) k
theorem b193_4 {x : zXs} {F : zF} (hF : zSh F) {d : Nat} {V : Nat → Nat → Int32} {T : Nat → Nat → Int64} {Q : Option Value → zG → Prop} {o0 : Option Value} {o1 : Option Value} {o2 : Option Value} {o3 : Option Value} {o4 : Option Value} {o5 : Option Value} {o6 : Option Value} {o7 : Option Value} {o8 : Option Value} {o9 : Option Value} {o10 : Option Value} {o11 : Option Value} {s0 : Int32}   (kt : s0 = 0 → E x F d 193 35 [o0, o1, o2, o3, o4, o5, o6, o7, o8, o9, o10, o11] [] (V, T) Q) (kf : ¬ (s0 = 0) → E x F d 193 7 [o0, o1, o2, o3, o4, o5, o6, o7, o8, o9, o10, o11] [] (V, T) Q) : E x F d 193 4 [o0, o1, o2, o3, o4, o5, o6, o7, o8, o9, o10, o11] [.int s0] (V, T) Q := by
  exact e_if_eq zd193_4 (tg := 35) rfl kt kf
theorem b193_7 {x : zXs} {F : zF} (hF : zSh F) {d : Nat} {V : Nat → Nat → Int32} {T : Nat → Nat → Int64} {Q : Option Value → zG → Prop} {o1 : Option Value} {l2 : Int32} {o3 : Option Value} {o4 : Option Value} {o5 : Option Value} {o6 : Option Value} {o7 : Option Value} {o8 : Option Value} {o9 : Option Value} {o10 : Option Value} {o11 : Option Value}   (k : E x F d 136 0 [some (.ref 59), some (.int l2)] [] (V, T) (fun r G' => E x F (d + 1) 193 12 [some (.ref 59), o1, some (.int l2), o3, o4, o5, o6, o7, o8, o9, o10, o11] (r.toList ++ []) G' Q)) : E x F (d + 1) 193 7 [some (.ref 59), o1, some (.int l2), o3, o4, o5, o6, o7, o8, o9, o10, o11] [] (V, T) Q := by
  refine e_aload_n zd193_7 rfl rfl ?_
  refine e_iload_n zd193_8 rfl ?_
  exact e_callV zd193_9 (own := 8) (nest := false) (w := 1025) (by decide +kernel) (by decide +kernel) zs136 (as := [.int l2]) (rest := []) rfl rfl (zsh_at hF rfl).1 (by omega) (Nat.le_of_ble_eq_true rfl) rfl rfl rfl (by omega) k
theorem b193_12 {x : zXs} {F : zF} (hF : zSh F) {d : Nat} {V : Nat → Nat → Int32} {T : Nat → Nat → Int64} {Q : Option Value → zG → Prop} {o0 : Option Value} {o1 : Option Value} {o2 : Option Value} {o3 : Option Value} {o4 : Option Value} {o5 : Option Value} {o6 : Option Value} {o7 : Option Value} {o8 : Option Value} {o9 : Option Value} {o10 : Option Value} {o11 : Option Value} {s0 : Int32}   (kt : s0 = 0 → E x F d 193 35 [o0, o1, o2, o3, o4, o5, o6, o7, o8, o9, o10, o11] [] (V, T) Q) (kf : ¬ (s0 = 0) → E x F d 193 15 [o0, o1, o2, o3, o4, o5, o6, o7, o8, o9, o10, o11] [] (V, T) Q) : E x F d 193 12 [o0, o1, o2, o3, o4, o5, o6, o7, o8, o9, o10, o11] [.int s0] (V, T) Q := by
  exact e_if_eq zd193_12 (tg := 35) rfl kt kf
theorem b193_15 {x : zXs} {F : zF} (hF : zSh F) {d : Nat} {V : Nat → Nat → Int32} {T : Nat → Nat → Int64} {Q : Option Value → zG → Prop} {o0 : Option Value} {o1 : Option Value} {o2 : Option Value} {l3 : Int32} {o4 : Option Value} {o5 : Option Value} {o6 : Option Value} {o7 : Option Value} {o8 : Option Value} {o9 : Option Value} {o10 : Option Value} {o11 : Option Value}   (k : E x F d 131 0 [some (.int l3)] [] (V, T) (fun r G' => E x F (d + 1) 193 19 [o0, o1, o2, some (.int l3), o4, o5, o6, o7, o8, o9, o10, o11] (r.toList ++ []) G' Q)) : E x F (d + 1) 193 15 [o0, o1, o2, some (.int l3), o4, o5, o6, o7, o8, o9, o10, o11] [] (V, T) Q := by
  refine e_iload_n zd193_15 rfl ?_
  exact e_callS zd193_16 (own := 8) (nest := false) (w := 1005) (by decide +kernel) (by decide +kernel) zs131 (as := [.int l3]) (rest := []) rfl rfl (Nat.le_of_ble_eq_true rfl) rfl rfl rfl (by omega) k
theorem b193_19 {x : zXs} {F : zF} (hF : zSh F) {d : Nat} {V : Nat → Nat → Int32} {T : Nat → Nat → Int64} {Q : Option Value → zG → Prop} {o0 : Option Value} {o1 : Option Value} {o2 : Option Value} {o3 : Option Value} {o4 : Option Value} {o5 : Option Value} {o6 : Option Value} {o7 : Option Value} {o8 : Option Value} {o9 : Option Value} {o10 : Option Value} {o11 : Option Value} {s0 : Int32}   (kt : s0 = 0 → E x F d 193 35 [o0, o1, o2, o3, o4, o5, o6, o7, o8, o9, o10, o11] [] (V, T) Q) (kf : ¬ (s0 = 0) → E x F d 193 22 [o0, o1, o2, o3, o4, o5, o6, o7, o8, o9, o10, o11] [] (V, T) Q) : E x F d 193 19 [o0, o1, o2, o3, o4, o5, o6, o7, o8, o9, o10, o11] [.int s0] (V, T) Q := by
  exact e_if_eq zd193_19 (tg := 35) rfl kt kf
theorem b193_22 {x : zXs} {F : zF} (hF : zSh F) {d : Nat} {V : Nat → Nat → Int32} {T : Nat → Nat → Int64} {Q : Option Value → zG → Prop} {o0 : Option Value} {o1 : Option Value} {o2 : Option Value} {o3 : Option Value} {l4 : Int32} {o5 : Option Value} {o6 : Option Value} {o7 : Option Value} {o8 : Option Value} {o9 : Option Value} {o10 : Option Value} {o11 : Option Value}   (k : E x F d 132 0 [some (.long l4.toInt64), none, some (.long 0), none, some (.long (7 : Int64)), none] [] (V, T) (fun r G' => E x F (d + 1) 193 32 [o0, o1, o2, o3, some (.int l4), o5, o6, o7, o8, o9, o10, o11] (r.toList ++ []) G' Q)) : E x F (d + 1) 193 22 [o0, o1, o2, o3, some (.int l4), o5, o6, o7, o8, o9, o10, o11] [] (V, T) Q := by
  refine e_iload zd193_22 rfl ?_
  refine e_i2l zd193_24 ?_
  refine e_lconst zd193_25 (v := 0) rfl ?_
  refine e_ldc2 zd193_26 (own := 8) (w := 1271) (v := 7) (by decide +kernel) (by decide +kernel) ?_
  exact e_callS zd193_29 (own := 8) (nest := false) (w := 1009) (by decide +kernel) (by decide +kernel) zs132 (as := [.long l4.toInt64, .long 0, .long (7 : Int64)]) (rest := []) rfl rfl (Nat.le_of_ble_eq_true rfl) rfl rfl rfl (by omega) k
theorem b193_32 {x : zXs} {F : zF} (hF : zSh F) {d : Nat} {V : Nat → Nat → Int32} {T : Nat → Nat → Int64} {Q : Option Value → zG → Prop} {o0 : Option Value} {o1 : Option Value} {o2 : Option Value} {o3 : Option Value} {o4 : Option Value} {o5 : Option Value} {o6 : Option Value} {o7 : Option Value} {o8 : Option Value} {o9 : Option Value} {o10 : Option Value} {o11 : Option Value} {s0 : Int32}   (kt : ¬ s0 = 0 → E x F d 193 38 [o0, o1, o2, o3, o4, o5, o6, o7, o8, o9, o10, o11] [] (V, T) Q) (kf : ¬ (¬ s0 = 0) → E x F d 193 35 [o0, o1, o2, o3, o4, o5, o6, o7, o8, o9, o10, o11] [] (V, T) Q) : E x F d 193 32 [o0, o1, o2, o3, o4, o5, o6, o7, o8, o9, o10, o11] [.int s0] (V, T) Q := by
  exact e_if_ne zd193_32 (tg := 38) rfl kt kf
theorem b193_35 {x : zXs} {F : zF} (hF : zSh F) {d : Nat} {V : Nat → Nat → Int32} {T : Nat → Nat → Int64} {Q : Option Value → zG → Prop} {o0 : Option Value} {o1 : Option Value} {o2 : Option Value} {o3 : Option Value} {o4 : Option Value} {o5 : Option Value} {o6 : Option Value} {o7 : Option Value} {o8 : Option Value} {o9 : Option Value} {o10 : Option Value} {o11 : Option Value}   (k : Q (some (.int (Int32.ofInt (-2)))) (V, T)) : E x F d 193 35 [o0, o1, o2, o3, o4, o5, o6, o7, o8, o9, o10, o11] [] (V, T) Q := by
  refine e_bipush zd193_35 (v := Int32.ofInt (-2)) (by decide +kernel) ?_
  exact e_ireti zd193_37 zs193 k
theorem b193_38 {x : zXs} {F : zF} (hF : zSh F) {d : Nat} {V : Nat → Nat → Int32} {T : Nat → Nat → Int64} {Q : Option Value → zG → Prop} {l1 : Int32} {o2 : Option Value} {o3 : Option Value} {o4 : Option Value} {o5 : Option Value} {o6 : Option Value} {o7 : Option Value} {o8 : Option Value} {o9 : Option Value} {o10 : Option Value} {o11 : Option Value}  {i1 : Nat} (e1 : l1 = nI i1) (h1 : i1 < 4) (kt : ¬ (V 77 i1) = 0 → E x F d 193 50 [some (.ref 59), some (.int l1), o2, o3, o4, o5, o6, o7, o8, o9, o10, o11] [] (V, T) Q) (kf : ¬ (¬ (V 77 i1) = 0) → E x F d 193 47 [some (.ref 59), some (.int l1), o2, o3, o4, o5, o6, o7, o8, o9, o10, o11] [] (V, T) Q) : E x F d 193 38 [some (.ref 59), some (.int l1), o2, o3, o4, o5, o6, o7, o8, o9, o10, o11] [] (V, T) Q := by
  refine e_aload_n zd193_38 rfl rfl ?_
  refine e_getA zd193_39 (own := 8) (ci := 8) (kf := 43) (w := 901) (by decide +kernel) (by decide +kernel) (zsh_at hF rfl).1 (by decide +kernel) rfl (zrf_at hF (i := 76) rfl) ?_
  refine e_iload_n zd193_42 rfl ?_
  refine e_bald zd193_43 (i := i1) (zsh_at hF rfl) e1 h1 (by omega) ?_
  exact e_if_ne zd193_44 (tg := 50) rfl kt kf
theorem b193_47 {x : zXs} {F : zF} (hF : zSh F) {d : Nat} {V : Nat → Nat → Int32} {T : Nat → Nat → Int64} {Q : Option Value → zG → Prop} {o0 : Option Value} {o1 : Option Value} {o2 : Option Value} {o3 : Option Value} {o4 : Option Value} {o5 : Option Value} {o6 : Option Value} {o7 : Option Value} {o8 : Option Value} {o9 : Option Value} {o10 : Option Value} {o11 : Option Value}   (k : Q (some (.int (Int32.ofInt (-11)))) (V, T)) : E x F d 193 47 [o0, o1, o2, o3, o4, o5, o6, o7, o8, o9, o10, o11] [] (V, T) Q := by
  refine e_bipush zd193_47 (v := Int32.ofInt (-11)) (by decide +kernel) ?_
  exact e_ireti zd193_49 zs193 k
theorem b193_50 {x : zXs} {F : zF} (hF : zSh F) {d : Nat} {V : Nat → Nat → Int32} {T : Nat → Nat → Int64} {Q : Option Value → zG → Prop} {l1 : Int32} {o2 : Option Value} {l3 : Int32} {o4 : Option Value} {o5 : Option Value} {o6 : Option Value} {o7 : Option Value} {o8 : Option Value} {o9 : Option Value} {o10 : Option Value} {o11 : Option Value}  {i1 : Nat} (e1 : l1 = nI i1) (h1 : i1 < 4) (k : E x F d 158 0 [some (.ref 59), some (.int l3), none, none] [] (V, T) (fun r G' => E x F (d + 1) 193 61 [some (.ref 59), some (.int l1), o2, some (.int l3), o4, o5, o6, o7, o8, o9, o10, o11] (r.toList ++ [.int (V 79 i1)]) G' Q)) : E x F (d + 1) 193 50 [some (.ref 59), some (.int l1), o2, some (.int l3), o4, o5, o6, o7, o8, o9, o10, o11] [] (V, T) Q := by
  refine e_aload_n zd193_50 rfl rfl ?_
  refine e_getA zd193_51 (own := 8) (ci := 8) (kf := 45) (w := 903) (by decide +kernel) (by decide +kernel) (zsh_at hF rfl).1 (by decide +kernel) rfl (zrf_at hF (i := 78) rfl) ?_
  refine e_iload_n zd193_54 rfl ?_
  refine e_iald zd193_55 (i := i1) (zsh_at hF rfl) e1 h1 (by omega) ?_
  refine e_aload_n zd193_56 rfl rfl ?_
  refine e_iload_n zd193_57 rfl ?_
  exact e_callV zd193_58 (own := 8) (nest := false) (w := 1118) (by decide +kernel) (by decide +kernel) zs158 (as := [.int l3]) (rest := [.int (V 79 i1)]) rfl rfl (zsh_at hF rfl).1 (by omega) (Nat.le_of_ble_eq_true rfl) rfl rfl rfl (by omega) k
theorem b193_61 {x : zXs} {F : zF} (hF : zSh F) {d : Nat} {V : Nat → Nat → Int32} {T : Nat → Nat → Int64} {Q : Option Value → zG → Prop} {o0 : Option Value} {o1 : Option Value} {o2 : Option Value} {o3 : Option Value} {o4 : Option Value} {o5 : Option Value} {o6 : Option Value} {o7 : Option Value} {o8 : Option Value} {o9 : Option Value} {o10 : Option Value} {o11 : Option Value} {s0 : Int32} {s1 : Int32}   (kt : s0 ≤ s1 → E x F d 193 67 [o0, o1, o2, o3, o4, o5, o6, o7, o8, o9, o10, o11] [] (V, T) Q) (kf : ¬ (s0 ≤ s1) → E x F d 193 64 [o0, o1, o2, o3, o4, o5, o6, o7, o8, o9, o10, o11] [] (V, T) Q) : E x F d 193 61 [o0, o1, o2, o3, o4, o5, o6, o7, o8, o9, o10, o11] [.int s1, .int s0] (V, T) Q := by
  exact e_icmp_le zd193_61 (tg := 67) rfl kt kf
theorem b193_64 {x : zXs} {F : zF} (hF : zSh F) {d : Nat} {V : Nat → Nat → Int32} {T : Nat → Nat → Int64} {Q : Option Value → zG → Prop} {o0 : Option Value} {o1 : Option Value} {o2 : Option Value} {o3 : Option Value} {o4 : Option Value} {o5 : Option Value} {o6 : Option Value} {o7 : Option Value} {o8 : Option Value} {o9 : Option Value} {o10 : Option Value} {o11 : Option Value}   (k : Q (some (.int (Int32.ofInt (-2)))) (V, T)) : E x F d 193 64 [o0, o1, o2, o3, o4, o5, o6, o7, o8, o9, o10, o11] [] (V, T) Q := by
  refine e_bipush zd193_64 (v := Int32.ofInt (-2)) (by decide +kernel) ?_
  exact e_ireti zd193_66 zs193 k
theorem b193_67 {x : zXs} {F : zF} (hF : zSh F) {d : Nat} {V : Nat → Nat → Int32} {T : Nat → Nat → Int64} {Q : Option Value → zG → Prop} {o0 : Option Value} {o1 : Option Value} {o2 : Option Value} {o3 : Option Value} {l4 : Int32} {o5 : Option Value} {o6 : Option Value} {o7 : Option Value} {o8 : Option Value} {o9 : Option Value} {o10 : Option Value} {o11 : Option Value}   (kt : ¬ l4 = 0 → E x F d 193 80 [o0, o1, o2, o3, some (.int l4), o5, o6, o7, o8, o9, o10, o11] [] (V, T) Q) (kf : ¬ (¬ l4 = 0) → E x F d 193 72 [o0, o1, o2, o3, some (.int l4), o5, o6, o7, o8, o9, o10, o11] [] (V, T) Q) : E x F d 193 67 [o0, o1, o2, o3, some (.int l4), o5, o6, o7, o8, o9, o10, o11] [] (V, T) Q := by
  refine e_iload zd193_67 rfl ?_
  exact e_if_ne zd193_69 (tg := 80) rfl kt kf
theorem b193_72 {x : zXs} {F : zF} (hF : zSh F) {d : Nat} {V : Nat → Nat → Int32} {T : Nat → Nat → Int64} {Q : Option Value → zG → Prop} {l1 : Int32} {l2 : Int32} {l3 : Int32} {o4 : Option Value} {o5 : Option Value} {o6 : Option Value} {o7 : Option Value} {o8 : Option Value} {o9 : Option Value} {o10 : Option Value} {o11 : Option Value}   (k : E x F d 195 0 [some (.ref 59), some (.int l1), some (.int l2), some (.int l3), none] [] (V, T) (fun r G' => E x F (d + 1) 193 79 [some (.ref 59), some (.int l1), some (.int l2), some (.int l3), o4, o5, o6, o7, o8, o9, o10, o11] (r.toList ++ []) G' Q)) : E x F (d + 1) 193 72 [some (.ref 59), some (.int l1), some (.int l2), some (.int l3), o4, o5, o6, o7, o8, o9, o10, o11] [] (V, T) Q := by
  refine e_aload_n zd193_72 rfl rfl ?_
  refine e_iload_n zd193_73 rfl ?_
  refine e_iload_n zd193_74 rfl ?_
  refine e_iload_n zd193_75 rfl ?_
  exact e_callV zd193_76 (own := 8) (nest := false) (w := 1272) (by decide +kernel) (by decide +kernel) zs195 (as := [.int l1, .int l2, .int l3]) (rest := []) rfl rfl (zsh_at hF rfl).1 (by omega) (Nat.le_of_ble_eq_true rfl) rfl rfl rfl (by omega) k
theorem b193_79 {x : zXs} {F : zF} (hF : zSh F) {d : Nat} {V : Nat → Nat → Int32} {T : Nat → Nat → Int64} {Q : Option Value → zG → Prop} {o0 : Option Value} {o1 : Option Value} {o2 : Option Value} {o3 : Option Value} {o4 : Option Value} {o5 : Option Value} {o6 : Option Value} {o7 : Option Value} {o8 : Option Value} {o9 : Option Value} {o10 : Option Value} {o11 : Option Value} {s0 : Int32}   (k : Q (some (.int s0)) (V, T)) : E x F d 193 79 [o0, o1, o2, o3, o4, o5, o6, o7, o8, o9, o10, o11] [.int s0] (V, T) Q := by
  exact e_ireti zd193_79 zs193 k
theorem b193_80 {x : zXs} {F : zF} (hF : zSh F) {d : Nat} {V : Nat → Nat → Int32} {T : Nat → Nat → Int64} {Q : Option Value → zG → Prop} {o0 : Option Value} {o1 : Option Value} {o2 : Option Value} {o3 : Option Value} {l4 : Int32} {o5 : Option Value} {o6 : Option Value} {o7 : Option Value} {o8 : Option Value} {o9 : Option Value} {o10 : Option Value} {o11 : Option Value}   (kt : l4 ≤ (Int32.ofInt 5) → E x F d 193 109 [o0, o1, o2, o3, some (.int l4), o5, o6, o7, o8, o9, o10, o11] [] (V, T) Q) (kf : ¬ (l4 ≤ (Int32.ofInt 5)) → E x F d 193 86 [o0, o1, o2, o3, some (.int l4), o5, o6, o7, o8, o9, o10, o11] [] (V, T) Q) : E x F d 193 80 [o0, o1, o2, o3, some (.int l4), o5, o6, o7, o8, o9, o10, o11] [] (V, T) Q := by
  refine e_iload zd193_80 rfl ?_
  refine e_iconst zd193_82 ?_
  exact e_icmp_le zd193_83 (tg := 109) rfl kt kf
theorem b193_86 {x : zXs} {F : zF} (hF : zSh F) {d : Nat} {V : Nat → Nat → Int32} {T : Nat → Nat → Int64} {Q : Option Value → zG → Prop} {o0 : Option Value} {o1 : Option Value} {o2 : Option Value} {o3 : Option Value} {l4 : Int32} {o5 : Option Value} {o6 : Option Value} {o7 : Option Value} {o8 : Option Value} {o9 : Option Value} {o10 : Option Value} {o11 : Option Value}   (kt : ¬ l4 = (Int32.ofInt 6) → E x F d 193 102 [o0, o1, o2, o3, some (.int l4), o5, o6, o7, o8, o9, o10, o11] [] (V, T) Q) (kf : ¬ (¬ l4 = (Int32.ofInt 6)) → E x F d 193 93 [o0, o1, o2, o3, some (.int l4), o5, o6, o7, o8, o9, o10, o11] [] (V, T) Q) : E x F d 193 86 [o0, o1, o2, o3, some (.int l4), o5, o6, o7, o8, o9, o10, o11] [] (V, T) Q := by
  refine e_iload zd193_86 rfl ?_
  refine e_bipush zd193_88 (v := Int32.ofInt 6) (by decide +kernel) ?_
  exact e_icmp_ne zd193_90 (tg := 102) rfl kt kf
theorem b193_93 {x : zXs} {F : zF} (hF : zSh F) {d : Nat} {V : Nat → Nat → Int32} {T : Nat → Nat → Int64} {Q : Option Value → zG → Prop} {l1 : Int32} {o2 : Option Value} {l3 : Int32} {o4 : Option Value} {o5 : Option Value} {o6 : Option Value} {o7 : Option Value} {o8 : Option Value} {o9 : Option Value} {o10 : Option Value} {o11 : Option Value}   (k : E x F d 196 0 [some (.ref 59), some (.int l1), some (.int l3), none, none] [] (V, T) (fun r G' => E x F (d + 1) 193 99 [some (.ref 59), some (.int l1), o2, some (.int l3), o4, o5, o6, o7, o8, o9, o10, o11] (r.toList ++ []) G' Q)) : E x F (d + 1) 193 93 [some (.ref 59), some (.int l1), o2, some (.int l3), o4, o5, o6, o7, o8, o9, o10, o11] [] (V, T) Q := by
  refine e_aload_n zd193_93 rfl rfl ?_
  refine e_iload_n zd193_94 rfl ?_
  refine e_iload_n zd193_95 rfl ?_
  exact e_callV zd193_96 (own := 8) (nest := false) (w := 1276) (by decide +kernel) (by decide +kernel) zs196 (as := [.int l1, .int l3]) (rest := []) rfl rfl (zsh_at hF rfl).1 (by omega) (Nat.le_of_ble_eq_true rfl) rfl rfl rfl (by omega) k
theorem b193_99 {x : zXs} {F : zF} (hF : zSh F) {d : Nat} {V : Nat → Nat → Int32} {T : Nat → Nat → Int64} {Q : Option Value → zG → Prop} {o0 : Option Value} {o1 : Option Value} {o2 : Option Value} {o3 : Option Value} {o4 : Option Value} {o5 : Option Value} {o6 : Option Value} {o7 : Option Value} {o8 : Option Value} {o9 : Option Value} {o10 : Option Value} {o11 : Option Value} {s0 : Int32}   (k : E x F d 193 108 [o0, o1, o2, o3, o4, o5, o6, o7, o8, o9, o10, o11] [.int s0] (V, T) Q) : E x F d 193 99 [o0, o1, o2, o3, o4, o5, o6, o7, o8, o9, o10, o11] [.int s0] (V, T) Q := by
  exact e_goto zd193_99 (tg := 108) rfl k
theorem b193_102 {x : zXs} {F : zF} (hF : zSh F) {d : Nat} {V : Nat → Nat → Int32} {T : Nat → Nat → Int64} {Q : Option Value → zG → Prop} {l1 : Int32} {l2 : Int32} {o3 : Option Value} {o4 : Option Value} {o5 : Option Value} {o6 : Option Value} {o7 : Option Value} {o8 : Option Value} {o9 : Option Value} {o10 : Option Value} {o11 : Option Value}   (k : E x F d 197 0 [some (.ref 59), some (.int l1), some (.int l2), none, none] [] (V, T) (fun r G' => E x F (d + 1) 193 108 [some (.ref 59), some (.int l1), some (.int l2), o3, o4, o5, o6, o7, o8, o9, o10, o11] (r.toList ++ []) G' Q)) : E x F (d + 1) 193 102 [some (.ref 59), some (.int l1), some (.int l2), o3, o4, o5, o6, o7, o8, o9, o10, o11] [] (V, T) Q := by
  refine e_aload_n zd193_102 rfl rfl ?_
  refine e_iload_n zd193_103 rfl ?_
  refine e_iload_n zd193_104 rfl ?_
  exact e_callV zd193_105 (own := 8) (nest := false) (w := 1280) (by decide +kernel) (by decide +kernel) zs197 (as := [.int l1, .int l2]) (rest := []) rfl rfl (zsh_at hF rfl).1 (by omega) (Nat.le_of_ble_eq_true rfl) rfl rfl rfl (by omega) k
theorem b193_108 {x : zXs} {F : zF} (hF : zSh F) {d : Nat} {V : Nat → Nat → Int32} {T : Nat → Nat → Int64} {Q : Option Value → zG → Prop} {o0 : Option Value} {o1 : Option Value} {o2 : Option Value} {o3 : Option Value} {o4 : Option Value} {o5 : Option Value} {o6 : Option Value} {o7 : Option Value} {o8 : Option Value} {o9 : Option Value} {o10 : Option Value} {o11 : Option Value} {s0 : Int32}   (k : Q (some (.int s0)) (V, T)) : E x F d 193 108 [o0, o1, o2, o3, o4, o5, o6, o7, o8, o9, o10, o11] [.int s0] (V, T) Q := by
  exact e_ireti zd193_108 zs193 k
theorem b193_109 {x : zXs} {F : zF} (hF : zSh F) {d : Nat} {V : Nat → Nat → Int32} {T : Nat → Nat → Int64} {Q : Option Value → zG → Prop} {o0 : Option Value} {o1 : Option Value} {o2 : Option Value} {o3 : Option Value} {l4 : Int32} {o5 : Option Value} {o6 : Option Value} {o7 : Option Value} {o8 : Option Value} {o9 : Option Value} {o10 : Option Value} {o11 : Option Value}   (kt : ¬ l4 = (Int32.ofInt 1) → E x F d 193 119 [o0, o1, o2, o3, some (.int l4), o5, o6, o7, o8, o9, o10, o11] [] (V, T) Q) (kf : ¬ (¬ l4 = (Int32.ofInt 1)) → E x F d 193 115 [o0, o1, o2, o3, some (.int l4), o5, o6, o7, o8, o9, o10, o11] [] (V, T) Q) : E x F d 193 109 [o0, o1, o2, o3, some (.int l4), o5, o6, o7, o8, o9, o10, o11] [] (V, T) Q := by
  refine e_iload zd193_109 rfl ?_
  refine e_iconst zd193_111 ?_
  exact e_icmp_ne zd193_112 (tg := 119) rfl kt kf
theorem b193_115 {x : zXs} {F : zF} (hF : zSh F) {d : Nat} {V : Nat → Nat → Int32} {T : Nat → Nat → Int64} {Q : Option Value → zG → Prop} {o0 : Option Value} {o1 : Option Value} {o2 : Option Value} {o3 : Option Value} {o4 : Option Value} {o5 : Option Value} {o6 : Option Value} {o7 : Option Value} {o8 : Option Value} {o9 : Option Value} {o10 : Option Value} {o11 : Option Value}   (k : E x F d 193 140 [o0, o1, o2, o3, o4, o5, o6, o7, o8, o9, o10, o11] [.int (Int32.ofInt 3)] (V, T) Q) : E x F d 193 115 [o0, o1, o2, o3, o4, o5, o6, o7, o8, o9, o10, o11] [] (V, T) Q := by
  refine e_iconst zd193_115 ?_
  exact e_goto zd193_116 (tg := 140) rfl k
theorem b193_119 {x : zXs} {F : zF} (hF : zSh F) {d : Nat} {V : Nat → Nat → Int32} {T : Nat → Nat → Int64} {Q : Option Value → zG → Prop} {o0 : Option Value} {o1 : Option Value} {o2 : Option Value} {o3 : Option Value} {l4 : Int32} {o5 : Option Value} {o6 : Option Value} {o7 : Option Value} {o8 : Option Value} {o9 : Option Value} {o10 : Option Value} {o11 : Option Value}   (kt : ¬ l4 = (Int32.ofInt 2) → E x F d 193 129 [o0, o1, o2, o3, some (.int l4), o5, o6, o7, o8, o9, o10, o11] [] (V, T) Q) (kf : ¬ (¬ l4 = (Int32.ofInt 2)) → E x F d 193 125 [o0, o1, o2, o3, some (.int l4), o5, o6, o7, o8, o9, o10, o11] [] (V, T) Q) : E x F d 193 119 [o0, o1, o2, o3, some (.int l4), o5, o6, o7, o8, o9, o10, o11] [] (V, T) Q := by
  refine e_iload zd193_119 rfl ?_
  refine e_iconst zd193_121 ?_
  exact e_icmp_ne zd193_122 (tg := 129) rfl kt kf
theorem b193_125 {x : zXs} {F : zF} (hF : zSh F) {d : Nat} {V : Nat → Nat → Int32} {T : Nat → Nat → Int64} {Q : Option Value → zG → Prop} {o0 : Option Value} {o1 : Option Value} {o2 : Option Value} {o3 : Option Value} {o4 : Option Value} {o5 : Option Value} {o6 : Option Value} {o7 : Option Value} {o8 : Option Value} {o9 : Option Value} {o10 : Option Value} {o11 : Option Value}   (k : E x F d 193 140 [o0, o1, o2, o3, o4, o5, o6, o7, o8, o9, o10, o11] [.int (Int32.ofInt 1)] (V, T) Q) : E x F d 193 125 [o0, o1, o2, o3, o4, o5, o6, o7, o8, o9, o10, o11] [] (V, T) Q := by
  refine e_iconst zd193_125 ?_
  exact e_goto zd193_126 (tg := 140) rfl k
theorem b193_129 {x : zXs} {F : zF} (hF : zSh F) {d : Nat} {V : Nat → Nat → Int32} {T : Nat → Nat → Int64} {Q : Option Value → zG → Prop} {o0 : Option Value} {o1 : Option Value} {o2 : Option Value} {o3 : Option Value} {l4 : Int32} {o5 : Option Value} {o6 : Option Value} {o7 : Option Value} {o8 : Option Value} {o9 : Option Value} {o10 : Option Value} {o11 : Option Value}   (kt : ¬ l4 = (Int32.ofInt 5) → E x F d 193 139 [o0, o1, o2, o3, some (.int l4), o5, o6, o7, o8, o9, o10, o11] [] (V, T) Q) (kf : ¬ (¬ l4 = (Int32.ofInt 5)) → E x F d 193 135 [o0, o1, o2, o3, some (.int l4), o5, o6, o7, o8, o9, o10, o11] [] (V, T) Q) : E x F d 193 129 [o0, o1, o2, o3, some (.int l4), o5, o6, o7, o8, o9, o10, o11] [] (V, T) Q := by
  refine e_iload zd193_129 rfl ?_
  refine e_iconst zd193_131 ?_
  exact e_icmp_ne zd193_132 (tg := 139) rfl kt kf
theorem b193_135 {x : zXs} {F : zF} (hF : zSh F) {d : Nat} {V : Nat → Nat → Int32} {T : Nat → Nat → Int64} {Q : Option Value → zG → Prop} {o0 : Option Value} {o1 : Option Value} {o2 : Option Value} {o3 : Option Value} {o4 : Option Value} {o5 : Option Value} {o6 : Option Value} {o7 : Option Value} {o8 : Option Value} {o9 : Option Value} {o10 : Option Value} {o11 : Option Value}   (k : E x F d 193 140 [o0, o1, o2, o3, o4, o5, o6, o7, o8, o9, o10, o11] [.int (Int32.ofInt 4)] (V, T) Q) : E x F d 193 135 [o0, o1, o2, o3, o4, o5, o6, o7, o8, o9, o10, o11] [] (V, T) Q := by
  refine e_iconst zd193_135 ?_
  exact e_goto zd193_136 (tg := 140) rfl k
theorem b193_139 {x : zXs} {F : zF} (hF : zSh F) {d : Nat} {V : Nat → Nat → Int32} {T : Nat → Nat → Int64} {Q : Option Value → zG → Prop} {o0 : Option Value} {o1 : Option Value} {o2 : Option Value} {o3 : Option Value} {o4 : Option Value} {o5 : Option Value} {o6 : Option Value} {o7 : Option Value} {o8 : Option Value} {o9 : Option Value} {o10 : Option Value} {o11 : Option Value}   (k : E x F d 193 140 [o0, o1, o2, o3, o4, o5, o6, o7, o8, o9, o10, o11] [.int (Int32.ofInt 2)] (V, T) Q) : E x F d 193 139 [o0, o1, o2, o3, o4, o5, o6, o7, o8, o9, o10, o11] [] (V, T) Q := by
  refine e_iconst zd193_139 ?_
  exact k
theorem b193_140 {x : zXs} {F : zF} (hF : zSh F) {d : Nat} {V : Nat → Nat → Int32} {T : Nat → Nat → Int64} {Q : Option Value → zG → Prop} {o0 : Option Value} {o1 : Option Value} {o2 : Option Value} {o3 : Option Value} {o4 : Option Value} {o5 : Option Value} {o6 : Option Value} {o7 : Option Value} {o8 : Option Value} {o9 : Option Value} {o10 : Option Value} {o11 : Option Value} {s0 : Int32}   (kt : ¬ s0 = (Int32.ofInt 4) → E x F d 193 155 [o0, o1, o2, o3, o4, some (.int s0), o6, o7, o8, o9, o10, o11] [] (V, T) Q) (kf : ¬ (¬ s0 = (Int32.ofInt 4)) → E x F d 193 148 [o0, o1, o2, o3, o4, some (.int s0), o6, o7, o8, o9, o10, o11] [] (V, T) Q) : E x F d 193 140 [o0, o1, o2, o3, o4, o5, o6, o7, o8, o9, o10, o11] [.int s0] (V, T) Q := by
  refine e_istore zd193_140 (by decide +kernel) (Nat.le_of_ble_eq_true rfl) ?_
  refine e_iload zd193_142 rfl ?_
  refine e_iconst zd193_144 ?_
  exact e_icmp_ne zd193_145 (tg := 155) rfl kt kf
theorem b193_148 {x : zXs} {F : zF} (hF : zSh F) {d : Nat} {V : Nat → Nat → Int32} {T : Nat → Nat → Int64} {Q : Option Value → zG → Prop} {o1 : Option Value} {o2 : Option Value} {o3 : Option Value} {o4 : Option Value} {o5 : Option Value} {o6 : Option Value} {o7 : Option Value} {o8 : Option Value} {o9 : Option Value} {o10 : Option Value} {o11 : Option Value}   (k : E x F d 193 162 [some (.ref 59), o1, o2, o3, o4, o5, o6, o7, o8, o9, o10, o11] [.int (V 59 4)] (V, T) Q) : E x F d 193 148 [some (.ref 59), o1, o2, o3, o4, o5, o6, o7, o8, o9, o10, o11] [] (V, T) Q := by
  refine e_aload_n zd193_148 rfl rfl ?_
  refine e_getI zd193_149 (own := 8) (ci := 8) (kf := 4) (w := 862) (by decide +kernel) (by decide +kernel) (zsh_at hF rfl).1 (by decide +kernel) rfl ?_
  exact e_goto zd193_152 (tg := 162) rfl k
theorem b193_155 {x : zXs} {F : zF} (hF : zSh F) {d : Nat} {V : Nat → Nat → Int32} {T : Nat → Nat → Int64} {Q : Option Value → zG → Prop} {o1 : Option Value} {l2 : Int32} {o3 : Option Value} {o4 : Option Value} {l5 : Int32} {o6 : Option Value} {o7 : Option Value} {o8 : Option Value} {o9 : Option Value} {o10 : Option Value} {o11 : Option Value}   (k : E x F d 138 0 [some (.ref 59), some (.int l2), some (.int l5)] [] (V, T) (fun r G' => E x F (d + 1) 193 162 [some (.ref 59), o1, some (.int l2), o3, o4, some (.int l5), o6, o7, o8, o9, o10, o11] (r.toList ++ []) G' Q)) : E x F (d + 1) 193 155 [some (.ref 59), o1, some (.int l2), o3, o4, some (.int l5), o6, o7, o8, o9, o10, o11] [] (V, T) Q := by
  refine e_aload_n zd193_155 rfl rfl ?_
  refine e_iload_n zd193_156 rfl ?_
  refine e_iload zd193_157 rfl ?_
  exact e_callV zd193_159 (own := 8) (nest := false) (w := 1032) (by decide +kernel) (by decide +kernel) zs138 (as := [.int l2, .int l5]) (rest := []) rfl rfl (zsh_at hF rfl).1 (by omega) (Nat.le_of_ble_eq_true rfl) rfl rfl rfl (by omega) k
theorem b193_162 {x : zXs} {F : zF} (hF : zSh F) {d : Nat} {V : Nat → Nat → Int32} {T : Nat → Nat → Int64} {Q : Option Value → zG → Prop} {o0 : Option Value} {o1 : Option Value} {o2 : Option Value} {o3 : Option Value} {o4 : Option Value} {l5 : Int32} {o6 : Option Value} {o7 : Option Value} {o8 : Option Value} {o9 : Option Value} {o10 : Option Value} {o11 : Option Value} {s0 : Int32}   (kt : ¬ l5 = (Int32.ofInt 4) → E x F d 193 179 [o0, o1, o2, o3, o4, some (.int l5), some (.int s0), o7, o8, o9, o10, o11] [] (V, T) Q) (kf : ¬ (¬ l5 = (Int32.ofInt 4)) → E x F d 193 170 [o0, o1, o2, o3, o4, some (.int l5), some (.int s0), o7, o8, o9, o10, o11] [] (V, T) Q) : E x F d 193 162 [o0, o1, o2, o3, o4, some (.int l5), o6, o7, o8, o9, o10, o11] [.int s0] (V, T) Q := by
  refine e_istore zd193_162 (by decide +kernel) (Nat.le_of_ble_eq_true rfl) ?_
  refine e_iload zd193_164 rfl ?_
  refine e_iconst zd193_166 ?_
  exact e_icmp_ne zd193_167 (tg := 179) rfl kt kf
theorem b193_170 {x : zXs} {F : zF} (hF : zSh F) {d : Nat} {V : Nat → Nat → Int32} {T : Nat → Nat → Int64} {Q : Option Value → zG → Prop} {o1 : Option Value} {o2 : Option Value} {o3 : Option Value} {o4 : Option Value} {o5 : Option Value} {o6 : Option Value} {o7 : Option Value} {o8 : Option Value} {o9 : Option Value} {o10 : Option Value} {o11 : Option Value}   (k : E x F d 193 202 [some (.ref 59), o1, o2, o3, o4, o5, o6, o7, o8, o9, o10, o11] [.int ((V 59 3) - (Int32.ofInt 1))] (V, T) Q) : E x F d 193 170 [some (.ref 59), o1, o2, o3, o4, o5, o6, o7, o8, o9, o10, o11] [] (V, T) Q := by
  refine e_aload_n zd193_170 rfl rfl ?_
  refine e_getI zd193_171 (own := 8) (ci := 8) (kf := 3) (w := 861) (by decide +kernel) (by decide +kernel) (zsh_at hF rfl).1 (by decide +kernel) rfl ?_
  refine e_iconst zd193_174 ?_
  refine e_isub zd193_175 ?_
  exact e_goto zd193_176 (tg := 202) rfl k
theorem b193_179 {x : zXs} {F : zF} (hF : zSh F) {d : Nat} {V : Nat → Nat → Int32} {T : Nat → Nat → Int64} {Q : Option Value → zG → Prop} {o0 : Option Value} {o1 : Option Value} {o2 : Option Value} {o3 : Option Value} {o4 : Option Value} {l5 : Int32} {o6 : Option Value} {o7 : Option Value} {o8 : Option Value} {o9 : Option Value} {o10 : Option Value} {o11 : Option Value}   (kt : ¬ l5 = (Int32.ofInt 3) → E x F d 193 189 [o0, o1, o2, o3, o4, some (.int l5), o6, o7, o8, o9, o10, o11] [] (V, T) Q) (kf : ¬ (¬ l5 = (Int32.ofInt 3)) → E x F d 193 185 [o0, o1, o2, o3, o4, some (.int l5), o6, o7, o8, o9, o10, o11] [] (V, T) Q) : E x F d 193 179 [o0, o1, o2, o3, o4, some (.int l5), o6, o7, o8, o9, o10, o11] [] (V, T) Q := by
  refine e_iload zd193_179 rfl ?_
  refine e_iconst zd193_181 ?_
  exact e_icmp_ne zd193_182 (tg := 189) rfl kt kf
theorem b193_185 {x : zXs} {F : zF} (hF : zSh F) {d : Nat} {V : Nat → Nat → Int32} {T : Nat → Nat → Int64} {Q : Option Value → zG → Prop} {o0 : Option Value} {o1 : Option Value} {o2 : Option Value} {o3 : Option Value} {o4 : Option Value} {o5 : Option Value} {o6 : Option Value} {o7 : Option Value} {o8 : Option Value} {o9 : Option Value} {o10 : Option Value} {o11 : Option Value}   (k : E x F d 193 202 [o0, o1, o2, o3, o4, o5, o6, o7, o8, o9, o10, o11] [.int (Int32.ofInt 5)] (V, T) Q) : E x F d 193 185 [o0, o1, o2, o3, o4, o5, o6, o7, o8, o9, o10, o11] [] (V, T) Q := by
  refine e_iconst zd193_185 ?_
  exact e_goto zd193_186 (tg := 202) rfl k
theorem b193_189 {x : zXs} {F : zF} (hF : zSh F) {d : Nat} {V : Nat → Nat → Int32} {T : Nat → Nat → Int64} {Q : Option Value → zG → Prop} {o0 : Option Value} {o1 : Option Value} {o2 : Option Value} {o3 : Option Value} {o4 : Option Value} {l5 : Int32} {o6 : Option Value} {o7 : Option Value} {o8 : Option Value} {o9 : Option Value} {o10 : Option Value} {o11 : Option Value}   (kt : ¬ l5 = (Int32.ofInt 1) → E x F d 193 200 [o0, o1, o2, o3, o4, some (.int l5), o6, o7, o8, o9, o10, o11] [] (V, T) Q) (kf : ¬ (¬ l5 = (Int32.ofInt 1)) → E x F d 193 195 [o0, o1, o2, o3, o4, some (.int l5), o6, o7, o8, o9, o10, o11] [] (V, T) Q) : E x F d 193 189 [o0, o1, o2, o3, o4, some (.int l5), o6, o7, o8, o9, o10, o11] [] (V, T) Q := by
  refine e_iload zd193_189 rfl ?_
  refine e_iconst zd193_191 ?_
  exact e_icmp_ne zd193_192 (tg := 200) rfl kt kf
theorem b193_195 {x : zXs} {F : zF} (hF : zSh F) {d : Nat} {V : Nat → Nat → Int32} {T : Nat → Nat → Int64} {Q : Option Value → zG → Prop} {o0 : Option Value} {o1 : Option Value} {o2 : Option Value} {o3 : Option Value} {o4 : Option Value} {o5 : Option Value} {o6 : Option Value} {o7 : Option Value} {o8 : Option Value} {o9 : Option Value} {o10 : Option Value} {o11 : Option Value}   (k : E x F d 193 202 [o0, o1, o2, o3, o4, o5, o6, o7, o8, o9, o10, o11] [.int (Int32.ofInt 9)] (V, T) Q) : E x F d 193 195 [o0, o1, o2, o3, o4, o5, o6, o7, o8, o9, o10, o11] [] (V, T) Q := by
  refine e_bipush zd193_195 (v := Int32.ofInt 9) (by decide +kernel) ?_
  exact e_goto zd193_197 (tg := 202) rfl k
theorem b193_200 {x : zXs} {F : zF} (hF : zSh F) {d : Nat} {V : Nat → Nat → Int32} {T : Nat → Nat → Int64} {Q : Option Value → zG → Prop} {o0 : Option Value} {o1 : Option Value} {o2 : Option Value} {o3 : Option Value} {o4 : Option Value} {o5 : Option Value} {o6 : Option Value} {o7 : Option Value} {o8 : Option Value} {o9 : Option Value} {o10 : Option Value} {o11 : Option Value}   (k : E x F d 193 202 [o0, o1, o2, o3, o4, o5, o6, o7, o8, o9, o10, o11] [.int (Int32.ofInt 99)] (V, T) Q) : E x F d 193 200 [o0, o1, o2, o3, o4, o5, o6, o7, o8, o9, o10, o11] [] (V, T) Q := by
  refine e_bipush zd193_200 (v := Int32.ofInt 99) (by decide +kernel) ?_
  exact k
theorem b193_202 {x : zXs} {F : zF} (hF : zSh F) {d : Nat} {V : Nat → Nat → Int32} {T : Nat → Nat → Int64} {Q : Option Value → zG → Prop} {o0 : Option Value} {o1 : Option Value} {o2 : Option Value} {o3 : Option Value} {o4 : Option Value} {o5 : Option Value} {o6 : Option Value} {o7 : Option Value} {o8 : Option Value} {o9 : Option Value} {o10 : Option Value} {o11 : Option Value} {s0 : Int32}   (k : E x F d 193 217 [o0, o1, o2, o3, o4, o5, o6, some (.int s0), some (.int (Int32.ofInt 0)), some (.int (Int32.ofInt 0)), some (.int (Int32.ofInt (-1))), some (.int s0)] [] (V, T) Q) : E x F d 193 202 [o0, o1, o2, o3, o4, o5, o6, o7, o8, o9, o10, o11] [.int s0] (V, T) Q := by
  refine e_istore zd193_202 (by decide +kernel) (Nat.le_of_ble_eq_true rfl) ?_
  refine e_iconst zd193_204 ?_
  refine e_istore zd193_205 (by decide +kernel) (Nat.le_of_ble_eq_true rfl) ?_
  refine e_iconst zd193_207 ?_
  refine e_istore zd193_208 (by decide +kernel) (Nat.le_of_ble_eq_true rfl) ?_
  refine e_iconst zd193_210 ?_
  refine e_istore zd193_211 (by decide +kernel) (Nat.le_of_ble_eq_true rfl) ?_
  refine e_iload zd193_213 rfl ?_
  refine e_istore zd193_215 (by decide +kernel) (Nat.le_of_ble_eq_true rfl) ?_
  exact k
theorem b193_217 {x : zXs} {F : zF} (hF : zSh F) {d : Nat} {V : Nat → Nat → Int32} {T : Nat → Nat → Int64} {Q : Option Value → zG → Prop} {o0 : Option Value} {o1 : Option Value} {o2 : Option Value} {o3 : Option Value} {o4 : Option Value} {o5 : Option Value} {o6 : Option Value} {o7 : Option Value} {o8 : Option Value} {o9 : Option Value} {o10 : Option Value} {l11 : Int32}   (kt : l11 < 0 → E x F d 193 275 [o0, o1, o2, o3, o4, o5, o6, o7, o8, o9, o10, some (.int l11)] [] (V, T) Q) (kf : ¬ (l11 < 0) → E x F d 193 222 [o0, o1, o2, o3, o4, o5, o6, o7, o8, o9, o10, some (.int l11)] [] (V, T) Q) : E x F d 193 217 [o0, o1, o2, o3, o4, o5, o6, o7, o8, o9, o10, some (.int l11)] [] (V, T) Q := by
  refine e_iload zd193_217 rfl ?_
  exact e_if_lt zd193_219 (tg := 275) rfl kt kf
theorem b193_222 {x : zXs} {F : zF} (hF : zSh F) {d : Nat} {V : Nat → Nat → Int32} {T : Nat → Nat → Int64} {Q : Option Value → zG → Prop} {o1 : Option Value} {l2 : Int32} {o3 : Option Value} {o4 : Option Value} {l5 : Int32} {o6 : Option Value} {o7 : Option Value} {o8 : Option Value} {o9 : Option Value} {o10 : Option Value} {l11 : Int32}   (k : E x F d 162 0 [some (.ref 59), some (.int l5), some (.int l2), some (.int l11)] [] (V, T) (fun r G' => E x F (d + 1) 193 231 [some (.ref 59), o1, some (.int l2), o3, o4, some (.int l5), o6, o7, o8, o9, o10, some (.int l11)] (r.toList ++ []) G' Q)) : E x F (d + 1) 193 222 [some (.ref 59), o1, some (.int l2), o3, o4, some (.int l5), o6, o7, o8, o9, o10, some (.int l11)] [] (V, T) Q := by
  refine e_aload_n zd193_222 rfl rfl ?_
  refine e_iload zd193_223 rfl ?_
  refine e_iload_n zd193_225 rfl ?_
  refine e_iload zd193_226 rfl ?_
  exact e_callV zd193_228 (own := 8) (nest := false) (w := 1134) (by decide +kernel) (by decide +kernel) zs162 (as := [.int l5, .int l2, .int l11]) (rest := []) rfl rfl (zsh_at hF rfl).1 (by omega) (Nat.le_of_ble_eq_true rfl) rfl rfl rfl (by omega) k
theorem b193_231 {x : zXs} {F : zF} (hF : zSh F) {d : Nat} {V : Nat → Nat → Int32} {T : Nat → Nat → Int64} {Q : Option Value → zG → Prop} {l1 : Int32} {l2 : Int32} {l3 : Int32} {o4 : Option Value} {o5 : Option Value} {o6 : Option Value} {o7 : Option Value} {o8 : Option Value} {o9 : Option Value} {o10 : Option Value} {o11 : Option Value}   (k : E x F d 195 0 [some (.ref 59), some (.int l1), some (.int l2), some (.int l3), none] [] (V, T) (fun r G' => E x F (d + 1) 193 238 [some (.ref 59), some (.int l1), some (.int l2), some (.int l3), o4, o5, o6, o7, o8, o9, o10, o11] (r.toList ++ []) G' Q)) : E x F (d + 1) 193 231 [some (.ref 59), some (.int l1), some (.int l2), some (.int l3), o4, o5, o6, o7, o8, o9, o10, o11] [] (V, T) Q := by
  refine e_aload_n zd193_231 rfl rfl ?_
  refine e_iload_n zd193_232 rfl ?_
  refine e_iload_n zd193_233 rfl ?_
  refine e_iload_n zd193_234 rfl ?_
  exact e_callV zd193_235 (own := 8) (nest := false) (w := 1272) (by decide +kernel) (by decide +kernel) zs195 (as := [.int l1, .int l2, .int l3]) (rest := []) rfl rfl (zsh_at hF rfl).1 (by omega) (Nat.le_of_ble_eq_true rfl) rfl rfl rfl (by omega) k
theorem b193_238 {x : zXs} {F : zF} (hF : zSh F) {d : Nat} {V : Nat → Nat → Int32} {T : Nat → Nat → Int64} {Q : Option Value → zG → Prop} {o0 : Option Value} {o1 : Option Value} {o2 : Option Value} {o3 : Option Value} {o4 : Option Value} {o5 : Option Value} {o6 : Option Value} {o7 : Option Value} {o8 : Option Value} {o9 : Option Value} {o10 : Option Value} {o11 : Option Value} {s0 : Int32}   (kt : ¬ s0 = (Int32.ofInt (-1)) → E x F d 193 269 [o0, o1, o2, o3, o4, o5, o6, o7, o8, o9, o10, o11] [] (V, T) Q) (kf : ¬ (¬ s0 = (Int32.ofInt (-1))) → E x F d 193 242 [o0, o1, o2, o3, o4, o5, o6, o7, o8, o9, o10, o11] [] (V, T) Q) : E x F d 193 238 [o0, o1, o2, o3, o4, o5, o6, o7, o8, o9, o10, o11] [.int s0] (V, T) Q := by
  refine e_iconst zd193_238 ?_
  exact e_icmp_ne zd193_239 (tg := 269) rfl kt kf
theorem b193_242 {x : zXs} {F : zF} (hF : zSh F) {d : Nat} {V : Nat → Nat → Int32} {T : Nat → Nat → Int64} {Q : Option Value → zG → Prop} {o0 : Option Value} {o1 : Option Value} {o2 : Option Value} {o3 : Option Value} {o4 : Option Value} {o5 : Option Value} {o6 : Option Value} {o7 : Option Value} {l8 : Int32} {o9 : Option Value} {o10 : Option Value} {l11 : Int32}   (kt : (Int32.ofInt 10) ≤ l11 → E x F d 193 258 [o0, o1, o2, o3, o4, o5, o6, o7, some (.int l8), o9, o10, some (.int l11)] [.int l8] (V, T) Q) (kf : ¬ ((Int32.ofInt 10) ≤ l11) → E x F d 193 251 [o0, o1, o2, o3, o4, o5, o6, o7, some (.int l8), o9, o10, some (.int l11)] [.int l8] (V, T) Q) : E x F d 193 242 [o0, o1, o2, o3, o4, o5, o6, o7, some (.int l8), o9, o10, some (.int l11)] [] (V, T) Q := by
  refine e_iload zd193_242 rfl ?_
  refine e_iload zd193_244 rfl ?_
  refine e_bipush zd193_246 (v := Int32.ofInt 10) (by decide +kernel) ?_
  exact e_icmp_ge zd193_248 (tg := 258) rfl kt kf
theorem b193_251 {x : zXs} {F : zF} (hF : zSh F) {d : Nat} {V : Nat → Nat → Int32} {T : Nat → Nat → Int64} {Q : Option Value → zG → Prop} {o0 : Option Value} {o1 : Option Value} {o2 : Option Value} {o3 : Option Value} {o4 : Option Value} {o5 : Option Value} {o6 : Option Value} {o7 : Option Value} {o8 : Option Value} {o9 : Option Value} {o10 : Option Value} {l11 : Int32} {s0 : Int32}   (k : E x F d 193 259 [o0, o1, o2, o3, o4, o5, o6, o7, o8, o9, o10, some (.int l11)] [.int ((Int32.ofInt 1) <<< (l11 &&& 31)), .int s0] (V, T) Q) : E x F d 193 251 [o0, o1, o2, o3, o4, o5, o6, o7, o8, o9, o10, some (.int l11)] [.int s0] (V, T) Q := by
  refine e_iconst zd193_251 ?_
  refine e_iload zd193_252 rfl ?_
  refine e_ishl zd193_254 ?_
  exact e_goto zd193_255 (tg := 259) rfl k
theorem b193_258 {x : zXs} {F : zF} (hF : zSh F) {d : Nat} {V : Nat → Nat → Int32} {T : Nat → Nat → Int64} {Q : Option Value → zG → Prop} {o0 : Option Value} {o1 : Option Value} {o2 : Option Value} {o3 : Option Value} {o4 : Option Value} {o5 : Option Value} {o6 : Option Value} {o7 : Option Value} {o8 : Option Value} {o9 : Option Value} {o10 : Option Value} {o11 : Option Value} {s0 : Int32}   (k : E x F d 193 259 [o0, o1, o2, o3, o4, o5, o6, o7, o8, o9, o10, o11] [.int (Int32.ofInt 0), .int s0] (V, T) Q) : E x F d 193 258 [o0, o1, o2, o3, o4, o5, o6, o7, o8, o9, o10, o11] [.int s0] (V, T) Q := by
  refine e_iconst zd193_258 ?_
  exact k
theorem b193_259 {x : zXs} {F : zF} (hF : zSh F) {d : Nat} {V : Nat → Nat → Int32} {T : Nat → Nat → Int64} {Q : Option Value → zG → Prop} {o0 : Option Value} {o1 : Option Value} {o2 : Option Value} {o3 : Option Value} {o4 : Option Value} {o5 : Option Value} {o6 : Option Value} {o7 : Option Value} {o8 : Option Value} {l9 : Int32} {o10 : Option Value} {l11 : Int32} {s0 : Int32} {s1 : Int32}   (k : E x F d 193 269 [o0, o1, o2, o3, o4, o5, o6, o7, some (.int (s0 ||| s1)), some (.int (l9 + Int32.ofInt 1)), some (.int l11), some (.int l11)] [] (V, T) Q) : E x F d 193 259 [o0, o1, o2, o3, o4, o5, o6, o7, o8, some (.int l9), o10, some (.int l11)] [.int s1, .int s0] (V, T) Q := by
  refine e_ior zd193_259 ?_
  refine e_istore zd193_260 (by decide +kernel) (Nat.le_of_ble_eq_true rfl) ?_
  refine e_iinc zd193_262 rfl (by decide +kernel) ?_
  refine e_iload zd193_265 rfl ?_
  refine e_istore zd193_267 (by decide +kernel) (Nat.le_of_ble_eq_true rfl) ?_
  exact k
theorem b193_269 {x : zXs} {F : zF} (hF : zSh F) {d : Nat} {V : Nat → Nat → Int32} {T : Nat → Nat → Int64} {Q : Option Value → zG → Prop} {o0 : Option Value} {o1 : Option Value} {o2 : Option Value} {o3 : Option Value} {o4 : Option Value} {o5 : Option Value} {o6 : Option Value} {o7 : Option Value} {o8 : Option Value} {o9 : Option Value} {o10 : Option Value} {l11 : Int32}   (k : E x F d 193 217 [o0, o1, o2, o3, o4, o5, o6, o7, o8, o9, o10, some (.int (l11 + Int32.ofInt (-1)))] [] (V, T) Q) : E x F d 193 269 [o0, o1, o2, o3, o4, o5, o6, o7, o8, o9, o10, some (.int l11)] [] (V, T) Q := by
  refine e_iinc zd193_269 rfl (by decide +kernel) ?_
  exact e_goto zd193_272 (tg := 217) rfl k
theorem b193_275 {x : zXs} {F : zF} (hF : zSh F) {d : Nat} {V : Nat → Nat → Int32} {T : Nat → Nat → Int64} {Q : Option Value → zG → Prop} {o1 : Option Value} {l2 : Int32} {o3 : Option Value} {o4 : Option Value} {l5 : Int32} {l6 : Int32} {o7 : Option Value} {o8 : Option Value} {o9 : Option Value} {o10 : Option Value} {o11 : Option Value}   (k : E x F d 162 0 [some (.ref 59), some (.int l5), some (.int l2), some (.int l6)] [] (V, T) (fun r G' => E x F (d + 1) 193 284 [some (.ref 59), o1, some (.int l2), o3, o4, some (.int l5), some (.int l6), o7, o8, o9, o10, o11] (r.toList ++ []) G' Q)) : E x F (d + 1) 193 275 [some (.ref 59), o1, some (.int l2), o3, o4, some (.int l5), some (.int l6), o7, o8, o9, o10, o11] [] (V, T) Q := by
  refine e_aload_n zd193_275 rfl rfl ?_
  refine e_iload zd193_276 rfl ?_
  refine e_iload_n zd193_278 rfl ?_
  refine e_iload zd193_279 rfl ?_
  exact e_callV zd193_281 (own := 8) (nest := false) (w := 1134) (by decide +kernel) (by decide +kernel) zs162 (as := [.int l5, .int l2, .int l6]) (rest := []) rfl rfl (zsh_at hF rfl).1 (by omega) (Nat.le_of_ble_eq_true rfl) rfl rfl rfl (by omega) k
theorem b193_284 {x : zXs} {F : zF} (hF : zSh F) {d : Nat} {V : Nat → Nat → Int32} {T : Nat → Nat → Int64} {Q : Option Value → zG → Prop} {o0 : Option Value} {o1 : Option Value} {o2 : Option Value} {o3 : Option Value} {l4 : Int32} {o5 : Option Value} {o6 : Option Value} {o7 : Option Value} {o8 : Option Value} {o9 : Option Value} {o10 : Option Value} {o11 : Option Value}   (kt : ¬ l4 = (Int32.ofInt 3) → E x F d 193 295 [o0, o1, o2, o3, some (.int l4), o5, o6, o7, o8, o9, o10, o11] [] (V, T) Q) (kf : ¬ (¬ l4 = (Int32.ofInt 3)) → E x F d 193 290 [o0, o1, o2, o3, some (.int l4), o5, o6, o7, o8, o9, o10, o11] [] (V, T) Q) : E x F d 193 284 [o0, o1, o2, o3, some (.int l4), o5, o6, o7, o8, o9, o10, o11] [] (V, T) Q := by
  refine e_iload zd193_284 rfl ?_
  refine e_iconst zd193_286 ?_
  exact e_icmp_ne zd193_287 (tg := 295) rfl kt kf
theorem b193_290 {x : zXs} {F : zF} (hF : zSh F) {d : Nat} {V : Nat → Nat → Int32} {T : Nat → Nat → Int64} {Q : Option Value → zG → Prop} {o0 : Option Value} {o1 : Option Value} {o2 : Option Value} {o3 : Option Value} {o4 : Option Value} {o5 : Option Value} {o6 : Option Value} {o7 : Option Value} {o8 : Option Value} {l9 : Int32} {o10 : Option Value} {o11 : Option Value}   (k : E x F d 193 308 [o0, o1, o2, o3, o4, o5, o6, o7, o8, some (.int l9), o10, o11] [.int l9] (V, T) Q) : E x F d 193 290 [o0, o1, o2, o3, o4, o5, o6, o7, o8, some (.int l9), o10, o11] [] (V, T) Q := by
  refine e_iload zd193_290 rfl ?_
  exact e_goto zd193_292 (tg := 308) rfl k
theorem b193_295 {x : zXs} {F : zF} (hF : zSh F) {d : Nat} {V : Nat → Nat → Int32} {T : Nat → Nat → Int64} {Q : Option Value → zG → Prop} {o0 : Option Value} {o1 : Option Value} {o2 : Option Value} {o3 : Option Value} {l4 : Int32} {o5 : Option Value} {o6 : Option Value} {o7 : Option Value} {o8 : Option Value} {o9 : Option Value} {o10 : Option Value} {o11 : Option Value}   (kt : ¬ l4 = (Int32.ofInt 4) → E x F d 193 306 [o0, o1, o2, o3, some (.int l4), o5, o6, o7, o8, o9, o10, o11] [] (V, T) Q) (kf : ¬ (¬ l4 = (Int32.ofInt 4)) → E x F d 193 301 [o0, o1, o2, o3, some (.int l4), o5, o6, o7, o8, o9, o10, o11] [] (V, T) Q) : E x F d 193 295 [o0, o1, o2, o3, some (.int l4), o5, o6, o7, o8, o9, o10, o11] [] (V, T) Q := by
  refine e_iload zd193_295 rfl ?_
  refine e_iconst zd193_297 ?_
  exact e_icmp_ne zd193_298 (tg := 306) rfl kt kf
theorem b193_301 {x : zXs} {F : zF} (hF : zSh F) {d : Nat} {V : Nat → Nat → Int32} {T : Nat → Nat → Int64} {Q : Option Value → zG → Prop} {o0 : Option Value} {o1 : Option Value} {o2 : Option Value} {o3 : Option Value} {o4 : Option Value} {o5 : Option Value} {o6 : Option Value} {o7 : Option Value} {o8 : Option Value} {o9 : Option Value} {l10 : Int32} {o11 : Option Value}   (k : E x F d 193 308 [o0, o1, o2, o3, o4, o5, o6, o7, o8, o9, some (.int l10), o11] [.int l10] (V, T) Q) : E x F d 193 301 [o0, o1, o2, o3, o4, o5, o6, o7, o8, o9, some (.int l10), o11] [] (V, T) Q := by
  refine e_iload zd193_301 rfl ?_
  exact e_goto zd193_303 (tg := 308) rfl k
theorem b193_306 {x : zXs} {F : zF} (hF : zSh F) {d : Nat} {V : Nat → Nat → Int32} {T : Nat → Nat → Int64} {Q : Option Value → zG → Prop} {o0 : Option Value} {o1 : Option Value} {o2 : Option Value} {o3 : Option Value} {o4 : Option Value} {o5 : Option Value} {o6 : Option Value} {o7 : Option Value} {l8 : Int32} {o9 : Option Value} {o10 : Option Value} {o11 : Option Value}   (k : E x F d 193 308 [o0, o1, o2, o3, o4, o5, o6, o7, some (.int l8), o9, o10, o11] [.int l8] (V, T) Q) : E x F d 193 306 [o0, o1, o2, o3, o4, o5, o6, o7, some (.int l8), o9, o10, o11] [] (V, T) Q := by
  refine e_iload zd193_306 rfl ?_
  exact k
theorem b193_308 {x : zXs} {F : zF} (hF : zSh F) {d : Nat} {V : Nat → Nat → Int32} {T : Nat → Nat → Int64} {Q : Option Value → zG → Prop} {o0 : Option Value} {o1 : Option Value} {o2 : Option Value} {o3 : Option Value} {o4 : Option Value} {o5 : Option Value} {o6 : Option Value} {o7 : Option Value} {o8 : Option Value} {o9 : Option Value} {o10 : Option Value} {o11 : Option Value} {s0 : Int32}   (k : Q (some (.int s0)) (V, T)) : E x F d 193 308 [o0, o1, o2, o3, o4, o5, o6, o7, o8, o9, o10, o11] [.int s0] (V, T) Q := by
  exact e_ireti zd193_308 zs193 k
theorem zd194_0 : zop 194 0 = some (.iload_n 0, 1) := by decide +kernel
theorem zd194_1 : zop 194 1 = some (.i2l, 1) := by decide +kernel
theorem zd194_2 : zop 194 2 = some (.lconst 0, 1) := by decide +kernel
theorem zd194_3 : zop 194 3 = some (.ldc2_w 95, 3) := by decide +kernel
theorem zd194_6 : zop 194 6 = some (.invokestatic 91, 3) := by decide +kernel
theorem zd194_9 : zop 194 9 = some (.ireturn, 1) := by decide +kernel
theorem b194_0 {x : zXs} {F : zF} (hF : zSh F) {d : Nat} {V : Nat → Nat → Int32} {T : Nat → Nat → Int64} {Q : Option Value → zG → Prop} {l0 : Int32}   (k : E x F d 132 0 [some (.long l0.toInt64), none, some (.long 0), none, some (.long (3 : Int64)), none] [] (V, T) (fun r G' => E x F (d + 1) 194 9 [some (.int l0)] (r.toList ++ []) G' Q)) : E x F (d + 1) 194 0 [some (.int l0)] [] (V, T) Q := by
  refine e_iload_n zd194_0 rfl ?_
  refine e_i2l zd194_1 ?_
  refine e_lconst zd194_2 (v := 0) rfl ?_
  refine e_ldc2 zd194_3 (own := 8) (w := 1008) (v := 3) (by decide +kernel) (by decide +kernel) ?_
  exact e_callS zd194_6 (own := 8) (nest := false) (w := 1009) (by decide +kernel) (by decide +kernel) zs132 (as := [.long l0.toInt64, .long 0, .long (3 : Int64)]) (rest := []) rfl rfl (Nat.le_of_ble_eq_true rfl) rfl rfl rfl (by omega) k
theorem b194_9 {x : zXs} {F : zF} (hF : zSh F) {d : Nat} {V : Nat → Nat → Int32} {T : Nat → Nat → Int64} {Q : Option Value → zG → Prop} {o0 : Option Value} {s0 : Int32}  (b1 : narrow .boolean (.int s0) = .int s0) (k : Q (some (.int s0)) (V, T)) : E x F d 194 9 [o0] [.int s0] (V, T) Q := by
  exact e_iretz zd194_9 zs194 b1 k
theorem zd195_0 : zop 195 0 = some (.aload_n 0, 1) := by decide +kernel
theorem zd195_1 : zop 195 1 = some (.invokevirtual 297, 3) := by decide +kernel
theorem zd195_4 : zop 195 4 = some (.aload_n 0, 1) := by decide +kernel
theorem zd195_5 : zop 195 5 = some (.iload_n 2, 1) := by decide +kernel
theorem zd195_6 : zop 195 6 = some (.iload_n 3, 1) := by decide +kernel
theorem zd195_7 : zop 195 7 = some (.invokevirtual 285, 3) := by decide +kernel
theorem zd195_10 : zop 195 10 = some (.pop, 1) := by decide +kernel
theorem zd195_11 : zop 195 11 = some (.aload_n 0, 1) := by decide +kernel
theorem zd195_12 : zop 195 12 = some (.invokevirtual 300, 3) := by decide +kernel
theorem zd195_15 : zop 195 15 = some (.iconst 0, 1) := by decide +kernel
theorem zd195_16 : zop 195 16 = some (.istore 4, 2) := by decide +kernel
theorem zd195_18 : zop 195 18 = some (.iload 4, 2) := by decide +kernel
theorem zd195_20 : zop 195 20 = some (.aload_n 0, 1) := by decide +kernel
theorem zd195_21 : zop 195 21 = some (.getfield 75, 3) := by decide +kernel
theorem zd195_24 : zop 195 24 = some (.iload_n 1, 1) := by decide +kernel
theorem zd195_25 : zop 195 25 = some (.iaload, 1) := by decide +kernel
theorem zd195_26 : zop 195 26 = some (.if_icmp .ge 34, 3) := by decide +kernel
theorem zd195_29 : zop 195 29 = some (.aload_n 0, 1) := by decide +kernel
theorem zd195_30 : zop 195 30 = some (.getfield 41, 3) := by decide +kernel
theorem zd195_33 : zop 195 33 = some (.iload 4, 2) := by decide +kernel
theorem zd195_35 : zop 195 35 = some (.iaload, 1) := by decide +kernel
theorem zd195_36 : zop 195 36 = some (.aload_n 0, 1) := by decide +kernel
theorem zd195_37 : zop 195 37 = some (.getfield 78, 3) := by decide +kernel
theorem zd195_40 : zop 195 40 = some (.bipush 40, 2) := by decide +kernel
theorem zd195_42 : zop 195 42 = some (.iload_n 1, 1) := by decide +kernel
theorem zd195_43 : zop 195 43 = some (.imul, 1) := by decide +kernel
theorem zd195_44 : zop 195 44 = some (.iload 4, 2) := by decide +kernel
theorem zd195_46 : zop 195 46 = some (.iadd, 1) := by decide +kernel
theorem zd195_47 : zop 195 47 = some (.iaload, 1) := by decide +kernel
theorem zd195_48 : zop 195 48 = some (.if_icmp .eq 6, 3) := by decide +kernel
theorem zd195_51 : zop 195 51 = some (.iload 4, 2) := by decide +kernel
theorem zd195_53 : zop 195 53 = some (.ireturn, 1) := by decide +kernel
theorem zd195_54 : zop 195 54 = some (.iinc 4 1, 3) := by decide +kernel
theorem zd195_57 : zop 195 57 = some (.goto (-39), 3) := by decide +kernel
theorem zd195_60 : zop 195 60 = some (.iconst (-1), 1) := by decide +kernel
theorem zd195_61 : zop 195 61 = some (.ireturn, 1) := by decide +kernel
theorem b195_0 {x : zXs} {F : zF} (hF : zSh F) {d : Nat} {V : Nat → Nat → Int32} {T : Nat → Nat → Int64} {Q : Option Value → zG → Prop} {o1 : Option Value} {o2 : Option Value} {o3 : Option Value} {o4 : Option Value}   (k : E x F d 180 0 [some (.ref 59), none] [] (V, T) (fun r G' => E x F (d + 1) 195 4 [some (.ref 59), o1, o2, o3, o4] (r.toList ++ []) G' Q)) : E x F (d + 1) 195 0 [some (.ref 59), o1, o2, o3, o4] [] (V, T) Q := by
  refine e_aload_n zd195_0 rfl rfl ?_
  exact e_callV zd195_1 (own := 8) (nest := false) (w := 1210) (by decide +kernel) (by decide +kernel) zs180 (as := []) (rest := []) rfl rfl (zsh_at hF rfl).1 (by omega) (Nat.le_of_ble_eq_true rfl) rfl rfl rfl (by omega) k
theorem b195_4 {x : zXs} {F : zF} (hF : zSh F) {d : Nat} {V : Nat → Nat → Int32} {T : Nat → Nat → Int64} {Q : Option Value → zG → Prop} {o1 : Option Value} {l2 : Int32} {l3 : Int32} {o4 : Option Value}   (k : E x F d 171 0 [some (.ref 59), some (.int l2), some (.int l3), none, none, none, none, none] [] (V, T) (fun r G' => E x F (d + 1) 195 10 [some (.ref 59), o1, some (.int l2), some (.int l3), o4] (r.toList ++ []) G' Q)) : E x F (d + 1) 195 4 [some (.ref 59), o1, some (.int l2), some (.int l3), o4] [] (V, T) Q := by
  refine e_aload_n zd195_4 rfl rfl ?_
  refine e_iload_n zd195_5 rfl ?_
  refine e_iload_n zd195_6 rfl ?_
  exact e_callV zd195_7 (own := 8) (nest := false) (w := 1174) (by decide +kernel) (by decide +kernel) zs171 (as := [.int l2, .int l3]) (rest := []) rfl rfl (zsh_at hF rfl).1 (by omega) (Nat.le_of_ble_eq_true rfl) rfl rfl rfl (by omega) k
theorem b195_10 {x : zXs} {F : zF} (hF : zSh F) {d : Nat} {V : Nat → Nat → Int32} {T : Nat → Nat → Int64} {Q : Option Value → zG → Prop} {o1 : Option Value} {o2 : Option Value} {o3 : Option Value} {o4 : Option Value} {s0 : Int32}   (k : E x F d 181 0 [some (.ref 59), none] [] (V, T) (fun r G' => E x F (d + 1) 195 15 [some (.ref 59), o1, o2, o3, o4] (r.toList ++ []) G' Q)) : E x F (d + 1) 195 10 [some (.ref 59), o1, o2, o3, o4] [.int s0] (V, T) Q := by
  refine e_pop zd195_10 rfl ?_
  refine e_aload_n zd195_11 rfl rfl ?_
  exact e_callV zd195_12 (own := 8) (nest := false) (w := 1214) (by decide +kernel) (by decide +kernel) zs181 (as := []) (rest := []) rfl rfl (zsh_at hF rfl).1 (by omega) (Nat.le_of_ble_eq_true rfl) rfl rfl rfl (by omega) k
theorem b195_15 {x : zXs} {F : zF} (hF : zSh F) {d : Nat} {V : Nat → Nat → Int32} {T : Nat → Nat → Int64} {Q : Option Value → zG → Prop} {o0 : Option Value} {o1 : Option Value} {o2 : Option Value} {o3 : Option Value} {o4 : Option Value}   (k : E x F d 195 18 [o0, o1, o2, o3, some (.int (Int32.ofInt 0))] [] (V, T) Q) : E x F d 195 15 [o0, o1, o2, o3, o4] [] (V, T) Q := by
  refine e_iconst zd195_15 ?_
  refine e_istore zd195_16 (by decide +kernel) (Nat.le_of_ble_eq_true rfl) ?_
  exact k
theorem b195_18 {x : zXs} {F : zF} (hF : zSh F) {d : Nat} {V : Nat → Nat → Int32} {T : Nat → Nat → Int64} {Q : Option Value → zG → Prop} {l1 : Int32} {o2 : Option Value} {o3 : Option Value} {l4 : Int32}  {i1 : Nat} (e1 : l1 = nI i1) (h1 : i1 < 4) (kt : (V 79 i1) ≤ l4 → E x F d 195 60 [some (.ref 59), some (.int l1), o2, o3, some (.int l4)] [] (V, T) Q) (kf : ¬ ((V 79 i1) ≤ l4) → E x F d 195 29 [some (.ref 59), some (.int l1), o2, o3, some (.int l4)] [] (V, T) Q) : E x F d 195 18 [some (.ref 59), some (.int l1), o2, o3, some (.int l4)] [] (V, T) Q := by
  refine e_iload zd195_18 rfl ?_
  refine e_aload_n zd195_20 rfl rfl ?_
  refine e_getA zd195_21 (own := 8) (ci := 8) (kf := 45) (w := 903) (by decide +kernel) (by decide +kernel) (zsh_at hF rfl).1 (by decide +kernel) rfl (zrf_at hF (i := 78) rfl) ?_
  refine e_iload_n zd195_24 rfl ?_
  refine e_iald zd195_25 (i := i1) (zsh_at hF rfl) e1 h1 (by omega) ?_
  exact e_icmp_ge zd195_26 (tg := 60) rfl kt kf
theorem b195_29 {x : zXs} {F : zF} (hF : zSh F) {d : Nat} {V : Nat → Nat → Int32} {T : Nat → Nat → Int64} {Q : Option Value → zG → Prop} {l1 : Int32} {o2 : Option Value} {o3 : Option Value} {l4 : Int32}  {i1 : Nat} (e1 : l4 = nI i1) (h1 : i1 < 24) {i2 : Nat} (e2 : ((Int32.ofInt 40) * l1) + l4 = nI i2) (h2 : i2 < 160) (kt : (V 69 i1) = (V 80 i2) → E x F d 195 54 [some (.ref 59), some (.int l1), o2, o3, some (.int l4)] [] (V, T) Q) (kf : ¬ ((V 69 i1) = (V 80 i2)) → E x F d 195 51 [some (.ref 59), some (.int l1), o2, o3, some (.int l4)] [] (V, T) Q) : E x F d 195 29 [some (.ref 59), some (.int l1), o2, o3, some (.int l4)] [] (V, T) Q := by
  refine e_aload_n zd195_29 rfl rfl ?_
  refine e_getA zd195_30 (own := 8) (ci := 8) (kf := 30) (w := 888) (by decide +kernel) (by decide +kernel) (zsh_at hF rfl).1 (by decide +kernel) rfl (zrf_at hF (i := 68) rfl) ?_
  refine e_iload zd195_33 rfl ?_
  refine e_iald zd195_35 (i := i1) (zsh_at hF rfl) e1 h1 (by omega) ?_
  refine e_aload_n zd195_36 rfl rfl ?_
  refine e_getA zd195_37 (own := 8) (ci := 8) (kf := 46) (w := 904) (by decide +kernel) (by decide +kernel) (zsh_at hF rfl).1 (by decide +kernel) rfl (zrf_at hF (i := 79) rfl) ?_
  refine e_bipush zd195_40 (v := Int32.ofInt 40) (by decide +kernel) ?_
  refine e_iload_n zd195_42 rfl ?_
  refine e_imul zd195_43 ?_
  refine e_iload zd195_44 rfl ?_
  refine e_iadd zd195_46 ?_
  refine e_iald zd195_47 (i := i2) (zsh_at hF rfl) e2 h2 (by omega) ?_
  exact e_icmp_eq zd195_48 (tg := 54) rfl kt kf
theorem b195_51 {x : zXs} {F : zF} (hF : zSh F) {d : Nat} {V : Nat → Nat → Int32} {T : Nat → Nat → Int64} {Q : Option Value → zG → Prop} {o0 : Option Value} {o1 : Option Value} {o2 : Option Value} {o3 : Option Value} {l4 : Int32}   (k : Q (some (.int l4)) (V, T)) : E x F d 195 51 [o0, o1, o2, o3, some (.int l4)] [] (V, T) Q := by
  refine e_iload zd195_51 rfl ?_
  exact e_ireti zd195_53 zs195 k
theorem b195_54 {x : zXs} {F : zF} (hF : zSh F) {d : Nat} {V : Nat → Nat → Int32} {T : Nat → Nat → Int64} {Q : Option Value → zG → Prop} {o0 : Option Value} {o1 : Option Value} {o2 : Option Value} {o3 : Option Value} {l4 : Int32}   (k : E x F d 195 18 [o0, o1, o2, o3, some (.int (l4 + Int32.ofInt 1))] [] (V, T) Q) : E x F d 195 54 [o0, o1, o2, o3, some (.int l4)] [] (V, T) Q := by
  refine e_iinc zd195_54 rfl (by decide +kernel) ?_
  exact e_goto zd195_57 (tg := 18) rfl k
theorem b195_60 {x : zXs} {F : zF} (hF : zSh F) {d : Nat} {V : Nat → Nat → Int32} {T : Nat → Nat → Int64} {Q : Option Value → zG → Prop} {o0 : Option Value} {o1 : Option Value} {o2 : Option Value} {o3 : Option Value} {o4 : Option Value}   (k : Q (some (.int (Int32.ofInt (-1)))) (V, T)) : E x F d 195 60 [o0, o1, o2, o3, o4] [] (V, T) Q := by
  refine e_iconst zd195_60 ?_
  exact e_ireti zd195_61 zs195 k
theorem zd196_0 : zop 196 0 = some (.iconst 0, 1) := by decide +kernel
theorem zd196_1 : zop 196 1 = some (.istore_n 3, 1) := by decide +kernel
theorem zd196_2 : zop 196 2 = some (.iconst 0, 1) := by decide +kernel
theorem zd196_3 : zop 196 3 = some (.istore 4, 2) := by decide +kernel
theorem zd196_5 : zop 196 5 = some (.iload 4, 2) := by decide +kernel
theorem zd196_7 : zop 196 7 = some (.aload_n 0, 1) := by decide +kernel
theorem zd196_8 : zop 196 8 = some (.getfield 88, 3) := by decide +kernel
theorem zd196_11 : zop 196 11 = some (.if_icmp .ge 32, 3) := by decide +kernel
theorem zd196_14 : zop 196 14 = some (.iload_n 3, 1) := by decide +kernel
theorem zd196_15 : zop 196 15 = some (.aload_n 0, 1) := by decide +kernel
theorem zd196_16 : zop 196 16 = some (.iload_n 1, 1) := by decide +kernel
theorem zd196_17 : zop 196 17 = some (.iload 4, 2) := by decide +kernel
theorem zd196_19 : zop 196 19 = some (.iload_n 2, 1) := by decide +kernel
theorem zd196_20 : zop 196 20 = some (.invokevirtual 336, 3) := by decide +kernel
theorem zd196_23 : zop 196 23 = some (.iconst (-1), 1) := by decide +kernel
theorem zd196_24 : zop 196 24 = some (.if_icmp .ne 7, 3) := by decide +kernel
theorem zd196_27 : zop 196 27 = some (.iconst 1, 1) := by decide +kernel
theorem zd196_28 : zop 196 28 = some (.goto 4, 3) := by decide +kernel
theorem zd196_31 : zop 196 31 = some (.iconst 0, 1) := by decide +kernel
theorem zd196_32 : zop 196 32 = some (.iload 4, 2) := by decide +kernel
theorem zd196_34 : zop 196 34 = some (.ishl, 1) := by decide +kernel
theorem zd196_35 : zop 196 35 = some (.ior, 1) := by decide +kernel
theorem zd196_36 : zop 196 36 = some (.istore_n 3, 1) := by decide +kernel
theorem zd196_37 : zop 196 37 = some (.iinc 4 1, 3) := by decide +kernel
theorem zd196_40 : zop 196 40 = some (.goto (-35), 3) := by decide +kernel
theorem zd196_43 : zop 196 43 = some (.iload_n 3, 1) := by decide +kernel
theorem zd196_44 : zop 196 44 = some (.ireturn, 1) := by decide +kernel
theorem b196_0 {x : zXs} {F : zF} (hF : zSh F) {d : Nat} {V : Nat → Nat → Int32} {T : Nat → Nat → Int64} {Q : Option Value → zG → Prop} {o0 : Option Value} {o1 : Option Value} {o2 : Option Value} {o3 : Option Value} {o4 : Option Value}   (k : E x F d 196 5 [o0, o1, o2, some (.int (Int32.ofInt 0)), some (.int (Int32.ofInt 0))] [] (V, T) Q) : E x F d 196 0 [o0, o1, o2, o3, o4] [] (V, T) Q := by
  refine e_iconst zd196_0 ?_
  refine e_istore_n zd196_1 (by decide +kernel) (Nat.le_of_ble_eq_true rfl) ?_
  refine e_iconst zd196_2 ?_
  refine e_istore zd196_3 (by decide +kernel) (Nat.le_of_ble_eq_true rfl) ?_
  exact k
theorem b196_5 {x : zXs} {F : zF} (hF : zSh F) {d : Nat} {V : Nat → Nat → Int32} {T : Nat → Nat → Int64} {Q : Option Value → zG → Prop} {o1 : Option Value} {o2 : Option Value} {o3 : Option Value} {l4 : Int32}   (kt : (V 59 12) ≤ l4 → E x F d 196 43 [some (.ref 59), o1, o2, o3, some (.int l4)] [] (V, T) Q) (kf : ¬ ((V 59 12) ≤ l4) → E x F d 196 14 [some (.ref 59), o1, o2, o3, some (.int l4)] [] (V, T) Q) : E x F d 196 5 [some (.ref 59), o1, o2, o3, some (.int l4)] [] (V, T) Q := by
  refine e_iload zd196_5 rfl ?_
  refine e_aload_n zd196_7 rfl rfl ?_
  refine e_getI zd196_8 (own := 8) (ci := 8) (kf := 12) (w := 870) (by decide +kernel) (by decide +kernel) (zsh_at hF rfl).1 (by decide +kernel) rfl ?_
  exact e_icmp_ge zd196_11 (tg := 43) rfl kt kf
theorem b196_14 {x : zXs} {F : zF} (hF : zSh F) {d : Nat} {V : Nat → Nat → Int32} {T : Nat → Nat → Int64} {Q : Option Value → zG → Prop} {l1 : Int32} {l2 : Int32} {l3 : Int32} {l4 : Int32}   (k : E x F d 195 0 [some (.ref 59), some (.int l1), some (.int l4), some (.int l2), none] [] (V, T) (fun r G' => E x F (d + 1) 196 23 [some (.ref 59), some (.int l1), some (.int l2), some (.int l3), some (.int l4)] (r.toList ++ [.int l3]) G' Q)) : E x F (d + 1) 196 14 [some (.ref 59), some (.int l1), some (.int l2), some (.int l3), some (.int l4)] [] (V, T) Q := by
  refine e_iload_n zd196_14 rfl ?_
  refine e_aload_n zd196_15 rfl rfl ?_
  refine e_iload_n zd196_16 rfl ?_
  refine e_iload zd196_17 rfl ?_
  refine e_iload_n zd196_19 rfl ?_
  exact e_callV zd196_20 (own := 8) (nest := false) (w := 1272) (by decide +kernel) (by decide +kernel) zs195 (as := [.int l1, .int l4, .int l2]) (rest := [.int l3]) rfl rfl (zsh_at hF rfl).1 (by omega) (Nat.le_of_ble_eq_true rfl) rfl rfl rfl (by omega) k
theorem b196_23 {x : zXs} {F : zF} (hF : zSh F) {d : Nat} {V : Nat → Nat → Int32} {T : Nat → Nat → Int64} {Q : Option Value → zG → Prop} {o0 : Option Value} {o1 : Option Value} {o2 : Option Value} {o3 : Option Value} {o4 : Option Value} {s0 : Int32} {s1 : Int32}   (kt : ¬ s1 = (Int32.ofInt (-1)) → E x F d 196 31 [o0, o1, o2, o3, o4] [.int s0] (V, T) Q) (kf : ¬ (¬ s1 = (Int32.ofInt (-1))) → E x F d 196 27 [o0, o1, o2, o3, o4] [.int s0] (V, T) Q) : E x F d 196 23 [o0, o1, o2, o3, o4] [.int s1, .int s0] (V, T) Q := by
  refine e_iconst zd196_23 ?_
  exact e_icmp_ne zd196_24 (tg := 31) rfl kt kf
theorem b196_27 {x : zXs} {F : zF} (hF : zSh F) {d : Nat} {V : Nat → Nat → Int32} {T : Nat → Nat → Int64} {Q : Option Value → zG → Prop} {o0 : Option Value} {o1 : Option Value} {o2 : Option Value} {o3 : Option Value} {o4 : Option Value} {s0 : Int32}   (k : E x F d 196 32 [o0, o1, o2, o3, o4] [.int (Int32.ofInt 1), .int s0] (V, T) Q) : E x F d 196 27 [o0, o1, o2, o3, o4] [.int s0] (V, T) Q := by
  refine e_iconst zd196_27 ?_
  exact e_goto zd196_28 (tg := 32) rfl k
theorem b196_31 {x : zXs} {F : zF} (hF : zSh F) {d : Nat} {V : Nat → Nat → Int32} {T : Nat → Nat → Int64} {Q : Option Value → zG → Prop} {o0 : Option Value} {o1 : Option Value} {o2 : Option Value} {o3 : Option Value} {o4 : Option Value} {s0 : Int32}   (k : E x F d 196 32 [o0, o1, o2, o3, o4] [.int (Int32.ofInt 0), .int s0] (V, T) Q) : E x F d 196 31 [o0, o1, o2, o3, o4] [.int s0] (V, T) Q := by
  refine e_iconst zd196_31 ?_
  exact k
theorem b196_32 {x : zXs} {F : zF} (hF : zSh F) {d : Nat} {V : Nat → Nat → Int32} {T : Nat → Nat → Int64} {Q : Option Value → zG → Prop} {o0 : Option Value} {o1 : Option Value} {o2 : Option Value} {o3 : Option Value} {l4 : Int32} {s0 : Int32} {s1 : Int32}   (k : E x F d 196 5 [o0, o1, o2, some (.int (s0 ||| (s1 <<< (l4 &&& 31)))), some (.int (l4 + Int32.ofInt 1))] [] (V, T) Q) : E x F d 196 32 [o0, o1, o2, o3, some (.int l4)] [.int s1, .int s0] (V, T) Q := by
  refine e_iload zd196_32 rfl ?_
  refine e_ishl zd196_34 ?_
  refine e_ior zd196_35 ?_
  refine e_istore_n zd196_36 (by decide +kernel) (Nat.le_of_ble_eq_true rfl) ?_
  refine e_iinc zd196_37 rfl (by decide +kernel) ?_
  exact e_goto zd196_40 (tg := 5) rfl k
theorem b196_43 {x : zXs} {F : zF} (hF : zSh F) {d : Nat} {V : Nat → Nat → Int32} {T : Nat → Nat → Int64} {Q : Option Value → zG → Prop} {o0 : Option Value} {o1 : Option Value} {o2 : Option Value} {l3 : Int32} {o4 : Option Value}   (k : Q (some (.int l3)) (V, T)) : E x F d 196 43 [o0, o1, o2, some (.int l3), o4] [] (V, T) Q := by
  refine e_iload_n zd196_43 rfl ?_
  exact e_ireti zd196_44 zs196 k
theorem zd197_0 : zop 197 0 = some (.iconst 0, 1) := by decide +kernel
theorem zd197_1 : zop 197 1 = some (.istore_n 3, 1) := by decide +kernel
theorem zd197_2 : zop 197 2 = some (.iconst 0, 1) := by decide +kernel
theorem zd197_3 : zop 197 3 = some (.istore 4, 2) := by decide +kernel
theorem zd197_5 : zop 197 5 = some (.iload 4, 2) := by decide +kernel
theorem zd197_7 : zop 197 7 = some (.iconst 4, 1) := by decide +kernel
theorem zd197_8 : zop 197 8 = some (.if_icmp .ge 47, 3) := by decide +kernel
theorem zd197_11 : zop 197 11 = some (.iload_n 3, 1) := by decide +kernel
theorem zd197_12 : zop 197 12 = some (.aload_n 0, 1) := by decide +kernel
theorem zd197_13 : zop 197 13 = some (.iload 4, 2) := by decide +kernel
theorem zd197_15 : zop 197 15 = some (.invokevirtual 141, 3) := by decide +kernel
theorem zd197_18 : zop 197 18 = some (.aload_n 0, 1) := by decide +kernel
theorem zd197_19 : zop 197 19 = some (.getfield 75, 3) := by decide +kernel
theorem zd197_22 : zop 197 22 = some (.iload_n 1, 1) := by decide +kernel
theorem zd197_23 : zop 197 23 = some (.iaload, 1) := by decide +kernel
theorem zd197_24 : zop 197 24 = some (.if_icmp .lt 19, 3) := by decide +kernel
theorem zd197_27 : zop 197 27 = some (.aload_n 0, 1) := by decide +kernel
theorem zd197_28 : zop 197 28 = some (.iload_n 1, 1) := by decide +kernel
theorem zd197_29 : zop 197 29 = some (.iload_n 2, 1) := by decide +kernel
theorem zd197_30 : zop 197 30 = some (.iload 4, 2) := by decide +kernel
theorem zd197_32 : zop 197 32 = some (.invokevirtual 336, 3) := by decide +kernel
theorem zd197_35 : zop 197 35 = some (.iconst (-1), 1) := by decide +kernel
theorem zd197_36 : zop 197 36 = some (.if_icmp .ne 7, 3) := by decide +kernel
theorem zd197_39 : zop 197 39 = some (.iconst 1, 1) := by decide +kernel
theorem zd197_40 : zop 197 40 = some (.goto 4, 3) := by decide +kernel
theorem zd197_43 : zop 197 43 = some (.iconst 0, 1) := by decide +kernel
theorem zd197_44 : zop 197 44 = some (.iload 4, 2) := by decide +kernel
theorem zd197_46 : zop 197 46 = some (.ishl, 1) := by decide +kernel
theorem zd197_47 : zop 197 47 = some (.ior, 1) := by decide +kernel
theorem zd197_48 : zop 197 48 = some (.istore_n 3, 1) := by decide +kernel
theorem zd197_49 : zop 197 49 = some (.iinc 4 1, 3) := by decide +kernel
theorem zd197_52 : zop 197 52 = some (.goto (-47), 3) := by decide +kernel
theorem zd197_55 : zop 197 55 = some (.iload_n 3, 1) := by decide +kernel
theorem zd197_56 : zop 197 56 = some (.ireturn, 1) := by decide +kernel
theorem b197_0 {x : zXs} {F : zF} (hF : zSh F) {d : Nat} {V : Nat → Nat → Int32} {T : Nat → Nat → Int64} {Q : Option Value → zG → Prop} {o0 : Option Value} {o1 : Option Value} {o2 : Option Value} {o3 : Option Value} {o4 : Option Value}   (k : E x F d 197 5 [o0, o1, o2, some (.int (Int32.ofInt 0)), some (.int (Int32.ofInt 0))] [] (V, T) Q) : E x F d 197 0 [o0, o1, o2, o3, o4] [] (V, T) Q := by
  refine e_iconst zd197_0 ?_
  refine e_istore_n zd197_1 (by decide +kernel) (Nat.le_of_ble_eq_true rfl) ?_
  refine e_iconst zd197_2 ?_
  refine e_istore zd197_3 (by decide +kernel) (Nat.le_of_ble_eq_true rfl) ?_
  exact k
theorem b197_5 {x : zXs} {F : zF} (hF : zSh F) {d : Nat} {V : Nat → Nat → Int32} {T : Nat → Nat → Int64} {Q : Option Value → zG → Prop} {o0 : Option Value} {o1 : Option Value} {o2 : Option Value} {o3 : Option Value} {l4 : Int32}   (kt : (Int32.ofInt 4) ≤ l4 → E x F d 197 55 [o0, o1, o2, o3, some (.int l4)] [] (V, T) Q) (kf : ¬ ((Int32.ofInt 4) ≤ l4) → E x F d 197 11 [o0, o1, o2, o3, some (.int l4)] [] (V, T) Q) : E x F d 197 5 [o0, o1, o2, o3, some (.int l4)] [] (V, T) Q := by
  refine e_iload zd197_5 rfl ?_
  refine e_iconst zd197_7 ?_
  exact e_icmp_ge zd197_8 (tg := 55) rfl kt kf
theorem b197_11 {x : zXs} {F : zF} (hF : zSh F) {d : Nat} {V : Nat → Nat → Int32} {T : Nat → Nat → Int64} {Q : Option Value → zG → Prop} {o1 : Option Value} {o2 : Option Value} {l3 : Int32} {l4 : Int32}   (k : E x F d 158 0 [some (.ref 59), some (.int l4), none, none] [] (V, T) (fun r G' => E x F (d + 1) 197 18 [some (.ref 59), o1, o2, some (.int l3), some (.int l4)] (r.toList ++ [.int l3]) G' Q)) : E x F (d + 1) 197 11 [some (.ref 59), o1, o2, some (.int l3), some (.int l4)] [] (V, T) Q := by
  refine e_iload_n zd197_11 rfl ?_
  refine e_aload_n zd197_12 rfl rfl ?_
  refine e_iload zd197_13 rfl ?_
  exact e_callV zd197_15 (own := 8) (nest := false) (w := 1118) (by decide +kernel) (by decide +kernel) zs158 (as := [.int l4]) (rest := [.int l3]) rfl rfl (zsh_at hF rfl).1 (by omega) (Nat.le_of_ble_eq_true rfl) rfl rfl rfl (by omega) k
theorem b197_18 {x : zXs} {F : zF} (hF : zSh F) {d : Nat} {V : Nat → Nat → Int32} {T : Nat → Nat → Int64} {Q : Option Value → zG → Prop} {l1 : Int32} {o2 : Option Value} {o3 : Option Value} {o4 : Option Value} {s0 : Int32} {s1 : Int32}  {i1 : Nat} (e1 : l1 = nI i1) (h1 : i1 < 4) (kt : s1 < (V 79 i1) → E x F d 197 43 [some (.ref 59), some (.int l1), o2, o3, o4] [.int s0] (V, T) Q) (kf : ¬ (s1 < (V 79 i1)) → E x F d 197 27 [some (.ref 59), some (.int l1), o2, o3, o4] [.int s0] (V, T) Q) : E x F d 197 18 [some (.ref 59), some (.int l1), o2, o3, o4] [.int s1, .int s0] (V, T) Q := by
  refine e_aload_n zd197_18 rfl rfl ?_
  refine e_getA zd197_19 (own := 8) (ci := 8) (kf := 45) (w := 903) (by decide +kernel) (by decide +kernel) (zsh_at hF rfl).1 (by decide +kernel) rfl (zrf_at hF (i := 78) rfl) ?_
  refine e_iload_n zd197_22 rfl ?_
  refine e_iald zd197_23 (i := i1) (zsh_at hF rfl) e1 h1 (by omega) ?_
  exact e_icmp_lt zd197_24 (tg := 43) rfl kt kf
theorem b197_27 {x : zXs} {F : zF} (hF : zSh F) {d : Nat} {V : Nat → Nat → Int32} {T : Nat → Nat → Int64} {Q : Option Value → zG → Prop} {l1 : Int32} {l2 : Int32} {o3 : Option Value} {l4 : Int32} {s0 : Int32}   (k : E x F d 195 0 [some (.ref 59), some (.int l1), some (.int l2), some (.int l4), none] [] (V, T) (fun r G' => E x F (d + 1) 197 35 [some (.ref 59), some (.int l1), some (.int l2), o3, some (.int l4)] (r.toList ++ [.int s0]) G' Q)) : E x F (d + 1) 197 27 [some (.ref 59), some (.int l1), some (.int l2), o3, some (.int l4)] [.int s0] (V, T) Q := by
  refine e_aload_n zd197_27 rfl rfl ?_
  refine e_iload_n zd197_28 rfl ?_
  refine e_iload_n zd197_29 rfl ?_
  refine e_iload zd197_30 rfl ?_
  exact e_callV zd197_32 (own := 8) (nest := false) (w := 1272) (by decide +kernel) (by decide +kernel) zs195 (as := [.int l1, .int l2, .int l4]) (rest := [.int s0]) rfl rfl (zsh_at hF rfl).1 (by omega) (Nat.le_of_ble_eq_true rfl) rfl rfl rfl (by omega) k
theorem b197_35 {x : zXs} {F : zF} (hF : zSh F) {d : Nat} {V : Nat → Nat → Int32} {T : Nat → Nat → Int64} {Q : Option Value → zG → Prop} {o0 : Option Value} {o1 : Option Value} {o2 : Option Value} {o3 : Option Value} {o4 : Option Value} {s0 : Int32} {s1 : Int32}   (kt : ¬ s1 = (Int32.ofInt (-1)) → E x F d 197 43 [o0, o1, o2, o3, o4] [.int s0] (V, T) Q) (kf : ¬ (¬ s1 = (Int32.ofInt (-1))) → E x F d 197 39 [o0, o1, o2, o3, o4] [.int s0] (V, T) Q) : E x F d 197 35 [o0, o1, o2, o3, o4] [.int s1, .int s0] (V, T) Q := by
  refine e_iconst zd197_35 ?_
  exact e_icmp_ne zd197_36 (tg := 43) rfl kt kf
theorem b197_39 {x : zXs} {F : zF} (hF : zSh F) {d : Nat} {V : Nat → Nat → Int32} {T : Nat → Nat → Int64} {Q : Option Value → zG → Prop} {o0 : Option Value} {o1 : Option Value} {o2 : Option Value} {o3 : Option Value} {o4 : Option Value} {s0 : Int32}   (k : E x F d 197 44 [o0, o1, o2, o3, o4] [.int (Int32.ofInt 1), .int s0] (V, T) Q) : E x F d 197 39 [o0, o1, o2, o3, o4] [.int s0] (V, T) Q := by
  refine e_iconst zd197_39 ?_
  exact e_goto zd197_40 (tg := 44) rfl k
theorem b197_43 {x : zXs} {F : zF} (hF : zSh F) {d : Nat} {V : Nat → Nat → Int32} {T : Nat → Nat → Int64} {Q : Option Value → zG → Prop} {o0 : Option Value} {o1 : Option Value} {o2 : Option Value} {o3 : Option Value} {o4 : Option Value} {s0 : Int32}   (k : E x F d 197 44 [o0, o1, o2, o3, o4] [.int (Int32.ofInt 0), .int s0] (V, T) Q) : E x F d 197 43 [o0, o1, o2, o3, o4] [.int s0] (V, T) Q := by
  refine e_iconst zd197_43 ?_
  exact k
theorem b197_44 {x : zXs} {F : zF} (hF : zSh F) {d : Nat} {V : Nat → Nat → Int32} {T : Nat → Nat → Int64} {Q : Option Value → zG → Prop} {o0 : Option Value} {o1 : Option Value} {o2 : Option Value} {o3 : Option Value} {l4 : Int32} {s0 : Int32} {s1 : Int32}   (k : E x F d 197 5 [o0, o1, o2, some (.int (s0 ||| (s1 <<< (l4 &&& 31)))), some (.int (l4 + Int32.ofInt 1))] [] (V, T) Q) : E x F d 197 44 [o0, o1, o2, o3, some (.int l4)] [.int s1, .int s0] (V, T) Q := by
  refine e_iload zd197_44 rfl ?_
  refine e_ishl zd197_46 ?_
  refine e_ior zd197_47 ?_
  refine e_istore_n zd197_48 (by decide +kernel) (Nat.le_of_ble_eq_true rfl) ?_
  refine e_iinc zd197_49 rfl (by decide +kernel) ?_
  exact e_goto zd197_52 (tg := 5) rfl k
theorem b197_55 {x : zXs} {F : zF} (hF : zSh F) {d : Nat} {V : Nat → Nat → Int32} {T : Nat → Nat → Int64} {Q : Option Value → zG → Prop} {o0 : Option Value} {o1 : Option Value} {o2 : Option Value} {l3 : Int32} {o4 : Option Value}   (k : Q (some (.int l3)) (V, T)) : E x F d 197 55 [o0, o1, o2, some (.int l3), o4] [] (V, T) Q := by
  refine e_iload_n zd197_55 rfl ?_
  exact e_ireti zd197_56 zs197 k
theorem zd198_0 : zop 198 0 = some (.iload_n 1, 1) := by decide +kernel
theorem zd198_1 : zop 198 1 = some (.invokestatic 339, 3) := by decide +kernel
theorem zd198_4 : zop 198 4 = some (.ifCond .eq 18, 3) := by decide +kernel
theorem zd198_7 : zop 198 7 = some (.aload_n 0, 1) := by decide +kernel
theorem zd198_8 : zop 198 8 = some (.iload_n 2, 1) := by decide +kernel
theorem zd198_9 : zop 198 9 = some (.invokevirtual 112, 3) := by decide +kernel
theorem zd198_12 : zop 198 12 = some (.ifCond .eq 10, 3) := by decide +kernel
theorem zd198_15 : zop 198 15 = some (.iload_n 3, 1) := by decide +kernel
theorem zd198_16 : zop 198 16 = some (.invokestatic 97, 3) := by decide +kernel
theorem zd198_19 : zop 198 19 = some (.ifCond .ne 6, 3) := by decide +kernel
theorem zd198_22 : zop 198 22 = some (.bipush (-2), 2) := by decide +kernel
theorem zd198_24 : zop 198 24 = some (.ireturn, 1) := by decide +kernel
theorem zd198_25 : zop 198 25 = some (.aload_n 0, 1) := by decide +kernel
theorem zd198_26 : zop 198 26 = some (.iload_n 3, 1) := by decide +kernel
theorem zd198_27 : zop 198 27 = some (.invokevirtual 141, 3) := by decide +kernel
theorem zd198_30 : zop 198 30 = some (.istore 4, 2) := by decide +kernel
theorem zd198_32 : zop 198 32 = some (.aload_n 0, 1) := by decide +kernel
theorem zd198_33 : zop 198 33 = some (.iload_n 1, 1) := by decide +kernel
theorem zd198_34 : zop 198 34 = some (.iconst 0, 1) := by decide +kernel
theorem zd198_35 : zop 198 35 = some (.iload 4, 2) := by decide +kernel
theorem zd198_37 : zop 198 37 = some (.invokevirtual 350, 3) := by decide +kernel
theorem zd198_40 : zop 198 40 = some (.pop, 1) := by decide +kernel
theorem zd198_41 : zop 198 41 = some (.aload_n 0, 1) := by decide +kernel
theorem zd198_42 : zop 198 42 = some (.invokevirtual 297, 3) := by decide +kernel
theorem zd198_45 : zop 198 45 = some (.aload_n 0, 1) := by decide +kernel
theorem zd198_46 : zop 198 46 = some (.iload_n 2, 1) := by decide +kernel
theorem zd198_47 : zop 198 47 = some (.iload_n 3, 1) := by decide +kernel
theorem zd198_48 : zop 198 48 = some (.invokevirtual 285, 3) := by decide +kernel
theorem zd198_51 : zop 198 51 = some (.pop, 1) := by decide +kernel
theorem zd198_52 : zop 198 52 = some (.aload_n 0, 1) := by decide +kernel
theorem zd198_53 : zop 198 53 = some (.invokevirtual 300, 3) := by decide +kernel
theorem zd198_56 : zop 198 56 = some (.iconst 0, 1) := by decide +kernel
theorem zd198_57 : zop 198 57 = some (.istore 5, 2) := by decide +kernel
theorem zd198_59 : zop 198 59 = some (.iload 5, 2) := by decide +kernel
theorem zd198_61 : zop 198 61 = some (.iload 4, 2) := by decide +kernel
theorem zd198_63 : zop 198 63 = some (.if_icmp .ge 28, 3) := by decide +kernel
theorem zd198_66 : zop 198 66 = some (.aload_n 0, 1) := by decide +kernel
theorem zd198_67 : zop 198 67 = some (.getfield 78, 3) := by decide +kernel
theorem zd198_70 : zop 198 70 = some (.bipush 40, 2) := by decide +kernel
theorem zd198_72 : zop 198 72 = some (.iload_n 1, 1) := by decide +kernel
theorem zd198_73 : zop 198 73 = some (.imul, 1) := by decide +kernel
theorem zd198_74 : zop 198 74 = some (.iload 5, 2) := by decide +kernel
theorem zd198_76 : zop 198 76 = some (.iadd, 1) := by decide +kernel
theorem zd198_77 : zop 198 77 = some (.aload_n 0, 1) := by decide +kernel
theorem zd198_78 : zop 198 78 = some (.getfield 41, 3) := by decide +kernel
theorem zd198_81 : zop 198 81 = some (.iload 5, 2) := by decide +kernel
theorem zd198_83 : zop 198 83 = some (.iaload, 1) := by decide +kernel
theorem zd198_84 : zop 198 84 = some (.iastore, 1) := by decide +kernel
theorem zd198_85 : zop 198 85 = some (.iinc 5 1, 3) := by decide +kernel
theorem zd198_88 : zop 198 88 = some (.goto (-29), 3) := by decide +kernel
theorem zd198_91 : zop 198 91 = some (.iload 4, 2) := by decide +kernel
theorem zd198_93 : zop 198 93 = some (.ireturn, 1) := by decide +kernel
theorem b198_0 {x : zXs} {F : zF} (hF : zSh F) {d : Nat} {V : Nat → Nat → Int32} {T : Nat → Nat → Int64} {Q : Option Value → zG → Prop} {o0 : Option Value} {l1 : Int32} {o2 : Option Value} {o3 : Option Value} {o4 : Option Value} {o5 : Option Value}   (k : E x F d 194 0 [some (.int l1)] [] (V, T) (fun r G' => E x F (d + 1) 198 4 [o0, some (.int l1), o2, o3, o4, o5] (r.toList ++ []) G' Q)) : E x F (d + 1) 198 0 [o0, some (.int l1), o2, o3, o4, o5] [] (V, T) Q := by
  refine e_iload_n zd198_0 rfl ?_
  exact e_callS zd198_1 (own := 8) (nest := false) (w := 1268) (by decide +kernel) (by decide +kernel) zs194 (as := [.int l1]) (rest := []) rfl rfl (Nat.le_of_ble_eq_true rfl) rfl rfl rfl (by omega) k
theorem b198_4 {x : zXs} {F : zF} (hF : zSh F) {d : Nat} {V : Nat → Nat → Int32} {T : Nat → Nat → Int64} {Q : Option Value → zG → Prop} {o0 : Option Value} {o1 : Option Value} {o2 : Option Value} {o3 : Option Value} {o4 : Option Value} {o5 : Option Value} {s0 : Int32}   (kt : s0 = 0 → E x F d 198 22 [o0, o1, o2, o3, o4, o5] [] (V, T) Q) (kf : ¬ (s0 = 0) → E x F d 198 7 [o0, o1, o2, o3, o4, o5] [] (V, T) Q) : E x F d 198 4 [o0, o1, o2, o3, o4, o5] [.int s0] (V, T) Q := by
  exact e_if_eq zd198_4 (tg := 22) rfl kt kf
theorem b198_7 {x : zXs} {F : zF} (hF : zSh F) {d : Nat} {V : Nat → Nat → Int32} {T : Nat → Nat → Int64} {Q : Option Value → zG → Prop} {o1 : Option Value} {l2 : Int32} {o3 : Option Value} {o4 : Option Value} {o5 : Option Value}   (k : E x F d 136 0 [some (.ref 59), some (.int l2)] [] (V, T) (fun r G' => E x F (d + 1) 198 12 [some (.ref 59), o1, some (.int l2), o3, o4, o5] (r.toList ++ []) G' Q)) : E x F (d + 1) 198 7 [some (.ref 59), o1, some (.int l2), o3, o4, o5] [] (V, T) Q := by
  refine e_aload_n zd198_7 rfl rfl ?_
  refine e_iload_n zd198_8 rfl ?_
  exact e_callV zd198_9 (own := 8) (nest := false) (w := 1025) (by decide +kernel) (by decide +kernel) zs136 (as := [.int l2]) (rest := []) rfl rfl (zsh_at hF rfl).1 (by omega) (Nat.le_of_ble_eq_true rfl) rfl rfl rfl (by omega) k
theorem b198_12 {x : zXs} {F : zF} (hF : zSh F) {d : Nat} {V : Nat → Nat → Int32} {T : Nat → Nat → Int64} {Q : Option Value → zG → Prop} {o0 : Option Value} {o1 : Option Value} {o2 : Option Value} {o3 : Option Value} {o4 : Option Value} {o5 : Option Value} {s0 : Int32}   (kt : s0 = 0 → E x F d 198 22 [o0, o1, o2, o3, o4, o5] [] (V, T) Q) (kf : ¬ (s0 = 0) → E x F d 198 15 [o0, o1, o2, o3, o4, o5] [] (V, T) Q) : E x F d 198 12 [o0, o1, o2, o3, o4, o5] [.int s0] (V, T) Q := by
  exact e_if_eq zd198_12 (tg := 22) rfl kt kf
theorem b198_15 {x : zXs} {F : zF} (hF : zSh F) {d : Nat} {V : Nat → Nat → Int32} {T : Nat → Nat → Int64} {Q : Option Value → zG → Prop} {o0 : Option Value} {o1 : Option Value} {o2 : Option Value} {l3 : Int32} {o4 : Option Value} {o5 : Option Value}   (k : E x F d 131 0 [some (.int l3)] [] (V, T) (fun r G' => E x F (d + 1) 198 19 [o0, o1, o2, some (.int l3), o4, o5] (r.toList ++ []) G' Q)) : E x F (d + 1) 198 15 [o0, o1, o2, some (.int l3), o4, o5] [] (V, T) Q := by
  refine e_iload_n zd198_15 rfl ?_
  exact e_callS zd198_16 (own := 8) (nest := false) (w := 1005) (by decide +kernel) (by decide +kernel) zs131 (as := [.int l3]) (rest := []) rfl rfl (Nat.le_of_ble_eq_true rfl) rfl rfl rfl (by omega) k
theorem b198_19 {x : zXs} {F : zF} (hF : zSh F) {d : Nat} {V : Nat → Nat → Int32} {T : Nat → Nat → Int64} {Q : Option Value → zG → Prop} {o0 : Option Value} {o1 : Option Value} {o2 : Option Value} {o3 : Option Value} {o4 : Option Value} {o5 : Option Value} {s0 : Int32}   (kt : ¬ s0 = 0 → E x F d 198 25 [o0, o1, o2, o3, o4, o5] [] (V, T) Q) (kf : ¬ (¬ s0 = 0) → E x F d 198 22 [o0, o1, o2, o3, o4, o5] [] (V, T) Q) : E x F d 198 19 [o0, o1, o2, o3, o4, o5] [.int s0] (V, T) Q := by
  exact e_if_ne zd198_19 (tg := 25) rfl kt kf
theorem b198_22 {x : zXs} {F : zF} (hF : zSh F) {d : Nat} {V : Nat → Nat → Int32} {T : Nat → Nat → Int64} {Q : Option Value → zG → Prop} {o0 : Option Value} {o1 : Option Value} {o2 : Option Value} {o3 : Option Value} {o4 : Option Value} {o5 : Option Value}   (k : Q (some (.int (Int32.ofInt (-2)))) (V, T)) : E x F d 198 22 [o0, o1, o2, o3, o4, o5] [] (V, T) Q := by
  refine e_bipush zd198_22 (v := Int32.ofInt (-2)) (by decide +kernel) ?_
  exact e_ireti zd198_24 zs198 k
theorem b198_25 {x : zXs} {F : zF} (hF : zSh F) {d : Nat} {V : Nat → Nat → Int32} {T : Nat → Nat → Int64} {Q : Option Value → zG → Prop} {o1 : Option Value} {o2 : Option Value} {l3 : Int32} {o4 : Option Value} {o5 : Option Value}   (k : E x F d 158 0 [some (.ref 59), some (.int l3), none, none] [] (V, T) (fun r G' => E x F (d + 1) 198 30 [some (.ref 59), o1, o2, some (.int l3), o4, o5] (r.toList ++ []) G' Q)) : E x F (d + 1) 198 25 [some (.ref 59), o1, o2, some (.int l3), o4, o5] [] (V, T) Q := by
  refine e_aload_n zd198_25 rfl rfl ?_
  refine e_iload_n zd198_26 rfl ?_
  exact e_callV zd198_27 (own := 8) (nest := false) (w := 1118) (by decide +kernel) (by decide +kernel) zs158 (as := [.int l3]) (rest := []) rfl rfl (zsh_at hF rfl).1 (by omega) (Nat.le_of_ble_eq_true rfl) rfl rfl rfl (by omega) k
theorem b198_30 {x : zXs} {F : zF} (hF : zSh F) {d : Nat} {V : Nat → Nat → Int32} {T : Nat → Nat → Int64} {Q : Option Value → zG → Prop} {l1 : Int32} {o2 : Option Value} {o3 : Option Value} {o4 : Option Value} {o5 : Option Value} {s0 : Int32}   (k : E x F d 199 0 [some (.ref 59), some (.int l1), some (.int (Int32.ofInt 0)), some (.int s0), none] [] (V, T) (fun r G' => E x F (d + 1) 198 40 [some (.ref 59), some (.int l1), o2, o3, some (.int s0), o5] (r.toList ++ []) G' Q)) : E x F (d + 1) 198 30 [some (.ref 59), some (.int l1), o2, o3, o4, o5] [.int s0] (V, T) Q := by
  refine e_istore zd198_30 (by decide +kernel) (Nat.le_of_ble_eq_true rfl) ?_
  refine e_aload_n zd198_32 rfl rfl ?_
  refine e_iload_n zd198_33 rfl ?_
  refine e_iconst zd198_34 ?_
  refine e_iload zd198_35 rfl ?_
  exact e_callV zd198_37 (own := 8) (nest := false) (w := 1288) (by decide +kernel) (by decide +kernel) zs199 (as := [.int l1, .int (Int32.ofInt 0), .int s0]) (rest := []) rfl rfl (zsh_at hF rfl).1 (by omega) (Nat.le_of_ble_eq_true rfl) rfl rfl rfl (by omega) k
theorem b198_40 {x : zXs} {F : zF} (hF : zSh F) {d : Nat} {V : Nat → Nat → Int32} {T : Nat → Nat → Int64} {Q : Option Value → zG → Prop} {o1 : Option Value} {o2 : Option Value} {o3 : Option Value} {o4 : Option Value} {o5 : Option Value} {s0 : Int32}   (k : E x F d 180 0 [some (.ref 59), none] [] (V, T) (fun r G' => E x F (d + 1) 198 45 [some (.ref 59), o1, o2, o3, o4, o5] (r.toList ++ []) G' Q)) : E x F (d + 1) 198 40 [some (.ref 59), o1, o2, o3, o4, o5] [.int s0] (V, T) Q := by
  refine e_pop zd198_40 rfl ?_
  refine e_aload_n zd198_41 rfl rfl ?_
  exact e_callV zd198_42 (own := 8) (nest := false) (w := 1210) (by decide +kernel) (by decide +kernel) zs180 (as := []) (rest := []) rfl rfl (zsh_at hF rfl).1 (by omega) (Nat.le_of_ble_eq_true rfl) rfl rfl rfl (by omega) k
theorem b198_45 {x : zXs} {F : zF} (hF : zSh F) {d : Nat} {V : Nat → Nat → Int32} {T : Nat → Nat → Int64} {Q : Option Value → zG → Prop} {o1 : Option Value} {l2 : Int32} {l3 : Int32} {o4 : Option Value} {o5 : Option Value}   (k : E x F d 171 0 [some (.ref 59), some (.int l2), some (.int l3), none, none, none, none, none] [] (V, T) (fun r G' => E x F (d + 1) 198 51 [some (.ref 59), o1, some (.int l2), some (.int l3), o4, o5] (r.toList ++ []) G' Q)) : E x F (d + 1) 198 45 [some (.ref 59), o1, some (.int l2), some (.int l3), o4, o5] [] (V, T) Q := by
  refine e_aload_n zd198_45 rfl rfl ?_
  refine e_iload_n zd198_46 rfl ?_
  refine e_iload_n zd198_47 rfl ?_
  exact e_callV zd198_48 (own := 8) (nest := false) (w := 1174) (by decide +kernel) (by decide +kernel) zs171 (as := [.int l2, .int l3]) (rest := []) rfl rfl (zsh_at hF rfl).1 (by omega) (Nat.le_of_ble_eq_true rfl) rfl rfl rfl (by omega) k
theorem b198_51 {x : zXs} {F : zF} (hF : zSh F) {d : Nat} {V : Nat → Nat → Int32} {T : Nat → Nat → Int64} {Q : Option Value → zG → Prop} {o1 : Option Value} {o2 : Option Value} {o3 : Option Value} {o4 : Option Value} {o5 : Option Value} {s0 : Int32}   (k : E x F d 181 0 [some (.ref 59), none] [] (V, T) (fun r G' => E x F (d + 1) 198 56 [some (.ref 59), o1, o2, o3, o4, o5] (r.toList ++ []) G' Q)) : E x F (d + 1) 198 51 [some (.ref 59), o1, o2, o3, o4, o5] [.int s0] (V, T) Q := by
  refine e_pop zd198_51 rfl ?_
  refine e_aload_n zd198_52 rfl rfl ?_
  exact e_callV zd198_53 (own := 8) (nest := false) (w := 1214) (by decide +kernel) (by decide +kernel) zs181 (as := []) (rest := []) rfl rfl (zsh_at hF rfl).1 (by omega) (Nat.le_of_ble_eq_true rfl) rfl rfl rfl (by omega) k
theorem b198_56 {x : zXs} {F : zF} (hF : zSh F) {d : Nat} {V : Nat → Nat → Int32} {T : Nat → Nat → Int64} {Q : Option Value → zG → Prop} {o0 : Option Value} {o1 : Option Value} {o2 : Option Value} {o3 : Option Value} {o4 : Option Value} {o5 : Option Value}   (k : E x F d 198 59 [o0, o1, o2, o3, o4, some (.int (Int32.ofInt 0))] [] (V, T) Q) : E x F d 198 56 [o0, o1, o2, o3, o4, o5] [] (V, T) Q := by
  refine e_iconst zd198_56 ?_
  refine e_istore zd198_57 (by decide +kernel) (Nat.le_of_ble_eq_true rfl) ?_
  exact k
theorem b198_59 {x : zXs} {F : zF} (hF : zSh F) {d : Nat} {V : Nat → Nat → Int32} {T : Nat → Nat → Int64} {Q : Option Value → zG → Prop} {o0 : Option Value} {o1 : Option Value} {o2 : Option Value} {o3 : Option Value} {l4 : Int32} {l5 : Int32}   (kt : l4 ≤ l5 → E x F d 198 91 [o0, o1, o2, o3, some (.int l4), some (.int l5)] [] (V, T) Q) (kf : ¬ (l4 ≤ l5) → E x F d 198 66 [o0, o1, o2, o3, some (.int l4), some (.int l5)] [] (V, T) Q) : E x F d 198 59 [o0, o1, o2, o3, some (.int l4), some (.int l5)] [] (V, T) Q := by
  refine e_iload zd198_59 rfl ?_
  refine e_iload zd198_61 rfl ?_
  exact e_icmp_ge zd198_63 (tg := 91) rfl kt kf
theorem b198_66 {x : zXs} {F : zF} (hF : zSh F) {d : Nat} {V : Nat → Nat → Int32} {T : Nat → Nat → Int64} {Q : Option Value → zG → Prop} {l1 : Int32} {o2 : Option Value} {o3 : Option Value} {o4 : Option Value} {l5 : Int32}  {i1 : Nat} (e1 : l5 = nI i1) (h1 : i1 < 24) {i2 : Nat} (e2 : ((Int32.ofInt 40) * l1) + l5 = nI i2) (h2 : i2 < 160) (k : E x F d 198 59 [some (.ref 59), some (.int l1), o2, o3, o4, some (.int (l5 + Int32.ofInt 1))] [] (zu V 80 i2 (V 69 i1), T) Q) : E x F d 198 66 [some (.ref 59), some (.int l1), o2, o3, o4, some (.int l5)] [] (V, T) Q := by
  refine e_aload_n zd198_66 rfl rfl ?_
  refine e_getA zd198_67 (own := 8) (ci := 8) (kf := 46) (w := 904) (by decide +kernel) (by decide +kernel) (zsh_at hF rfl).1 (by decide +kernel) rfl (zrf_at hF (i := 79) rfl) ?_
  refine e_bipush zd198_70 (v := Int32.ofInt 40) (by decide +kernel) ?_
  refine e_iload_n zd198_72 rfl ?_
  refine e_imul zd198_73 ?_
  refine e_iload zd198_74 rfl ?_
  refine e_iadd zd198_76 ?_
  refine e_aload_n zd198_77 rfl rfl ?_
  refine e_getA zd198_78 (own := 8) (ci := 8) (kf := 30) (w := 888) (by decide +kernel) (by decide +kernel) (zsh_at hF rfl).1 (by decide +kernel) rfl (zrf_at hF (i := 68) rfl) ?_
  refine e_iload zd198_81 rfl ?_
  refine e_iald zd198_83 (i := i1) (zsh_at hF rfl) e1 h1 (by omega) ?_
  refine e_iast zd198_84 (i := i2) (zsh_at hF rfl) e2 h2 (by omega) ?_
  refine e_iinc zd198_85 rfl (by decide +kernel) ?_
  exact e_goto zd198_88 (tg := 59) rfl k
theorem b198_91 {x : zXs} {F : zF} (hF : zSh F) {d : Nat} {V : Nat → Nat → Int32} {T : Nat → Nat → Int64} {Q : Option Value → zG → Prop} {o0 : Option Value} {o1 : Option Value} {o2 : Option Value} {o3 : Option Value} {l4 : Int32} {o5 : Option Value}   (k : Q (some (.int l4)) (V, T)) : E x F d 198 91 [o0, o1, o2, o3, some (.int l4), o5] [] (V, T) Q := by
  refine e_iload zd198_91 rfl ?_
  exact e_ireti zd198_93 zs198 k
theorem zd199_0 : zop 199 0 = some (.iload_n 1, 1) := by decide +kernel
theorem zd199_1 : zop 199 1 = some (.invokestatic 339, 3) := by decide +kernel
theorem zd199_4 : zop 199 4 = some (.ifCond .eq 27, 3) := by decide +kernel
theorem zd199_7 : zop 199 7 = some (.iload_n 2, 1) := by decide +kernel
theorem zd199_8 : zop 199 8 = some (.i2l, 1) := by decide +kernel
theorem zd199_9 : zop 199 9 = some (.ldc2_w 363, 3) := by decide +kernel
theorem zd199_12 : zop 199 12 = some (.ldc2_w 110, 3) := by decide +kernel
theorem zd199_15 : zop 199 15 = some (.invokestatic 91, 3) := by decide +kernel
theorem zd199_18 : zop 199 18 = some (.ifCond .eq 13, 3) := by decide +kernel
theorem zd199_21 : zop 199 21 = some (.iload_n 2, 1) := by decide +kernel
theorem zd199_22 : zop 199 22 = some (.ifCond .lt 12, 3) := by decide +kernel
theorem zd199_25 : zop 199 25 = some (.iload_n 3, 1) := by decide +kernel
theorem zd199_26 : zop 199 26 = some (.bipush 40, 2) := by decide +kernel
theorem zd199_28 : zop 199 28 = some (.if_icmp .le 6, 3) := by decide +kernel
theorem zd199_31 : zop 199 31 = some (.bipush (-2), 2) := by decide +kernel
theorem zd199_33 : zop 199 33 = some (.ireturn, 1) := by decide +kernel
theorem zd199_34 : zop 199 34 = some (.iload_n 2, 1) := by decide +kernel
theorem zd199_35 : zop 199 35 = some (.ifCond .lt 10, 3) := by decide +kernel
theorem zd199_38 : zop 199 38 = some (.iload_n 3, 1) := by decide +kernel
theorem zd199_39 : zop 199 39 = some (.ifCond .ge 6, 3) := by decide +kernel
theorem zd199_42 : zop 199 42 = some (.bipush (-14), 2) := by decide +kernel
theorem zd199_44 : zop 199 44 = some (.ireturn, 1) := by decide +kernel
theorem zd199_45 : zop 199 45 = some (.aload_n 0, 1) := by decide +kernel
theorem zd199_46 : zop 199 46 = some (.getfield 68, 3) := by decide +kernel
theorem zd199_49 : zop 199 49 = some (.iload_n 1, 1) := by decide +kernel
theorem zd199_50 : zop 199 50 = some (.iload_n 2, 1) := by decide +kernel
theorem zd199_51 : zop 199 51 = some (.ifCond .lt 7, 3) := by decide +kernel
theorem zd199_54 : zop 199 54 = some (.iconst 1, 1) := by decide +kernel
theorem zd199_55 : zop 199 55 = some (.goto 4, 3) := by decide +kernel
theorem zd199_58 : zop 199 58 = some (.iconst 0, 1) := by decide +kernel
theorem zd199_59 : zop 199 59 = some (.bastore, 1) := by decide +kernel
theorem zd199_60 : zop 199 60 = some (.aload_n 0, 1) := by decide +kernel
theorem zd199_61 : zop 199 61 = some (.getfield 72, 3) := by decide +kernel
theorem zd199_64 : zop 199 64 = some (.iload_n 1, 1) := by decide +kernel
theorem zd199_65 : zop 199 65 = some (.iload_n 2, 1) := by decide +kernel
theorem zd199_66 : zop 199 66 = some (.iastore, 1) := by decide +kernel
theorem zd199_67 : zop 199 67 = some (.aload_n 0, 1) := by decide +kernel
theorem zd199_68 : zop 199 68 = some (.getfield 75, 3) := by decide +kernel
theorem zd199_71 : zop 199 71 = some (.iload_n 1, 1) := by decide +kernel
theorem zd199_72 : zop 199 72 = some (.iload_n 3, 1) := by decide +kernel
theorem zd199_73 : zop 199 73 = some (.iastore, 1) := by decide +kernel
theorem zd199_74 : zop 199 74 = some (.iconst 0, 1) := by decide +kernel
theorem zd199_75 : zop 199 75 = some (.istore 4, 2) := by decide +kernel
theorem zd199_77 : zop 199 77 = some (.iload 4, 2) := by decide +kernel
theorem zd199_79 : zop 199 79 = some (.iload_n 3, 1) := by decide +kernel
theorem zd199_80 : zop 199 80 = some (.if_icmp .ge 26, 3) := by decide +kernel
theorem zd199_83 : zop 199 83 = some (.iload_n 2, 1) := by decide +kernel
theorem zd199_84 : zop 199 84 = some (.ifCond .lt 22, 3) := by decide +kernel
theorem zd199_87 : zop 199 87 = some (.aload_n 0, 1) := by decide +kernel
theorem zd199_88 : zop 199 88 = some (.getfield 78, 3) := by decide +kernel
theorem zd199_91 : zop 199 91 = some (.bipush 40, 2) := by decide +kernel
theorem zd199_93 : zop 199 93 = some (.iload_n 1, 1) := by decide +kernel
theorem zd199_94 : zop 199 94 = some (.imul, 1) := by decide +kernel
theorem zd199_95 : zop 199 95 = some (.iload 4, 2) := by decide +kernel
theorem zd199_97 : zop 199 97 = some (.iadd, 1) := by decide +kernel
theorem zd199_98 : zop 199 98 = some (.iconst 0, 1) := by decide +kernel
theorem zd199_99 : zop 199 99 = some (.iastore, 1) := by decide +kernel
theorem zd199_100 : zop 199 100 = some (.iinc 4 1, 3) := by decide +kernel
theorem zd199_103 : zop 199 103 = some (.goto (-26), 3) := by decide +kernel
theorem zd199_106 : zop 199 106 = some (.iconst 1, 1) := by decide +kernel
theorem zd199_107 : zop 199 107 = some (.ireturn, 1) := by decide +kernel
theorem b199_0 {x : zXs} {F : zF} (hF : zSh F) {d : Nat} {V : Nat → Nat → Int32} {T : Nat → Nat → Int64} {Q : Option Value → zG → Prop} {o0 : Option Value} {l1 : Int32} {o2 : Option Value} {o3 : Option Value} {o4 : Option Value}   (k : E x F d 194 0 [some (.int l1)] [] (V, T) (fun r G' => E x F (d + 1) 199 4 [o0, some (.int l1), o2, o3, o4] (r.toList ++ []) G' Q)) : E x F (d + 1) 199 0 [o0, some (.int l1), o2, o3, o4] [] (V, T) Q := by
  refine e_iload_n zd199_0 rfl ?_
  exact e_callS zd199_1 (own := 8) (nest := false) (w := 1268) (by decide +kernel) (by decide +kernel) zs194 (as := [.int l1]) (rest := []) rfl rfl (Nat.le_of_ble_eq_true rfl) rfl rfl rfl (by omega) k
theorem b199_4 {x : zXs} {F : zF} (hF : zSh F) {d : Nat} {V : Nat → Nat → Int32} {T : Nat → Nat → Int64} {Q : Option Value → zG → Prop} {o0 : Option Value} {o1 : Option Value} {o2 : Option Value} {o3 : Option Value} {o4 : Option Value} {s0 : Int32}   (kt : s0 = 0 → E x F d 199 31 [o0, o1, o2, o3, o4] [] (V, T) Q) (kf : ¬ (s0 = 0) → E x F d 199 7 [o0, o1, o2, o3, o4] [] (V, T) Q) : E x F d 199 4 [o0, o1, o2, o3, o4] [.int s0] (V, T) Q := by
  exact e_if_eq zd199_4 (tg := 31) rfl kt kf
theorem b199_7 {x : zXs} {F : zF} (hF : zSh F) {d : Nat} {V : Nat → Nat → Int32} {T : Nat → Nat → Int64} {Q : Option Value → zG → Prop} {o0 : Option Value} {o1 : Option Value} {l2 : Int32} {o3 : Option Value} {o4 : Option Value}   (k : E x F d 132 0 [some (.long l2.toInt64), none, some (.long (-1 : Int64)), none, some (.long (2 : Int64)), none] [] (V, T) (fun r G' => E x F (d + 1) 199 18 [o0, o1, some (.int l2), o3, o4] (r.toList ++ []) G' Q)) : E x F (d + 1) 199 7 [o0, o1, some (.int l2), o3, o4] [] (V, T) Q := by
  refine e_iload_n zd199_7 rfl ?_
  refine e_i2l zd199_8 ?_
  refine e_ldc2 zd199_9 (own := 8) (w := 1292) (v := (-1)) (by decide +kernel) (by decide +kernel) ?_
  refine e_ldc2 zd199_12 (own := 8) (w := 1024) (v := 2) (by decide +kernel) (by decide +kernel) ?_
  exact e_callS zd199_15 (own := 8) (nest := false) (w := 1009) (by decide +kernel) (by decide +kernel) zs132 (as := [.long l2.toInt64, .long (-1 : Int64), .long (2 : Int64)]) (rest := []) rfl rfl (Nat.le_of_ble_eq_true rfl) rfl rfl rfl (by omega) k
theorem b199_18 {x : zXs} {F : zF} (hF : zSh F) {d : Nat} {V : Nat → Nat → Int32} {T : Nat → Nat → Int64} {Q : Option Value → zG → Prop} {o0 : Option Value} {o1 : Option Value} {o2 : Option Value} {o3 : Option Value} {o4 : Option Value} {s0 : Int32}   (kt : s0 = 0 → E x F d 199 31 [o0, o1, o2, o3, o4] [] (V, T) Q) (kf : ¬ (s0 = 0) → E x F d 199 21 [o0, o1, o2, o3, o4] [] (V, T) Q) : E x F d 199 18 [o0, o1, o2, o3, o4] [.int s0] (V, T) Q := by
  exact e_if_eq zd199_18 (tg := 31) rfl kt kf
theorem b199_21 {x : zXs} {F : zF} (hF : zSh F) {d : Nat} {V : Nat → Nat → Int32} {T : Nat → Nat → Int64} {Q : Option Value → zG → Prop} {o0 : Option Value} {o1 : Option Value} {l2 : Int32} {o3 : Option Value} {o4 : Option Value}   (kt : l2 < 0 → E x F d 199 34 [o0, o1, some (.int l2), o3, o4] [] (V, T) Q) (kf : ¬ (l2 < 0) → E x F d 199 25 [o0, o1, some (.int l2), o3, o4] [] (V, T) Q) : E x F d 199 21 [o0, o1, some (.int l2), o3, o4] [] (V, T) Q := by
  refine e_iload_n zd199_21 rfl ?_
  exact e_if_lt zd199_22 (tg := 34) rfl kt kf
theorem b199_25 {x : zXs} {F : zF} (hF : zSh F) {d : Nat} {V : Nat → Nat → Int32} {T : Nat → Nat → Int64} {Q : Option Value → zG → Prop} {o0 : Option Value} {o1 : Option Value} {o2 : Option Value} {l3 : Int32} {o4 : Option Value}   (kt : l3 ≤ (Int32.ofInt 40) → E x F d 199 34 [o0, o1, o2, some (.int l3), o4] [] (V, T) Q) (kf : ¬ (l3 ≤ (Int32.ofInt 40)) → E x F d 199 31 [o0, o1, o2, some (.int l3), o4] [] (V, T) Q) : E x F d 199 25 [o0, o1, o2, some (.int l3), o4] [] (V, T) Q := by
  refine e_iload_n zd199_25 rfl ?_
  refine e_bipush zd199_26 (v := Int32.ofInt 40) (by decide +kernel) ?_
  exact e_icmp_le zd199_28 (tg := 34) rfl kt kf
theorem b199_31 {x : zXs} {F : zF} (hF : zSh F) {d : Nat} {V : Nat → Nat → Int32} {T : Nat → Nat → Int64} {Q : Option Value → zG → Prop} {o0 : Option Value} {o1 : Option Value} {o2 : Option Value} {o3 : Option Value} {o4 : Option Value}   (k : Q (some (.int (Int32.ofInt (-2)))) (V, T)) : E x F d 199 31 [o0, o1, o2, o3, o4] [] (V, T) Q := by
  refine e_bipush zd199_31 (v := Int32.ofInt (-2)) (by decide +kernel) ?_
  exact e_ireti zd199_33 zs199 k
theorem b199_34 {x : zXs} {F : zF} (hF : zSh F) {d : Nat} {V : Nat → Nat → Int32} {T : Nat → Nat → Int64} {Q : Option Value → zG → Prop} {o0 : Option Value} {o1 : Option Value} {l2 : Int32} {o3 : Option Value} {o4 : Option Value}   (kt : l2 < 0 → E x F d 199 45 [o0, o1, some (.int l2), o3, o4] [] (V, T) Q) (kf : ¬ (l2 < 0) → E x F d 199 38 [o0, o1, some (.int l2), o3, o4] [] (V, T) Q) : E x F d 199 34 [o0, o1, some (.int l2), o3, o4] [] (V, T) Q := by
  refine e_iload_n zd199_34 rfl ?_
  exact e_if_lt zd199_35 (tg := 45) rfl kt kf
theorem b199_38 {x : zXs} {F : zF} (hF : zSh F) {d : Nat} {V : Nat → Nat → Int32} {T : Nat → Nat → Int64} {Q : Option Value → zG → Prop} {o0 : Option Value} {o1 : Option Value} {o2 : Option Value} {l3 : Int32} {o4 : Option Value}   (kt : 0 ≤ l3 → E x F d 199 45 [o0, o1, o2, some (.int l3), o4] [] (V, T) Q) (kf : ¬ (0 ≤ l3) → E x F d 199 42 [o0, o1, o2, some (.int l3), o4] [] (V, T) Q) : E x F d 199 38 [o0, o1, o2, some (.int l3), o4] [] (V, T) Q := by
  refine e_iload_n zd199_38 rfl ?_
  exact e_if_ge zd199_39 (tg := 45) rfl kt kf
theorem b199_42 {x : zXs} {F : zF} (hF : zSh F) {d : Nat} {V : Nat → Nat → Int32} {T : Nat → Nat → Int64} {Q : Option Value → zG → Prop} {o0 : Option Value} {o1 : Option Value} {o2 : Option Value} {o3 : Option Value} {o4 : Option Value}   (k : Q (some (.int (Int32.ofInt (-14)))) (V, T)) : E x F d 199 42 [o0, o1, o2, o3, o4] [] (V, T) Q := by
  refine e_bipush zd199_42 (v := Int32.ofInt (-14)) (by decide +kernel) ?_
  exact e_ireti zd199_44 zs199 k
theorem b199_45 {x : zXs} {F : zF} (hF : zSh F) {d : Nat} {V : Nat → Nat → Int32} {T : Nat → Nat → Int64} {Q : Option Value → zG → Prop} {l1 : Int32} {l2 : Int32} {o3 : Option Value} {o4 : Option Value}   (kt : l2 < 0 → E x F d 199 58 [some (.ref 59), some (.int l1), some (.int l2), o3, o4] [.int l1, .ref 77] (V, T) Q) (kf : ¬ (l2 < 0) → E x F d 199 54 [some (.ref 59), some (.int l1), some (.int l2), o3, o4] [.int l1, .ref 77] (V, T) Q) : E x F d 199 45 [some (.ref 59), some (.int l1), some (.int l2), o3, o4] [] (V, T) Q := by
  refine e_aload_n zd199_45 rfl rfl ?_
  refine e_getA zd199_46 (own := 8) (ci := 8) (kf := 43) (w := 901) (by decide +kernel) (by decide +kernel) (zsh_at hF rfl).1 (by decide +kernel) rfl (zrf_at hF (i := 76) rfl) ?_
  refine e_iload_n zd199_49 rfl ?_
  refine e_iload_n zd199_50 rfl ?_
  exact e_if_lt zd199_51 (tg := 58) rfl kt kf
theorem b199_54 {x : zXs} {F : zF} (hF : zSh F) {d : Nat} {V : Nat → Nat → Int32} {T : Nat → Nat → Int64} {Q : Option Value → zG → Prop} {o0 : Option Value} {o1 : Option Value} {o2 : Option Value} {o3 : Option Value} {o4 : Option Value} {s0 : Nat} {ns0 : Nat} {s1 : Int32} (hs0 : zsh F s0 = 101 ∧ zln F s0 = ns0) (qns0 : ns0 < 2 ^ 31)  (k : E x F d 199 59 [o0, o1, o2, o3, o4] [.int (Int32.ofInt 1), .int s1, .ref s0] (V, T) Q) : E x F d 199 54 [o0, o1, o2, o3, o4] [.int s1, .ref s0] (V, T) Q := by
  refine e_iconst zd199_54 ?_
  exact e_goto zd199_55 (tg := 59) rfl k
theorem b199_58 {x : zXs} {F : zF} (hF : zSh F) {d : Nat} {V : Nat → Nat → Int32} {T : Nat → Nat → Int64} {Q : Option Value → zG → Prop} {o0 : Option Value} {o1 : Option Value} {o2 : Option Value} {o3 : Option Value} {o4 : Option Value} {s0 : Nat} {ns0 : Nat} {s1 : Int32} (hs0 : zsh F s0 = 101 ∧ zln F s0 = ns0) (qns0 : ns0 < 2 ^ 31)  (k : E x F d 199 59 [o0, o1, o2, o3, o4] [.int (Int32.ofInt 0), .int s1, .ref s0] (V, T) Q) : E x F d 199 58 [o0, o1, o2, o3, o4] [.int s1, .ref s0] (V, T) Q := by
  refine e_iconst zd199_58 ?_
  exact k
theorem b199_59 {x : zXs} {F : zF} (hF : zSh F) {d : Nat} {V : Nat → Nat → Int32} {T : Nat → Nat → Int64} {Q : Option Value → zG → Prop} {l1 : Int32} {l2 : Int32} {l3 : Int32} {o4 : Option Value} {s0 : Nat} {ns0 : Nat} {s1 : Int32} {s2 : Int32} (hs0 : zsh F s0 = 101 ∧ zln F s0 = ns0) (qns0 : ns0 < 2 ^ 31) {i1 : Nat} (e1 : s1 = nI i1) (h1 : i1 < ns0) {i2 : Nat} (e2 : l1 = nI i2) (h2 : i2 < 4) {i3 : Nat} (e3 : l1 = nI i3) (h3 : i3 < 4) (k : E x F d 199 77 [some (.ref 59), some (.int l1), some (.int l2), some (.int l3), some (.int (Int32.ofInt 0))] [] (zu (zu (zu V s0 i1 (vp_nar .boolean s2)) 78 i2 l2) 79 i3 l3, T) Q) : E x F d 199 59 [some (.ref 59), some (.int l1), some (.int l2), some (.int l3), o4] [.int s2, .int s1, .ref s0] (V, T) Q := by
  refine e_bast zd199_59 (i := i1) (hs0) e1 h1 qns0 ?_
  refine e_aload_n zd199_60 rfl rfl ?_
  refine e_getA zd199_61 (own := 8) (ci := 8) (kf := 44) (w := 902) (by decide +kernel) (by decide +kernel) (zsh_at hF rfl).1 (by decide +kernel) rfl (zrf_at hF (i := 77) rfl) ?_
  refine e_iload_n zd199_64 rfl ?_
  refine e_iload_n zd199_65 rfl ?_
  refine e_iast zd199_66 (i := i2) (zsh_at hF rfl) e2 h2 (by omega) ?_
  refine e_aload_n zd199_67 rfl rfl ?_
  refine e_getA zd199_68 (own := 8) (ci := 8) (kf := 45) (w := 903) (by decide +kernel) (by decide +kernel) (zsh_at hF rfl).1 (by decide +kernel) rfl (zrf_at hF (i := 78) rfl) ?_
  refine e_iload_n zd199_71 rfl ?_
  refine e_iload_n zd199_72 rfl ?_
  refine e_iast zd199_73 (i := i3) (zsh_at hF rfl) e3 h3 (by omega) ?_
  refine e_iconst zd199_74 ?_
  refine e_istore zd199_75 (by decide +kernel) (Nat.le_of_ble_eq_true rfl) ?_
  exact k
theorem b199_77 {x : zXs} {F : zF} (hF : zSh F) {d : Nat} {V : Nat → Nat → Int32} {T : Nat → Nat → Int64} {Q : Option Value → zG → Prop} {o0 : Option Value} {o1 : Option Value} {o2 : Option Value} {l3 : Int32} {l4 : Int32}   (kt : l3 ≤ l4 → E x F d 199 106 [o0, o1, o2, some (.int l3), some (.int l4)] [] (V, T) Q) (kf : ¬ (l3 ≤ l4) → E x F d 199 83 [o0, o1, o2, some (.int l3), some (.int l4)] [] (V, T) Q) : E x F d 199 77 [o0, o1, o2, some (.int l3), some (.int l4)] [] (V, T) Q := by
  refine e_iload zd199_77 rfl ?_
  refine e_iload_n zd199_79 rfl ?_
  exact e_icmp_ge zd199_80 (tg := 106) rfl kt kf
theorem b199_83 {x : zXs} {F : zF} (hF : zSh F) {d : Nat} {V : Nat → Nat → Int32} {T : Nat → Nat → Int64} {Q : Option Value → zG → Prop} {o0 : Option Value} {o1 : Option Value} {l2 : Int32} {o3 : Option Value} {o4 : Option Value}   (kt : l2 < 0 → E x F d 199 106 [o0, o1, some (.int l2), o3, o4] [] (V, T) Q) (kf : ¬ (l2 < 0) → E x F d 199 87 [o0, o1, some (.int l2), o3, o4] [] (V, T) Q) : E x F d 199 83 [o0, o1, some (.int l2), o3, o4] [] (V, T) Q := by
  refine e_iload_n zd199_83 rfl ?_
  exact e_if_lt zd199_84 (tg := 106) rfl kt kf
theorem b199_87 {x : zXs} {F : zF} (hF : zSh F) {d : Nat} {V : Nat → Nat → Int32} {T : Nat → Nat → Int64} {Q : Option Value → zG → Prop} {l1 : Int32} {o2 : Option Value} {o3 : Option Value} {l4 : Int32}  {i1 : Nat} (e1 : ((Int32.ofInt 40) * l1) + l4 = nI i1) (h1 : i1 < 160) (k : E x F d 199 77 [some (.ref 59), some (.int l1), o2, o3, some (.int (l4 + Int32.ofInt 1))] [] (zu V 80 i1 (Int32.ofInt 0), T) Q) : E x F d 199 87 [some (.ref 59), some (.int l1), o2, o3, some (.int l4)] [] (V, T) Q := by
  refine e_aload_n zd199_87 rfl rfl ?_
  refine e_getA zd199_88 (own := 8) (ci := 8) (kf := 46) (w := 904) (by decide +kernel) (by decide +kernel) (zsh_at hF rfl).1 (by decide +kernel) rfl (zrf_at hF (i := 79) rfl) ?_
  refine e_bipush zd199_91 (v := Int32.ofInt 40) (by decide +kernel) ?_
  refine e_iload_n zd199_93 rfl ?_
  refine e_imul zd199_94 ?_
  refine e_iload zd199_95 rfl ?_
  refine e_iadd zd199_97 ?_
  refine e_iconst zd199_98 ?_
  refine e_iast zd199_99 (i := i1) (zsh_at hF rfl) e1 h1 (by omega) ?_
  refine e_iinc zd199_100 rfl (by decide +kernel) ?_
  exact e_goto zd199_103 (tg := 77) rfl k
theorem b199_106 {x : zXs} {F : zF} (hF : zSh F) {d : Nat} {V : Nat → Nat → Int32} {T : Nat → Nat → Int64} {Q : Option Value → zG → Prop} {o0 : Option Value} {o1 : Option Value} {o2 : Option Value} {o3 : Option Value} {o4 : Option Value}   (k : Q (some (.int (Int32.ofInt 1))) (V, T)) : E x F d 199 106 [o0, o1, o2, o3, o4] [] (V, T) Q := by
  refine e_iconst zd199_106 ?_
  exact e_ireti zd199_107 zs199 k
theorem zd200_0 : zop 200 0 = some (.aload_n 0, 1) := by decide +kernel
theorem zd200_1 : zop 200 1 = some (.iload_n 2, 1) := by decide +kernel
theorem zd200_2 : zop 200 2 = some (.invokevirtual 112, 3) := by decide +kernel
theorem zd200_5 : zop 200 5 = some (.ifCond .eq 12, 3) := by decide +kernel
theorem zd200_8 : zop 200 8 = some (.aload_n 0, 1) := by decide +kernel
theorem zd200_9 : zop 200 9 = some (.iload_n 1, 1) := by decide +kernel
theorem zd200_10 : zop 200 10 = some (.iload_n 2, 1) := by decide +kernel
theorem zd200_11 : zop 200 11 = some (.invokevirtual 354, 3) := by decide +kernel
theorem zd200_14 : zop 200 14 = some (.goto 5, 3) := by decide +kernel
theorem zd200_17 : zop 200 17 = some (.bipush (-100), 2) := by decide +kernel
theorem zd200_19 : zop 200 19 = some (.ireturn, 1) := by decide +kernel
theorem b200_0 {x : zXs} {F : zF} (hF : zSh F) {d : Nat} {V : Nat → Nat → Int32} {T : Nat → Nat → Int64} {Q : Option Value → zG → Prop} {o1 : Option Value} {l2 : Int32}   (k : E x F d 136 0 [some (.ref 59), some (.int l2)] [] (V, T) (fun r G' => E x F (d + 1) 200 5 [some (.ref 59), o1, some (.int l2)] (r.toList ++ []) G' Q)) : E x F (d + 1) 200 0 [some (.ref 59), o1, some (.int l2)] [] (V, T) Q := by
  refine e_aload_n zd200_0 rfl rfl ?_
  refine e_iload_n zd200_1 rfl ?_
  exact e_callV zd200_2 (own := 8) (nest := false) (w := 1025) (by decide +kernel) (by decide +kernel) zs136 (as := [.int l2]) (rest := []) rfl rfl (zsh_at hF rfl).1 (by omega) (Nat.le_of_ble_eq_true rfl) rfl rfl rfl (by omega) k
theorem b200_5 {x : zXs} {F : zF} (hF : zSh F) {d : Nat} {V : Nat → Nat → Int32} {T : Nat → Nat → Int64} {Q : Option Value → zG → Prop} {o0 : Option Value} {o1 : Option Value} {o2 : Option Value} {s0 : Int32}   (kt : s0 = 0 → E x F d 200 17 [o0, o1, o2] [] (V, T) Q) (kf : ¬ (s0 = 0) → E x F d 200 8 [o0, o1, o2] [] (V, T) Q) : E x F d 200 5 [o0, o1, o2] [.int s0] (V, T) Q := by
  exact e_if_eq zd200_5 (tg := 17) rfl kt kf
theorem b200_8 {x : zXs} {F : zF} (hF : zSh F) {d : Nat} {V : Nat → Nat → Int32} {T : Nat → Nat → Int64} {Q : Option Value → zG → Prop} {l1 : Int32} {l2 : Int32}   (k : E x F d 201 0 [some (.ref 59), some (.int l1), some (.int l2), none, none] [] (V, T) (fun r G' => E x F (d + 1) 200 14 [some (.ref 59), some (.int l1), some (.int l2)] (r.toList ++ []) G' Q)) : E x F (d + 1) 200 8 [some (.ref 59), some (.int l1), some (.int l2)] [] (V, T) Q := by
  refine e_aload_n zd200_8 rfl rfl ?_
  refine e_iload_n zd200_9 rfl ?_
  refine e_iload_n zd200_10 rfl ?_
  exact e_callV zd200_11 (own := 8) (nest := false) (w := 1297) (by decide +kernel) (by decide +kernel) zs201 (as := [.int l1, .int l2]) (rest := []) rfl rfl (zsh_at hF rfl).1 (by omega) (Nat.le_of_ble_eq_true rfl) rfl rfl rfl (by omega) k
theorem b200_14 {x : zXs} {F : zF} (hF : zSh F) {d : Nat} {V : Nat → Nat → Int32} {T : Nat → Nat → Int64} {Q : Option Value → zG → Prop} {o0 : Option Value} {o1 : Option Value} {o2 : Option Value} {s0 : Int32}   (k : E x F d 200 19 [o0, o1, o2] [.int s0] (V, T) Q) : E x F d 200 14 [o0, o1, o2] [.int s0] (V, T) Q := by
  exact e_goto zd200_14 (tg := 19) rfl k
theorem b200_17 {x : zXs} {F : zF} (hF : zSh F) {d : Nat} {V : Nat → Nat → Int32} {T : Nat → Nat → Int64} {Q : Option Value → zG → Prop} {o0 : Option Value} {o1 : Option Value} {o2 : Option Value}   (k : E x F d 200 19 [o0, o1, o2] [.int (Int32.ofInt (-100))] (V, T) Q) : E x F d 200 17 [o0, o1, o2] [] (V, T) Q := by
  refine e_bipush zd200_17 (v := Int32.ofInt (-100)) (by decide +kernel) ?_
  exact k
theorem b200_19 {x : zXs} {F : zF} (hF : zSh F) {d : Nat} {V : Nat → Nat → Int32} {T : Nat → Nat → Int64} {Q : Option Value → zG → Prop} {o0 : Option Value} {o1 : Option Value} {o2 : Option Value} {s0 : Int32}   (k : Q (some (.int s0)) (V, T)) : E x F d 200 19 [o0, o1, o2] [.int s0] (V, T) Q := by
  exact e_ireti zd200_19 zs200 k
theorem zd201_0 : zop 201 0 = some (.aload_n 0, 1) := by decide +kernel
theorem zd201_1 : zop 201 1 = some (.invokevirtual 297, 3) := by decide +kernel
theorem zd201_4 : zop 201 4 = some (.iload_n 1, 1) := by decide +kernel
theorem zd201_5 : zop 201 5 = some (.istore_n 3, 1) := by decide +kernel
theorem zd201_6 : zop 201 6 = some (.aload_n 0, 1) := by decide +kernel
theorem zd201_7 : zop 201 7 = some (.getfield 23, 3) := by decide +kernel
theorem zd201_10 : zop 201 10 = some (.iconst 4, 1) := by decide +kernel
theorem zd201_11 : zop 201 11 = some (.iconst 0, 1) := by decide +kernel
theorem zd201_12 : zop 201 12 = some (.iastore, 1) := by decide +kernel
theorem zd201_13 : zop 201 13 = some (.aload_n 0, 1) := by decide +kernel
theorem zd201_14 : zop 201 14 = some (.getfield 26, 3) := by decide +kernel
theorem zd201_17 : zop 201 17 = some (.iconst 4, 1) := by decide +kernel
theorem zd201_18 : zop 201 18 = some (.bipush 24, 2) := by decide +kernel
theorem zd201_20 : zop 201 20 = some (.iastore, 1) := by decide +kernel
theorem zd201_21 : zop 201 21 = some (.iconst 0, 1) := by decide +kernel
theorem zd201_22 : zop 201 22 = some (.istore 4, 2) := by decide +kernel
theorem zd201_24 : zop 201 24 = some (.iload 4, 2) := by decide +kernel
theorem zd201_26 : zop 201 26 = some (.bipush 24, 2) := by decide +kernel
theorem zd201_28 : zop 201 28 = some (.if_icmp .ge 45, 3) := by decide +kernel
theorem zd201_31 : zop 201 31 = some (.iload_n 3, 1) := by decide +kernel
theorem zd201_32 : zop 201 32 = some (.ldc_w 353, 3) := by decide +kernel
theorem zd201_35 : zop 201 35 = some (.imul, 1) := by decide +kernel
theorem zd201_36 : zop 201 36 = some (.sipush 12345, 3) := by decide +kernel
theorem zd201_39 : zop 201 39 = some (.iadd, 1) := by decide +kernel
theorem zd201_40 : zop 201 40 = some (.istore_n 3, 1) := by decide +kernel
theorem zd201_41 : zop 201 41 = some (.aload_n 0, 1) := by decide +kernel
theorem zd201_42 : zop 201 42 = some (.getfield 23, 3) := by decide +kernel
theorem zd201_45 : zop 201 45 = some (.iconst 4, 1) := by decide +kernel
theorem zd201_46 : zop 201 46 = some (.dup2, 1) := by decide +kernel
theorem zd201_47 : zop 201 47 = some (.iaload, 1) := by decide +kernel
theorem zd201_48 : zop 201 48 = some (.iload_n 3, 1) := by decide +kernel
theorem zd201_49 : zop 201 49 = some (.bipush 9, 2) := by decide +kernel
theorem zd201_51 : zop 201 51 = some (.iushr, 1) := by decide +kernel
theorem zd201_52 : zop 201 52 = some (.iconst 3, 1) := by decide +kernel
theorem zd201_53 : zop 201 53 = some (.irem, 1) := by decide +kernel
theorem zd201_54 : zop 201 54 = some (.ifCond .ne 7, 3) := by decide +kernel
theorem zd201_57 : zop 201 57 = some (.iconst 0, 1) := by decide +kernel
theorem zd201_58 : zop 201 58 = some (.goto 7, 3) := by decide +kernel
theorem zd201_61 : zop 201 61 = some (.iconst 1, 1) := by decide +kernel
theorem zd201_62 : zop 201 62 = some (.iload 4, 2) := by decide +kernel
theorem zd201_64 : zop 201 64 = some (.ishl, 1) := by decide +kernel
theorem zd201_65 : zop 201 65 = some (.ior, 1) := by decide +kernel
theorem zd201_66 : zop 201 66 = some (.iastore, 1) := by decide +kernel
theorem zd201_67 : zop 201 67 = some (.iinc 4 1, 3) := by decide +kernel
theorem zd201_70 : zop 201 70 = some (.goto (-46), 3) := by decide +kernel
theorem zd201_73 : zop 201 73 = some (.aload_n 0, 1) := by decide +kernel
theorem zd201_74 : zop 201 74 = some (.iload_n 2, 1) := by decide +kernel
theorem zd201_75 : zop 201 75 = some (.iconst 4, 1) := by decide +kernel
theorem zd201_76 : zop 201 76 = some (.invokevirtual 285, 3) := by decide +kernel
theorem zd201_79 : zop 201 79 = some (.istore 4, 2) := by decide +kernel
theorem zd201_81 : zop 201 81 = some (.aload_n 0, 1) := by decide +kernel
theorem zd201_82 : zop 201 82 = some (.invokevirtual 300, 3) := by decide +kernel
theorem zd201_85 : zop 201 85 = some (.iload 4, 2) := by decide +kernel
theorem zd201_87 : zop 201 87 = some (.ireturn, 1) := by decide +kernel
theorem b201_0 {x : zXs} {F : zF} (hF : zSh F) {d : Nat} {V : Nat → Nat → Int32} {T : Nat → Nat → Int64} {Q : Option Value → zG → Prop} {o1 : Option Value} {o2 : Option Value} {o3 : Option Value} {o4 : Option Value}   (k : E x F d 180 0 [some (.ref 59), none] [] (V, T) (fun r G' => E x F (d + 1) 201 4 [some (.ref 59), o1, o2, o3, o4] (r.toList ++ []) G' Q)) : E x F (d + 1) 201 0 [some (.ref 59), o1, o2, o3, o4] [] (V, T) Q := by
  refine e_aload_n zd201_0 rfl rfl ?_
  exact e_callV zd201_1 (own := 8) (nest := false) (w := 1210) (by decide +kernel) (by decide +kernel) zs180 (as := []) (rest := []) rfl rfl (zsh_at hF rfl).1 (by omega) (Nat.le_of_ble_eq_true rfl) rfl rfl rfl (by omega) k
theorem b201_4 {x : zXs} {F : zF} (hF : zSh F) {d : Nat} {V : Nat → Nat → Int32} {T : Nat → Nat → Int64} {Q : Option Value → zG → Prop} {l1 : Int32} {o2 : Option Value} {o3 : Option Value} {o4 : Option Value}   (k : E x F d 201 24 [some (.ref 59), some (.int l1), o2, some (.int l1), some (.int (Int32.ofInt 0))] [] (zu (zu V 63 4 (Int32.ofInt 0)) 64 4 (Int32.ofInt 24), T) Q) : E x F d 201 4 [some (.ref 59), some (.int l1), o2, o3, o4] [] (V, T) Q := by
  refine e_iload_n zd201_4 rfl ?_
  refine e_istore_n zd201_5 (by decide +kernel) (Nat.le_of_ble_eq_true rfl) ?_
  refine e_aload_n zd201_6 rfl rfl ?_
  refine e_getA zd201_7 (own := 8) (ci := 8) (kf := 8) (w := 866) (by decide +kernel) (by decide +kernel) (zsh_at hF rfl).1 (by decide +kernel) rfl (zrf_at hF (i := 62) rfl) ?_
  refine e_iconst zd201_10 ?_
  refine e_iconst zd201_11 ?_
  refine e_iast zd201_12 (i := 4) (zsh_at hF rfl) rfl (by omega) (by omega) ?_
  refine e_aload_n zd201_13 rfl rfl ?_
  refine e_getA zd201_14 (own := 8) (ci := 8) (kf := 9) (w := 867) (by decide +kernel) (by decide +kernel) (zsh_at hF rfl).1 (by decide +kernel) rfl (zrf_at hF (i := 63) rfl) ?_
  refine e_iconst zd201_17 ?_
  refine e_bipush zd201_18 (v := Int32.ofInt 24) (by decide +kernel) ?_
  refine e_iast zd201_20 (i := 4) (zsh_at hF rfl) rfl (by omega) (by omega) ?_
  refine e_iconst zd201_21 ?_
  refine e_istore zd201_22 (by decide +kernel) (Nat.le_of_ble_eq_true rfl) ?_
  exact k
theorem b201_24 {x : zXs} {F : zF} (hF : zSh F) {d : Nat} {V : Nat → Nat → Int32} {T : Nat → Nat → Int64} {Q : Option Value → zG → Prop} {o0 : Option Value} {o1 : Option Value} {o2 : Option Value} {o3 : Option Value} {l4 : Int32}   (kt : (Int32.ofInt 24) ≤ l4 → E x F d 201 73 [o0, o1, o2, o3, some (.int l4)] [] (V, T) Q) (kf : ¬ ((Int32.ofInt 24) ≤ l4) → E x F d 201 31 [o0, o1, o2, o3, some (.int l4)] [] (V, T) Q) : E x F d 201 24 [o0, o1, o2, o3, some (.int l4)] [] (V, T) Q := by
  refine e_iload zd201_24 rfl ?_
  refine e_bipush zd201_26 (v := Int32.ofInt 24) (by decide +kernel) ?_
  exact e_icmp_ge zd201_28 (tg := 73) rfl kt kf
theorem b201_31 {x : zXs} {F : zF} (hF : zSh F) {d : Nat} {V : Nat → Nat → Int32} {T : Nat → Nat → Int64} {Q : Option Value → zG → Prop} {o1 : Option Value} {o2 : Option Value} {l3 : Int32} {o4 : Option Value}   (kt : ¬ (((((l3 * (1103515245 : Int32)) + (Int32.ofInt 12345)).toUInt32 >>> ((Int32.ofInt 9).toUInt32 &&& Int32.toUInt32 31)).toInt32) - ((((l3 * (1103515245 : Int32)) + (Int32.ofInt 12345)).toUInt32 >>> ((Int32.ofInt 9).toUInt32 &&& Int32.toUInt32 31)).toInt32) / (Int32.ofInt 3) * (Int32.ofInt 3)) = 0 → E x F d 201 61 [some (.ref 59), o1, o2, some (.int ((l3 * (1103515245 : Int32)) + (Int32.ofInt 12345))), o4] [.int (V 63 4), .int (Int32.ofInt 4), .ref 63] (V, T) Q) (kf : ¬ (¬ (((((l3 * (1103515245 : Int32)) + (Int32.ofInt 12345)).toUInt32 >>> ((Int32.ofInt 9).toUInt32 &&& Int32.toUInt32 31)).toInt32) - ((((l3 * (1103515245 : Int32)) + (Int32.ofInt 12345)).toUInt32 >>> ((Int32.ofInt 9).toUInt32 &&& Int32.toUInt32 31)).toInt32) / (Int32.ofInt 3) * (Int32.ofInt 3)) = 0) → E x F d 201 57 [some (.ref 59), o1, o2, some (.int ((l3 * (1103515245 : Int32)) + (Int32.ofInt 12345))), o4] [.int (V 63 4), .int (Int32.ofInt 4), .ref 63] (V, T) Q) : E x F d 201 31 [some (.ref 59), o1, o2, some (.int l3), o4] [] (V, T) Q := by
  refine e_iload_n zd201_31 rfl ?_
  refine e_ldcw zd201_32 (own := 8) (w := 1301) (v := 1103515245) (by decide +kernel) (by decide +kernel) ?_
  refine e_imul zd201_35 ?_
  refine e_sipush zd201_36 (v := Int32.ofInt 12345) (by decide +kernel) ?_
  refine e_iadd zd201_39 ?_
  refine e_istore_n zd201_40 (by decide +kernel) (Nat.le_of_ble_eq_true rfl) ?_
  refine e_aload_n zd201_41 rfl rfl ?_
  refine e_getA zd201_42 (own := 8) (ci := 8) (kf := 8) (w := 866) (by decide +kernel) (by decide +kernel) (zsh_at hF rfl).1 (by decide +kernel) rfl (zrf_at hF (i := 62) rfl) ?_
  refine e_iconst zd201_45 ?_
  refine e_dup2 zd201_46 ⟨rfl, rfl⟩ ?_
  refine e_iald zd201_47 (i := 4) (zsh_at hF rfl) rfl (by omega) (by omega) ?_
  refine e_iload_n zd201_48 rfl ?_
  refine e_bipush zd201_49 (v := Int32.ofInt 9) (by decide +kernel) ?_
  refine e_iushr zd201_51 ?_
  refine e_iconst zd201_52 ?_
  refine e_irem zd201_53 (by decide +kernel) ?_
  exact e_if_ne zd201_54 (tg := 61) rfl kt kf
theorem b201_57 {x : zXs} {F : zF} (hF : zSh F) {d : Nat} {V : Nat → Nat → Int32} {T : Nat → Nat → Int64} {Q : Option Value → zG → Prop} {o0 : Option Value} {o1 : Option Value} {o2 : Option Value} {o3 : Option Value} {o4 : Option Value} {s0 : Nat} {ns0 : Nat} {s1 : Int32} {s2 : Int32} (hs0 : zsh F s0 = 100 ∧ zln F s0 = ns0) (qns0 : ns0 < 2 ^ 31)  (k : E x F d 201 65 [o0, o1, o2, o3, o4] [.int (Int32.ofInt 0), .int s2, .int s1, .ref s0] (V, T) Q) : E x F d 201 57 [o0, o1, o2, o3, o4] [.int s2, .int s1, .ref s0] (V, T) Q := by
  refine e_iconst zd201_57 ?_
  exact e_goto zd201_58 (tg := 65) rfl k
theorem b201_61 {x : zXs} {F : zF} (hF : zSh F) {d : Nat} {V : Nat → Nat → Int32} {T : Nat → Nat → Int64} {Q : Option Value → zG → Prop} {o0 : Option Value} {o1 : Option Value} {o2 : Option Value} {o3 : Option Value} {l4 : Int32} {s0 : Nat} {ns0 : Nat} {s1 : Int32} {s2 : Int32} (hs0 : zsh F s0 = 100 ∧ zln F s0 = ns0) (qns0 : ns0 < 2 ^ 31)  (k : E x F d 201 65 [o0, o1, o2, o3, some (.int l4)] [.int ((Int32.ofInt 1) <<< (l4 &&& 31)), .int s2, .int s1, .ref s0] (V, T) Q) : E x F d 201 61 [o0, o1, o2, o3, some (.int l4)] [.int s2, .int s1, .ref s0] (V, T) Q := by
  refine e_iconst zd201_61 ?_
  refine e_iload zd201_62 rfl ?_
  refine e_ishl zd201_64 ?_
  exact k
theorem b201_65 {x : zXs} {F : zF} (hF : zSh F) {d : Nat} {V : Nat → Nat → Int32} {T : Nat → Nat → Int64} {Q : Option Value → zG → Prop} {o0 : Option Value} {o1 : Option Value} {o2 : Option Value} {o3 : Option Value} {l4 : Int32} {s0 : Nat} {ns0 : Nat} {s1 : Int32} {s2 : Int32} {s3 : Int32} (hs0 : zsh F s0 = 100 ∧ zln F s0 = ns0) (qns0 : ns0 < 2 ^ 31) {i1 : Nat} (e1 : s1 = nI i1) (h1 : i1 < ns0) (k : E x F d 201 24 [o0, o1, o2, o3, some (.int (l4 + Int32.ofInt 1))] [] (zu V s0 i1 (s2 ||| s3), T) Q) : E x F d 201 65 [o0, o1, o2, o3, some (.int l4)] [.int s3, .int s2, .int s1, .ref s0] (V, T) Q := by
  refine e_ior zd201_65 ?_
  refine e_iast zd201_66 (i := i1) (hs0) e1 h1 qns0 ?_
  refine e_iinc zd201_67 rfl (by decide +kernel) ?_
  exact e_goto zd201_70 (tg := 24) rfl k
theorem b201_73 {x : zXs} {F : zF} (hF : zSh F) {d : Nat} {V : Nat → Nat → Int32} {T : Nat → Nat → Int64} {Q : Option Value → zG → Prop} {o1 : Option Value} {l2 : Int32} {o3 : Option Value} {o4 : Option Value}   (k : E x F d 171 0 [some (.ref 59), some (.int l2), some (.int (Int32.ofInt 4)), none, none, none, none, none] [] (V, T) (fun r G' => E x F (d + 1) 201 79 [some (.ref 59), o1, some (.int l2), o3, o4] (r.toList ++ []) G' Q)) : E x F (d + 1) 201 73 [some (.ref 59), o1, some (.int l2), o3, o4] [] (V, T) Q := by
  refine e_aload_n zd201_73 rfl rfl ?_
  refine e_iload_n zd201_74 rfl ?_
  refine e_iconst zd201_75 ?_
  exact e_callV zd201_76 (own := 8) (nest := false) (w := 1174) (by decide +kernel) (by decide +kernel) zs171 (as := [.int l2, .int (Int32.ofInt 4)]) (rest := []) rfl rfl (zsh_at hF rfl).1 (by omega) (Nat.le_of_ble_eq_true rfl) rfl rfl rfl (by omega) k
theorem b201_79 {x : zXs} {F : zF} (hF : zSh F) {d : Nat} {V : Nat → Nat → Int32} {T : Nat → Nat → Int64} {Q : Option Value → zG → Prop} {o1 : Option Value} {o2 : Option Value} {o3 : Option Value} {o4 : Option Value} {s0 : Int32}   (k : E x F d 181 0 [some (.ref 59), none] [] (V, T) (fun r G' => E x F (d + 1) 201 85 [some (.ref 59), o1, o2, o3, some (.int s0)] (r.toList ++ []) G' Q)) : E x F (d + 1) 201 79 [some (.ref 59), o1, o2, o3, o4] [.int s0] (V, T) Q := by
  refine e_istore zd201_79 (by decide +kernel) (Nat.le_of_ble_eq_true rfl) ?_
  refine e_aload_n zd201_81 rfl rfl ?_
  exact e_callV zd201_82 (own := 8) (nest := false) (w := 1214) (by decide +kernel) (by decide +kernel) zs181 (as := []) (rest := []) rfl rfl (zsh_at hF rfl).1 (by omega) (Nat.le_of_ble_eq_true rfl) rfl rfl rfl (by omega) k
theorem b201_85 {x : zXs} {F : zF} (hF : zSh F) {d : Nat} {V : Nat → Nat → Int32} {T : Nat → Nat → Int64} {Q : Option Value → zG → Prop} {o0 : Option Value} {o1 : Option Value} {o2 : Option Value} {o3 : Option Value} {l4 : Int32}   (k : Q (some (.int l4)) (V, T)) : E x F d 201 85 [o0, o1, o2, o3, some (.int l4)] [] (V, T) Q := by
  refine e_iload zd201_85 rfl ?_
  exact e_ireti zd201_87 zs201 k
theorem zd202_0 : zop 202 0 = some (.iload_n 2, 1) := by decide +kernel
theorem zd202_1 : zop 202 1 = some (.i2l, 1) := by decide +kernel
theorem zd202_2 : zop 202 2 = some (.lconst 1, 1) := by decide +kernel
theorem zd202_3 : zop 202 3 = some (.ldc2_w 306, 3) := by decide +kernel
theorem zd202_6 : zop 202 6 = some (.invokestatic 91, 3) := by decide +kernel
theorem zd202_9 : zop 202 9 = some (.ifCond .eq 35, 3) := by decide +kernel
theorem zd202_12 : zop 202 12 = some (.aload_n 0, 1) := by decide +kernel
theorem zd202_13 : zop 202 13 = some (.iload_n 3, 1) := by decide +kernel
theorem zd202_14 : zop 202 14 = some (.invokevirtual 112, 3) := by decide +kernel
theorem zd202_17 : zop 202 17 = some (.ifCond .eq 27, 3) := by decide +kernel
theorem zd202_20 : zop 202 20 = some (.iload 4, 2) := by decide +kernel
theorem zd202_22 : zop 202 22 = some (.i2l, 1) := by decide +kernel
theorem zd202_23 : zop 202 23 = some (.lconst 0, 1) := by decide +kernel
theorem zd202_24 : zop 202 24 = some (.ldc2_w 101, 3) := by decide +kernel
theorem zd202_27 : zop 202 27 = some (.invokestatic 91, 3) := by decide +kernel
theorem zd202_30 : zop 202 30 = some (.ifCond .eq 14, 3) := by decide +kernel
theorem zd202_33 : zop 202 33 = some (.iload 5, 2) := by decide +kernel
theorem zd202_35 : zop 202 35 = some (.i2l, 1) := by decide +kernel
theorem zd202_36 : zop 202 36 = some (.lconst 0, 1) := by decide +kernel
theorem zd202_37 : zop 202 37 = some (.lconst 1, 1) := by decide +kernel
theorem zd202_38 : zop 202 38 = some (.invokestatic 91, 3) := by decide +kernel
theorem zd202_41 : zop 202 41 = some (.ifCond .ne 7, 3) := by decide +kernel
theorem zd202_44 : zop 202 44 = some (.ldc2_w 334, 3) := by decide +kernel
theorem zd202_47 : zop 202 47 = some (.lreturn, 1) := by decide +kernel
theorem zd202_48 : zop 202 48 = some (.lconst 0, 1) := by decide +kernel
theorem zd202_49 : zop 202 49 = some (.lstore 6, 2) := by decide +kernel
theorem zd202_51 : zop 202 51 = some (.iconst 0, 1) := by decide +kernel
theorem zd202_52 : zop 202 52 = some (.istore 8, 2) := by decide +kernel
theorem zd202_54 : zop 202 54 = some (.iload 8, 2) := by decide +kernel
theorem zd202_56 : zop 202 56 = some (.iload_n 2, 1) := by decide +kernel
theorem zd202_57 : zop 202 57 = some (.if_icmp .ge 33, 3) := by decide +kernel
theorem zd202_60 : zop 202 60 = some (.lload 6, 2) := by decide +kernel
theorem zd202_62 : zop 202 62 = some (.aload_n 0, 1) := by decide +kernel
theorem zd202_63 : zop 202 63 = some (.iload_n 1, 1) := by decide +kernel
theorem zd202_64 : zop 202 64 = some (.iload 8, 2) := by decide +kernel
theorem zd202_66 : zop 202 66 = some (.iadd, 1) := by decide +kernel
theorem zd202_67 : zop 202 67 = some (.iload_n 3, 1) := by decide +kernel
theorem zd202_68 : zop 202 68 = some (.invokevirtual 354, 3) := by decide +kernel
theorem zd202_71 : zop 202 71 = some (.iload 4, 2) := by decide +kernel
theorem zd202_73 : zop 202 73 = some (.if_icmp .lt 7, 3) := by decide +kernel
theorem zd202_76 : zop 202 76 = some (.lconst 1, 1) := by decide +kernel
theorem zd202_77 : zop 202 77 = some (.goto 4, 3) := by decide +kernel
theorem zd202_80 : zop 202 80 = some (.lconst 0, 1) := by decide +kernel
theorem zd202_81 : zop 202 81 = some (.ladd, 1) := by decide +kernel
theorem zd202_82 : zop 202 82 = some (.lstore 6, 2) := by decide +kernel
theorem zd202_84 : zop 202 84 = some (.iinc 8 1, 3) := by decide +kernel
theorem zd202_87 : zop 202 87 = some (.goto (-33), 3) := by decide +kernel
theorem zd202_90 : zop 202 90 = some (.lload 6, 2) := by decide +kernel
theorem zd202_92 : zop 202 92 = some (.iload_n 2, 1) := by decide +kernel
theorem zd202_93 : zop 202 93 = some (.i2l, 1) := by decide +kernel
theorem zd202_94 : zop 202 94 = some (.iload 5, 2) := by decide +kernel
theorem zd202_96 : zop 202 96 = some (.invokestatic 330, 3) := by decide +kernel
theorem zd202_99 : zop 202 99 = some (.lreturn, 1) := by decide +kernel
theorem b202_0 {x : zXs} {F : zF} (hF : zSh F) {d : Nat} {V : Nat → Nat → Int32} {T : Nat → Nat → Int64} {Q : Option Value → zG → Prop} {o0 : Option Value} {o1 : Option Value} {l2 : Int32} {o3 : Option Value} {o4 : Option Value} {o5 : Option Value} {o6 : Option Value} {o7 : Option Value} {o8 : Option Value}   (k : E x F d 132 0 [some (.long l2.toInt64), none, some (.long 1), none, some (.long (20 : Int64)), none] [] (V, T) (fun r G' => E x F (d + 1) 202 9 [o0, o1, some (.int l2), o3, o4, o5, o6, o7, o8] (r.toList ++ []) G' Q)) : E x F (d + 1) 202 0 [o0, o1, some (.int l2), o3, o4, o5, o6, o7, o8] [] (V, T) Q := by
  refine e_iload_n zd202_0 rfl ?_
  refine e_i2l zd202_1 ?_
  refine e_lconst zd202_2 (v := 1) rfl ?_
  refine e_ldc2 zd202_3 (own := 8) (w := 1222) (v := 20) (by decide +kernel) (by decide +kernel) ?_
  exact e_callS zd202_6 (own := 8) (nest := false) (w := 1009) (by decide +kernel) (by decide +kernel) zs132 (as := [.long l2.toInt64, .long 1, .long (20 : Int64)]) (rest := []) rfl rfl (Nat.le_of_ble_eq_true rfl) rfl rfl rfl (by omega) k
theorem b202_9 {x : zXs} {F : zF} (hF : zSh F) {d : Nat} {V : Nat → Nat → Int32} {T : Nat → Nat → Int64} {Q : Option Value → zG → Prop} {o0 : Option Value} {o1 : Option Value} {o2 : Option Value} {o3 : Option Value} {o4 : Option Value} {o5 : Option Value} {o6 : Option Value} {o7 : Option Value} {o8 : Option Value} {s0 : Int32}   (kt : s0 = 0 → E x F d 202 44 [o0, o1, o2, o3, o4, o5, o6, o7, o8] [] (V, T) Q) (kf : ¬ (s0 = 0) → E x F d 202 12 [o0, o1, o2, o3, o4, o5, o6, o7, o8] [] (V, T) Q) : E x F d 202 9 [o0, o1, o2, o3, o4, o5, o6, o7, o8] [.int s0] (V, T) Q := by
  exact e_if_eq zd202_9 (tg := 44) rfl kt kf
theorem b202_12 {x : zXs} {F : zF} (hF : zSh F) {d : Nat} {V : Nat → Nat → Int32} {T : Nat → Nat → Int64} {Q : Option Value → zG → Prop} {o1 : Option Value} {o2 : Option Value} {l3 : Int32} {o4 : Option Value} {o5 : Option Value} {o6 : Option Value} {o7 : Option Value} {o8 : Option Value}   (k : E x F d 136 0 [some (.ref 59), some (.int l3)] [] (V, T) (fun r G' => E x F (d + 1) 202 17 [some (.ref 59), o1, o2, some (.int l3), o4, o5, o6, o7, o8] (r.toList ++ []) G' Q)) : E x F (d + 1) 202 12 [some (.ref 59), o1, o2, some (.int l3), o4, o5, o6, o7, o8] [] (V, T) Q := by
  refine e_aload_n zd202_12 rfl rfl ?_
  refine e_iload_n zd202_13 rfl ?_
  exact e_callV zd202_14 (own := 8) (nest := false) (w := 1025) (by decide +kernel) (by decide +kernel) zs136 (as := [.int l3]) (rest := []) rfl rfl (zsh_at hF rfl).1 (by omega) (Nat.le_of_ble_eq_true rfl) rfl rfl rfl (by omega) k
theorem b202_17 {x : zXs} {F : zF} (hF : zSh F) {d : Nat} {V : Nat → Nat → Int32} {T : Nat → Nat → Int64} {Q : Option Value → zG → Prop} {o0 : Option Value} {o1 : Option Value} {o2 : Option Value} {o3 : Option Value} {o4 : Option Value} {o5 : Option Value} {o6 : Option Value} {o7 : Option Value} {o8 : Option Value} {s0 : Int32}   (kt : s0 = 0 → E x F d 202 44 [o0, o1, o2, o3, o4, o5, o6, o7, o8] [] (V, T) Q) (kf : ¬ (s0 = 0) → E x F d 202 20 [o0, o1, o2, o3, o4, o5, o6, o7, o8] [] (V, T) Q) : E x F d 202 17 [o0, o1, o2, o3, o4, o5, o6, o7, o8] [.int s0] (V, T) Q := by
  exact e_if_eq zd202_17 (tg := 44) rfl kt kf
theorem b202_20 {x : zXs} {F : zF} (hF : zSh F) {d : Nat} {V : Nat → Nat → Int32} {T : Nat → Nat → Int64} {Q : Option Value → zG → Prop} {o0 : Option Value} {o1 : Option Value} {o2 : Option Value} {o3 : Option Value} {l4 : Int32} {o5 : Option Value} {o6 : Option Value} {o7 : Option Value} {o8 : Option Value}   (k : E x F d 132 0 [some (.long l4.toInt64), none, some (.long 0), none, some (.long (24 : Int64)), none] [] (V, T) (fun r G' => E x F (d + 1) 202 30 [o0, o1, o2, o3, some (.int l4), o5, o6, o7, o8] (r.toList ++ []) G' Q)) : E x F (d + 1) 202 20 [o0, o1, o2, o3, some (.int l4), o5, o6, o7, o8] [] (V, T) Q := by
  refine e_iload zd202_20 rfl ?_
  refine e_i2l zd202_22 ?_
  refine e_lconst zd202_23 (v := 0) rfl ?_
  refine e_ldc2 zd202_24 (own := 8) (w := 1012) (v := 24) (by decide +kernel) (by decide +kernel) ?_
  exact e_callS zd202_27 (own := 8) (nest := false) (w := 1009) (by decide +kernel) (by decide +kernel) zs132 (as := [.long l4.toInt64, .long 0, .long (24 : Int64)]) (rest := []) rfl rfl (Nat.le_of_ble_eq_true rfl) rfl rfl rfl (by omega) k
theorem b202_30 {x : zXs} {F : zF} (hF : zSh F) {d : Nat} {V : Nat → Nat → Int32} {T : Nat → Nat → Int64} {Q : Option Value → zG → Prop} {o0 : Option Value} {o1 : Option Value} {o2 : Option Value} {o3 : Option Value} {o4 : Option Value} {o5 : Option Value} {o6 : Option Value} {o7 : Option Value} {o8 : Option Value} {s0 : Int32}   (kt : s0 = 0 → E x F d 202 44 [o0, o1, o2, o3, o4, o5, o6, o7, o8] [] (V, T) Q) (kf : ¬ (s0 = 0) → E x F d 202 33 [o0, o1, o2, o3, o4, o5, o6, o7, o8] [] (V, T) Q) : E x F d 202 30 [o0, o1, o2, o3, o4, o5, o6, o7, o8] [.int s0] (V, T) Q := by
  exact e_if_eq zd202_30 (tg := 44) rfl kt kf
theorem b202_33 {x : zXs} {F : zF} (hF : zSh F) {d : Nat} {V : Nat → Nat → Int32} {T : Nat → Nat → Int64} {Q : Option Value → zG → Prop} {o0 : Option Value} {o1 : Option Value} {o2 : Option Value} {o3 : Option Value} {o4 : Option Value} {l5 : Int32} {o6 : Option Value} {o7 : Option Value} {o8 : Option Value}   (k : E x F d 132 0 [some (.long l5.toInt64), none, some (.long 0), none, some (.long 1), none] [] (V, T) (fun r G' => E x F (d + 1) 202 41 [o0, o1, o2, o3, o4, some (.int l5), o6, o7, o8] (r.toList ++ []) G' Q)) : E x F (d + 1) 202 33 [o0, o1, o2, o3, o4, some (.int l5), o6, o7, o8] [] (V, T) Q := by
  refine e_iload zd202_33 rfl ?_
  refine e_i2l zd202_35 ?_
  refine e_lconst zd202_36 (v := 0) rfl ?_
  refine e_lconst zd202_37 (v := 1) rfl ?_
  exact e_callS zd202_38 (own := 8) (nest := false) (w := 1009) (by decide +kernel) (by decide +kernel) zs132 (as := [.long l5.toInt64, .long 0, .long 1]) (rest := []) rfl rfl (Nat.le_of_ble_eq_true rfl) rfl rfl rfl (by omega) k
theorem b202_41 {x : zXs} {F : zF} (hF : zSh F) {d : Nat} {V : Nat → Nat → Int32} {T : Nat → Nat → Int64} {Q : Option Value → zG → Prop} {o0 : Option Value} {o1 : Option Value} {o2 : Option Value} {o3 : Option Value} {o4 : Option Value} {o5 : Option Value} {o6 : Option Value} {o7 : Option Value} {o8 : Option Value} {s0 : Int32}   (kt : ¬ s0 = 0 → E x F d 202 48 [o0, o1, o2, o3, o4, o5, o6, o7, o8] [] (V, T) Q) (kf : ¬ (¬ s0 = 0) → E x F d 202 44 [o0, o1, o2, o3, o4, o5, o6, o7, o8] [] (V, T) Q) : E x F d 202 41 [o0, o1, o2, o3, o4, o5, o6, o7, o8] [.int s0] (V, T) Q := by
  exact e_if_ne zd202_41 (tg := 48) rfl kt kf
theorem b202_44 {x : zXs} {F : zF} (hF : zSh F) {d : Nat} {V : Nat → Nat → Int32} {T : Nat → Nat → Int64} {Q : Option Value → zG → Prop} {o0 : Option Value} {o1 : Option Value} {o2 : Option Value} {o3 : Option Value} {o4 : Option Value} {o5 : Option Value} {o6 : Option Value} {o7 : Option Value} {o8 : Option Value}   (k : Q (some (.long (-4611686018427387904 : Int64))) (V, T)) : E x F d 202 44 [o0, o1, o2, o3, o4, o5, o6, o7, o8] [] (V, T) Q := by
  refine e_ldc2 zd202_44 (own := 8) (w := 1263) (v := (-4611686018427387904)) (by decide +kernel) (by decide +kernel) ?_
  exact e_lret zd202_47 zs202 k
theorem b202_48 {x : zXs} {F : zF} (hF : zSh F) {d : Nat} {V : Nat → Nat → Int32} {T : Nat → Nat → Int64} {Q : Option Value → zG → Prop} {o0 : Option Value} {o1 : Option Value} {o2 : Option Value} {o3 : Option Value} {o4 : Option Value} {o5 : Option Value} {o6 : Option Value} {o7 : Option Value} {o8 : Option Value}   (k : E x F d 202 54 [o0, o1, o2, o3, o4, o5, some (.long 0), none, some (.int (Int32.ofInt 0))] [] (V, T) Q) : E x F d 202 48 [o0, o1, o2, o3, o4, o5, o6, o7, o8] [] (V, T) Q := by
  refine e_lconst zd202_48 (v := 0) rfl ?_
  refine e_lstore zd202_49 (by decide +kernel) (Nat.le_of_ble_eq_true rfl) ?_
  refine e_iconst zd202_51 ?_
  refine e_istore zd202_52 (by decide +kernel) (Nat.le_of_ble_eq_true rfl) ?_
  exact k
theorem b202_54 {x : zXs} {F : zF} (hF : zSh F) {d : Nat} {V : Nat → Nat → Int32} {T : Nat → Nat → Int64} {Q : Option Value → zG → Prop} {o0 : Option Value} {o1 : Option Value} {l2 : Int32} {o3 : Option Value} {o4 : Option Value} {o5 : Option Value} {o6 : Option Value} {o7 : Option Value} {l8 : Int32}   (kt : l2 ≤ l8 → E x F d 202 90 [o0, o1, some (.int l2), o3, o4, o5, o6, o7, some (.int l8)] [] (V, T) Q) (kf : ¬ (l2 ≤ l8) → E x F d 202 60 [o0, o1, some (.int l2), o3, o4, o5, o6, o7, some (.int l8)] [] (V, T) Q) : E x F d 202 54 [o0, o1, some (.int l2), o3, o4, o5, o6, o7, some (.int l8)] [] (V, T) Q := by
  refine e_iload zd202_54 rfl ?_
  refine e_iload_n zd202_56 rfl ?_
  exact e_icmp_ge zd202_57 (tg := 90) rfl kt kf
theorem b202_60 {x : zXs} {F : zF} (hF : zSh F) {d : Nat} {V : Nat → Nat → Int32} {T : Nat → Nat → Int64} {Q : Option Value → zG → Prop} {l1 : Int32} {o2 : Option Value} {l3 : Int32} {o4 : Option Value} {o5 : Option Value} {l6 : Int64} {o7 : Option Value} {l8 : Int32}   (k : E x F d 201 0 [some (.ref 59), some (.int (l1 + l8)), some (.int l3), none, none] [] (V, T) (fun r G' => E x F (d + 1) 202 71 [some (.ref 59), some (.int l1), o2, some (.int l3), o4, o5, some (.long l6), o7, some (.int l8)] (r.toList ++ [.long l6]) G' Q)) : E x F (d + 1) 202 60 [some (.ref 59), some (.int l1), o2, some (.int l3), o4, o5, some (.long l6), o7, some (.int l8)] [] (V, T) Q := by
  refine e_lload zd202_60 rfl ?_
  refine e_aload_n zd202_62 rfl rfl ?_
  refine e_iload_n zd202_63 rfl ?_
  refine e_iload zd202_64 rfl ?_
  refine e_iadd zd202_66 ?_
  refine e_iload_n zd202_67 rfl ?_
  exact e_callV zd202_68 (own := 8) (nest := false) (w := 1297) (by decide +kernel) (by decide +kernel) zs201 (as := [.int (l1 + l8), .int l3]) (rest := [.long l6]) rfl rfl (zsh_at hF rfl).1 (by omega) (Nat.le_of_ble_eq_true rfl) rfl rfl rfl (by omega) k
theorem b202_71 {x : zXs} {F : zF} (hF : zSh F) {d : Nat} {V : Nat → Nat → Int32} {T : Nat → Nat → Int64} {Q : Option Value → zG → Prop} {o0 : Option Value} {o1 : Option Value} {o2 : Option Value} {o3 : Option Value} {l4 : Int32} {o5 : Option Value} {o6 : Option Value} {o7 : Option Value} {o8 : Option Value} {s0 : Int64} {s1 : Int32}   (kt : s1 < l4 → E x F d 202 80 [o0, o1, o2, o3, some (.int l4), o5, o6, o7, o8] [.long s0] (V, T) Q) (kf : ¬ (s1 < l4) → E x F d 202 76 [o0, o1, o2, o3, some (.int l4), o5, o6, o7, o8] [.long s0] (V, T) Q) : E x F d 202 71 [o0, o1, o2, o3, some (.int l4), o5, o6, o7, o8] [.int s1, .long s0] (V, T) Q := by
  refine e_iload zd202_71 rfl ?_
  exact e_icmp_lt zd202_73 (tg := 80) rfl kt kf
theorem b202_76 {x : zXs} {F : zF} (hF : zSh F) {d : Nat} {V : Nat → Nat → Int32} {T : Nat → Nat → Int64} {Q : Option Value → zG → Prop} {o0 : Option Value} {o1 : Option Value} {o2 : Option Value} {o3 : Option Value} {o4 : Option Value} {o5 : Option Value} {o6 : Option Value} {o7 : Option Value} {o8 : Option Value} {s0 : Int64}   (k : E x F d 202 81 [o0, o1, o2, o3, o4, o5, o6, o7, o8] [.long 1, .long s0] (V, T) Q) : E x F d 202 76 [o0, o1, o2, o3, o4, o5, o6, o7, o8] [.long s0] (V, T) Q := by
  refine e_lconst zd202_76 (v := 1) rfl ?_
  exact e_goto zd202_77 (tg := 81) rfl k
theorem b202_80 {x : zXs} {F : zF} (hF : zSh F) {d : Nat} {V : Nat → Nat → Int32} {T : Nat → Nat → Int64} {Q : Option Value → zG → Prop} {o0 : Option Value} {o1 : Option Value} {o2 : Option Value} {o3 : Option Value} {o4 : Option Value} {o5 : Option Value} {o6 : Option Value} {o7 : Option Value} {o8 : Option Value} {s0 : Int64}   (k : E x F d 202 81 [o0, o1, o2, o3, o4, o5, o6, o7, o8] [.long 0, .long s0] (V, T) Q) : E x F d 202 80 [o0, o1, o2, o3, o4, o5, o6, o7, o8] [.long s0] (V, T) Q := by
  refine e_lconst zd202_80 (v := 0) rfl ?_
  exact k
theorem b202_81 {x : zXs} {F : zF} (hF : zSh F) {d : Nat} {V : Nat → Nat → Int32} {T : Nat → Nat → Int64} {Q : Option Value → zG → Prop} {o0 : Option Value} {o1 : Option Value} {o2 : Option Value} {o3 : Option Value} {o4 : Option Value} {o5 : Option Value} {o6 : Option Value} {o7 : Option Value} {l8 : Int32} {s0 : Int64} {s1 : Int64}   (k : E x F d 202 54 [o0, o1, o2, o3, o4, o5, some (.long (s0 + s1)), none, some (.int (l8 + Int32.ofInt 1))] [] (V, T) Q) : E x F d 202 81 [o0, o1, o2, o3, o4, o5, o6, o7, some (.int l8)] [.long s1, .long s0] (V, T) Q := by
  refine e_ladd zd202_81 ?_
  refine e_lstore zd202_82 (by decide +kernel) (Nat.le_of_ble_eq_true rfl) ?_
  refine e_iinc zd202_84 rfl (by decide +kernel) ?_
  exact e_goto zd202_87 (tg := 54) rfl k
theorem b202_90 {x : zXs} {F : zF} (hF : zSh F) {d : Nat} {V : Nat → Nat → Int32} {T : Nat → Nat → Int64} {Q : Option Value → zG → Prop} {o0 : Option Value} {o1 : Option Value} {l2 : Int32} {o3 : Option Value} {o4 : Option Value} {l5 : Int32} {l6 : Int64} {o7 : Option Value} {o8 : Option Value}   (k : E x F d 192 0 [some (.long l6), none, some (.long l2.toInt64), none, some (.int l5), none, none, none, none, none, none] [] (V, T) (fun r G' => E x F (d + 1) 202 99 [o0, o1, some (.int l2), o3, o4, some (.int l5), some (.long l6), o7, o8] (r.toList ++ []) G' Q)) : E x F (d + 1) 202 90 [o0, o1, some (.int l2), o3, o4, some (.int l5), some (.long l6), o7, o8] [] (V, T) Q := by
  refine e_lload zd202_90 rfl ?_
  refine e_iload_n zd202_92 rfl ?_
  refine e_i2l zd202_93 ?_
  refine e_iload zd202_94 rfl ?_
  exact e_callS zd202_96 (own := 8) (nest := false) (w := 1260) (by decide +kernel) (by decide +kernel) zs192 (as := [.long l6, .long l2.toInt64, .int l5]) (rest := []) rfl rfl (Nat.le_of_ble_eq_true rfl) rfl rfl rfl (by omega) k
theorem b202_99 {x : zXs} {F : zF} (hF : zSh F) {d : Nat} {V : Nat → Nat → Int32} {T : Nat → Nat → Int64} {Q : Option Value → zG → Prop} {o0 : Option Value} {o1 : Option Value} {o2 : Option Value} {o3 : Option Value} {o4 : Option Value} {o5 : Option Value} {o6 : Option Value} {o7 : Option Value} {o8 : Option Value} {s0 : Int64}   (k : Q (some (.long s0)) (V, T)) : E x F d 202 99 [o0, o1, o2, o3, o4, o5, o6, o7, o8] [.long s0] (V, T) Q := by
  exact e_lret zd202_99 zs202 k
theorem zd203_0 : zop 203 0 = some (.iconst 0, 1) := by decide +kernel
theorem zd203_1 : zop 203 1 = some (.istore_n 1, 1) := by decide +kernel
theorem zd203_2 : zop 203 2 = some (.iload_n 1, 1) := by decide +kernel
theorem zd203_3 : zop 203 3 = some (.iconst 4, 1) := by decide +kernel
theorem zd203_4 : zop 203 4 = some (.if_icmp .ge 33, 3) := by decide +kernel
theorem zd203_7 : zop 203 7 = some (.aload_n 0, 1) := by decide +kernel
theorem zd203_8 : zop 203 8 = some (.getfield 56, 3) := by decide +kernel
theorem zd203_11 : zop 203 11 = some (.iload_n 1, 1) := by decide +kernel
theorem zd203_12 : zop 203 12 = some (.aload_n 0, 1) := by decide +kernel
theorem zd203_13 : zop 203 13 = some (.getfield 23, 3) := by decide +kernel
theorem zd203_16 : zop 203 16 = some (.iload_n 1, 1) := by decide +kernel
theorem zd203_17 : zop 203 17 = some (.iaload, 1) := by decide +kernel
theorem zd203_18 : zop 203 18 = some (.iastore, 1) := by decide +kernel
theorem zd203_19 : zop 203 19 = some (.aload_n 0, 1) := by decide +kernel
theorem zd203_20 : zop 203 20 = some (.getfield 59, 3) := by decide +kernel
theorem zd203_23 : zop 203 23 = some (.iload_n 1, 1) := by decide +kernel
theorem zd203_24 : zop 203 24 = some (.aload_n 0, 1) := by decide +kernel
theorem zd203_25 : zop 203 25 = some (.getfield 26, 3) := by decide +kernel
theorem zd203_28 : zop 203 28 = some (.iload_n 1, 1) := by decide +kernel
theorem zd203_29 : zop 203 29 = some (.iaload, 1) := by decide +kernel
theorem zd203_30 : zop 203 30 = some (.iastore, 1) := by decide +kernel
theorem zd203_31 : zop 203 31 = some (.iinc 1 1, 3) := by decide +kernel
theorem zd203_34 : zop 203 34 = some (.goto (-32), 3) := by decide +kernel
theorem zd203_37 : zop 203 37 = some (.iconst 0, 1) := by decide +kernel
theorem zd203_38 : zop 203 38 = some (.istore_n 1, 1) := by decide +kernel
theorem zd203_39 : zop 203 39 = some (.iload_n 1, 1) := by decide +kernel
theorem zd203_40 : zop 203 40 = some (.bipush 10, 2) := by decide +kernel
theorem zd203_42 : zop 203 42 = some (.if_icmp .ge 21, 3) := by decide +kernel
theorem zd203_45 : zop 203 45 = some (.aload_n 0, 1) := by decide +kernel
theorem zd203_46 : zop 203 46 = some (.getfield 62, 3) := by decide +kernel
theorem zd203_49 : zop 203 49 = some (.iload_n 1, 1) := by decide +kernel
theorem zd203_50 : zop 203 50 = some (.aload_n 0, 1) := by decide +kernel
theorem zd203_51 : zop 203 51 = some (.getfield 32, 3) := by decide +kernel
theorem zd203_54 : zop 203 54 = some (.iload_n 1, 1) := by decide +kernel
theorem zd203_55 : zop 203 55 = some (.iaload, 1) := by decide +kernel
theorem zd203_56 : zop 203 56 = some (.iastore, 1) := by decide +kernel
theorem zd203_57 : zop 203 57 = some (.iinc 1 1, 3) := by decide +kernel
theorem zd203_60 : zop 203 60 = some (.goto (-21), 3) := by decide +kernel
theorem zd203_63 : zop 203 63 = some (.aload_n 0, 1) := by decide +kernel
theorem zd203_64 : zop 203 64 = some (.aload_n 0, 1) := by decide +kernel
theorem zd203_65 : zop 203 65 = some (.getfield 88, 3) := by decide +kernel
theorem zd203_68 : zop 203 68 = some (.putfield 65, 3) := by decide +kernel
theorem zd203_71 : zop 203 71 = some (.aload_n 0, 1) := by decide +kernel
theorem zd203_72 : zop 203 72 = some (.aload_n 0, 1) := by decide +kernel
theorem zd203_73 : zop 203 73 = some (.getfield 126, 3) := by decide +kernel
theorem zd203_76 : zop 203 76 = some (.putfield 357, 3) := by decide +kernel
theorem zd203_79 : zop 203 79 = some (.aload_n 0, 1) := by decide +kernel
theorem zd203_80 : zop 203 80 = some (.aload_n 0, 1) := by decide +kernel
theorem zd203_81 : zop 203 81 = some (.getfield 129, 3) := by decide +kernel
theorem zd203_84 : zop 203 84 = some (.putfield 360, 3) := by decide +kernel
theorem zd203_87 : zop 203 87 = some (.aload_n 0, 1) := by decide +kernel
theorem zd203_88 : zop 203 88 = some (.getfield 88, 3) := by decide +kernel
theorem zd203_91 : zop 203 91 = some (.ireturn, 1) := by decide +kernel
theorem b203_0 {x : zXs} {F : zF} (hF : zSh F) {d : Nat} {V : Nat → Nat → Int32} {T : Nat → Nat → Int64} {Q : Option Value → zG → Prop} {o0 : Option Value} {o1 : Option Value}   (k : E x F d 203 2 [o0, some (.int (Int32.ofInt 0))] [] (V, T) Q) : E x F d 203 0 [o0, o1] [] (V, T) Q := by
  refine e_iconst zd203_0 ?_
  refine e_istore_n zd203_1 (by decide +kernel) (Nat.le_of_ble_eq_true rfl) ?_
  exact k
theorem b203_2 {x : zXs} {F : zF} (hF : zSh F) {d : Nat} {V : Nat → Nat → Int32} {T : Nat → Nat → Int64} {Q : Option Value → zG → Prop} {o0 : Option Value} {l1 : Int32}   (kt : (Int32.ofInt 4) ≤ l1 → E x F d 203 37 [o0, some (.int l1)] [] (V, T) Q) (kf : ¬ ((Int32.ofInt 4) ≤ l1) → E x F d 203 7 [o0, some (.int l1)] [] (V, T) Q) : E x F d 203 2 [o0, some (.int l1)] [] (V, T) Q := by
  refine e_iload_n zd203_2 rfl ?_
  refine e_iconst zd203_3 ?_
  exact e_icmp_ge zd203_4 (tg := 37) rfl kt kf
theorem b203_7 {x : zXs} {F : zF} (hF : zSh F) {d : Nat} {V : Nat → Nat → Int32} {T : Nat → Nat → Int64} {Q : Option Value → zG → Prop} {l1 : Int32}  {i1 : Nat} (e1 : l1 = nI i1) (h1 : i1 < 5) {i2 : Nat} (e2 : l1 = nI i2) (h2 : i2 < 4) {i3 : Nat} (e3 : l1 = nI i3) (h3 : i3 < 5) {i4 : Nat} (e4 : l1 = nI i4) (h4 : i4 < 4) (k : E x F d 203 2 [some (.ref 59), some (.int (l1 + Int32.ofInt 1))] [] (zu (zu V 74 i2 (V 63 i1)) 75 i4 ((zu V 74 i2 (V 63 i1)) 64 i3), T) Q) : E x F d 203 7 [some (.ref 59), some (.int l1)] [] (V, T) Q := by
  refine e_aload_n zd203_7 rfl rfl ?_
  refine e_getA zd203_8 (own := 8) (ci := 8) (kf := 37) (w := 895) (by decide +kernel) (by decide +kernel) (zsh_at hF rfl).1 (by decide +kernel) rfl (zrf_at hF (i := 73) rfl) ?_
  refine e_iload_n zd203_11 rfl ?_
  refine e_aload_n zd203_12 rfl rfl ?_
  refine e_getA zd203_13 (own := 8) (ci := 8) (kf := 8) (w := 866) (by decide +kernel) (by decide +kernel) (zsh_at hF rfl).1 (by decide +kernel) rfl (zrf_at hF (i := 62) rfl) ?_
  refine e_iload_n zd203_16 rfl ?_
  refine e_iald zd203_17 (i := i1) (zsh_at hF rfl) e1 h1 (by omega) ?_
  refine e_iast zd203_18 (i := i2) (zsh_at hF rfl) e2 h2 (by omega) ?_
  refine e_aload_n zd203_19 rfl rfl ?_
  refine e_getA zd203_20 (own := 8) (ci := 8) (kf := 38) (w := 896) (by decide +kernel) (by decide +kernel) (zsh_at hF rfl).1 (by decide +kernel) rfl (zrf_at hF (i := 74) rfl) ?_
  refine e_iload_n zd203_23 rfl ?_
  refine e_aload_n zd203_24 rfl rfl ?_
  refine e_getA zd203_25 (own := 8) (ci := 8) (kf := 9) (w := 867) (by decide +kernel) (by decide +kernel) (zsh_at hF rfl).1 (by decide +kernel) rfl (zrf_at hF (i := 63) rfl) ?_
  refine e_iload_n zd203_28 rfl ?_
  refine e_iald zd203_29 (i := i3) (zsh_at hF rfl) e3 h3 (by omega) ?_
  refine e_iast zd203_30 (i := i4) (zsh_at hF rfl) e4 h4 (by omega) ?_
  refine e_iinc zd203_31 rfl (by decide +kernel) ?_
  exact e_goto zd203_34 (tg := 2) rfl k
theorem b203_37 {x : zXs} {F : zF} (hF : zSh F) {d : Nat} {V : Nat → Nat → Int32} {T : Nat → Nat → Int64} {Q : Option Value → zG → Prop} {o0 : Option Value} {o1 : Option Value}   (k : E x F d 203 39 [o0, some (.int (Int32.ofInt 0))] [] (V, T) Q) : E x F d 203 37 [o0, o1] [] (V, T) Q := by
  refine e_iconst zd203_37 ?_
  refine e_istore_n zd203_38 (by decide +kernel) (Nat.le_of_ble_eq_true rfl) ?_
  exact k
theorem b203_39 {x : zXs} {F : zF} (hF : zSh F) {d : Nat} {V : Nat → Nat → Int32} {T : Nat → Nat → Int64} {Q : Option Value → zG → Prop} {o0 : Option Value} {l1 : Int32}   (kt : (Int32.ofInt 10) ≤ l1 → E x F d 203 63 [o0, some (.int l1)] [] (V, T) Q) (kf : ¬ ((Int32.ofInt 10) ≤ l1) → E x F d 203 45 [o0, some (.int l1)] [] (V, T) Q) : E x F d 203 39 [o0, some (.int l1)] [] (V, T) Q := by
  refine e_iload_n zd203_39 rfl ?_
  refine e_bipush zd203_40 (v := Int32.ofInt 10) (by decide +kernel) ?_
  exact e_icmp_ge zd203_42 (tg := 63) rfl kt kf
theorem b203_45 {x : zXs} {F : zF} (hF : zSh F) {d : Nat} {V : Nat → Nat → Int32} {T : Nat → Nat → Int64} {Q : Option Value → zG → Prop} {l1 : Int32}  {i1 : Nat} (e1 : l1 = nI i1) (h1 : i1 < 10) {i2 : Nat} (e2 : l1 = nI i2) (h2 : i2 < 10) (k : E x F d 203 39 [some (.ref 59), some (.int (l1 + Int32.ofInt 1))] [] (zu V 76 i2 (V 66 i1), T) Q) : E x F d 203 45 [some (.ref 59), some (.int l1)] [] (V, T) Q := by
  refine e_aload_n zd203_45 rfl rfl ?_
  refine e_getA zd203_46 (own := 8) (ci := 8) (kf := 39) (w := 897) (by decide +kernel) (by decide +kernel) (zsh_at hF rfl).1 (by decide +kernel) rfl (zrf_at hF (i := 75) rfl) ?_
  refine e_iload_n zd203_49 rfl ?_
  refine e_aload_n zd203_50 rfl rfl ?_
  refine e_getA zd203_51 (own := 8) (ci := 8) (kf := 11) (w := 869) (by decide +kernel) (by decide +kernel) (zsh_at hF rfl).1 (by decide +kernel) rfl (zrf_at hF (i := 65) rfl) ?_
  refine e_iload_n zd203_54 rfl ?_
  refine e_iald zd203_55 (i := i1) (zsh_at hF rfl) e1 h1 (by omega) ?_
  refine e_iast zd203_56 (i := i2) (zsh_at hF rfl) e2 h2 (by omega) ?_
  refine e_iinc zd203_57 rfl (by decide +kernel) ?_
  exact e_goto zd203_60 (tg := 39) rfl k
theorem b203_63 {x : zXs} {F : zF} (hF : zSh F) {d : Nat} {V : Nat → Nat → Int32} {T : Nat → Nat → Int64} {Q : Option Value → zG → Prop} {o1 : Option Value}   (k : Q (some (.int ((zu (zu (zu V 59 40 (V 59 12)) 59 41 ((zu V 59 40 (V 59 12)) 59 7)) 59 42 ((zu (zu V 59 40 (V 59 12)) 59 41 ((zu V 59 40 (V 59 12)) 59 7)) 59 4)) 59 12))) (zu (zu (zu V 59 40 (V 59 12)) 59 41 ((zu V 59 40 (V 59 12)) 59 7)) 59 42 ((zu (zu V 59 40 (V 59 12)) 59 41 ((zu V 59 40 (V 59 12)) 59 7)) 59 4), T)) : E x F d 203 63 [some (.ref 59), o1] [] (V, T) Q := by
  refine e_aload_n zd203_63 rfl rfl ?_
  refine e_aload_n zd203_64 rfl rfl ?_
  refine e_getI zd203_65 (own := 8) (ci := 8) (kf := 12) (w := 870) (by decide +kernel) (by decide +kernel) (zsh_at hF rfl).1 (by decide +kernel) rfl ?_
  refine e_putI zd203_68 (own := 8) (ci := 8) (kf := 40) (w := 898) (by decide +kernel) (by decide +kernel) (zsh_at hF rfl).1 (by decide +kernel) rfl ?_
  refine e_aload_n zd203_71 rfl rfl ?_
  refine e_aload_n zd203_72 rfl rfl ?_
  refine e_getI zd203_73 (own := 8) (ci := 8) (kf := 7) (w := 865) (by decide +kernel) (by decide +kernel) (zsh_at hF rfl).1 (by decide +kernel) rfl ?_
  refine e_putI zd203_76 (own := 8) (ci := 8) (kf := 41) (w := 899) (by decide +kernel) (by decide +kernel) (zsh_at hF rfl).1 (by decide +kernel) rfl ?_
  refine e_aload_n zd203_79 rfl rfl ?_
  refine e_aload_n zd203_80 rfl rfl ?_
  refine e_getI zd203_81 (own := 8) (ci := 8) (kf := 4) (w := 862) (by decide +kernel) (by decide +kernel) (zsh_at hF rfl).1 (by decide +kernel) rfl ?_
  refine e_putI zd203_84 (own := 8) (ci := 8) (kf := 42) (w := 900) (by decide +kernel) (by decide +kernel) (zsh_at hF rfl).1 (by decide +kernel) rfl ?_
  refine e_aload_n zd203_87 rfl rfl ?_
  refine e_getI zd203_88 (own := 8) (ci := 8) (kf := 12) (w := 870) (by decide +kernel) (by decide +kernel) (zsh_at hF rfl).1 (by decide +kernel) rfl ?_
  exact e_ireti zd203_91 zs203 k
theorem zd204_0 : zop 204 0 = some (.aload_n 0, 1) := by decide +kernel
theorem zd204_1 : zop 204 1 = some (.getfield 65, 3) := by decide +kernel
theorem zd204_4 : zop 204 4 = some (.iconst (-1), 1) := by decide +kernel
theorem zd204_5 : zop 204 5 = some (.if_icmp .ne 6, 3) := by decide +kernel
theorem zd204_8 : zop 204 8 = some (.bipush (-3), 2) := by decide +kernel
theorem zd204_10 : zop 204 10 = some (.ireturn, 1) := by decide +kernel
theorem zd204_11 : zop 204 11 = some (.iconst 0, 1) := by decide +kernel
theorem zd204_12 : zop 204 12 = some (.istore_n 1, 1) := by decide +kernel
theorem zd204_13 : zop 204 13 = some (.iload_n 1, 1) := by decide +kernel
theorem zd204_14 : zop 204 14 = some (.iconst 4, 1) := by decide +kernel
theorem zd204_15 : zop 204 15 = some (.if_icmp .ge 33, 3) := by decide +kernel
theorem zd204_18 : zop 204 18 = some (.aload_n 0, 1) := by decide +kernel
theorem zd204_19 : zop 204 19 = some (.getfield 23, 3) := by decide +kernel
theorem zd204_22 : zop 204 22 = some (.iload_n 1, 1) := by decide +kernel
theorem zd204_23 : zop 204 23 = some (.aload_n 0, 1) := by decide +kernel
theorem zd204_24 : zop 204 24 = some (.getfield 56, 3) := by decide +kernel
theorem zd204_27 : zop 204 27 = some (.iload_n 1, 1) := by decide +kernel
theorem zd204_28 : zop 204 28 = some (.iaload, 1) := by decide +kernel
theorem zd204_29 : zop 204 29 = some (.iastore, 1) := by decide +kernel
theorem zd204_30 : zop 204 30 = some (.aload_n 0, 1) := by decide +kernel
theorem zd204_31 : zop 204 31 = some (.getfield 26, 3) := by decide +kernel
theorem zd204_34 : zop 204 34 = some (.iload_n 1, 1) := by decide +kernel
theorem zd204_35 : zop 204 35 = some (.aload_n 0, 1) := by decide +kernel
theorem zd204_36 : zop 204 36 = some (.getfield 59, 3) := by decide +kernel
theorem zd204_39 : zop 204 39 = some (.iload_n 1, 1) := by decide +kernel
theorem zd204_40 : zop 204 40 = some (.iaload, 1) := by decide +kernel
theorem zd204_41 : zop 204 41 = some (.iastore, 1) := by decide +kernel
theorem zd204_42 : zop 204 42 = some (.iinc 1 1, 3) := by decide +kernel
theorem zd204_45 : zop 204 45 = some (.goto (-32), 3) := by decide +kernel
theorem zd204_48 : zop 204 48 = some (.iconst 0, 1) := by decide +kernel
theorem zd204_49 : zop 204 49 = some (.istore_n 1, 1) := by decide +kernel
theorem zd204_50 : zop 204 50 = some (.iload_n 1, 1) := by decide +kernel
theorem zd204_51 : zop 204 51 = some (.bipush 10, 2) := by decide +kernel
theorem zd204_53 : zop 204 53 = some (.if_icmp .ge 21, 3) := by decide +kernel
theorem zd204_56 : zop 204 56 = some (.aload_n 0, 1) := by decide +kernel
theorem zd204_57 : zop 204 57 = some (.getfield 32, 3) := by decide +kernel
theorem zd204_60 : zop 204 60 = some (.iload_n 1, 1) := by decide +kernel
theorem zd204_61 : zop 204 61 = some (.aload_n 0, 1) := by decide +kernel
theorem zd204_62 : zop 204 62 = some (.getfield 62, 3) := by decide +kernel
theorem zd204_65 : zop 204 65 = some (.iload_n 1, 1) := by decide +kernel
theorem zd204_66 : zop 204 66 = some (.iaload, 1) := by decide +kernel
theorem zd204_67 : zop 204 67 = some (.iastore, 1) := by decide +kernel
theorem zd204_68 : zop 204 68 = some (.iinc 1 1, 3) := by decide +kernel
theorem zd204_71 : zop 204 71 = some (.goto (-21), 3) := by decide +kernel
theorem zd204_74 : zop 204 74 = some (.aload_n 0, 1) := by decide +kernel
theorem zd204_75 : zop 204 75 = some (.aload_n 0, 1) := by decide +kernel
theorem zd204_76 : zop 204 76 = some (.getfield 65, 3) := by decide +kernel
theorem zd204_79 : zop 204 79 = some (.putfield 88, 3) := by decide +kernel
theorem zd204_82 : zop 204 82 = some (.aload_n 0, 1) := by decide +kernel
theorem zd204_83 : zop 204 83 = some (.aload_n 0, 1) := by decide +kernel
theorem zd204_84 : zop 204 84 = some (.getfield 357, 3) := by decide +kernel
theorem zd204_87 : zop 204 87 = some (.putfield 126, 3) := by decide +kernel
theorem zd204_90 : zop 204 90 = some (.aload_n 0, 1) := by decide +kernel
theorem zd204_91 : zop 204 91 = some (.aload_n 0, 1) := by decide +kernel
theorem zd204_92 : zop 204 92 = some (.getfield 360, 3) := by decide +kernel
theorem zd204_95 : zop 204 95 = some (.putfield 129, 3) := by decide +kernel
theorem zd204_98 : zop 204 98 = some (.aload_n 0, 1) := by decide +kernel
theorem zd204_99 : zop 204 99 = some (.getfield 88, 3) := by decide +kernel
theorem zd204_102 : zop 204 102 = some (.ireturn, 1) := by decide +kernel
theorem b204_0 {x : zXs} {F : zF} (hF : zSh F) {d : Nat} {V : Nat → Nat → Int32} {T : Nat → Nat → Int64} {Q : Option Value → zG → Prop} {o1 : Option Value}   (kt : ¬ (V 59 40) = (Int32.ofInt (-1)) → E x F d 204 11 [some (.ref 59), o1] [] (V, T) Q) (kf : ¬ (¬ (V 59 40) = (Int32.ofInt (-1))) → E x F d 204 8 [some (.ref 59), o1] [] (V, T) Q) : E x F d 204 0 [some (.ref 59), o1] [] (V, T) Q := by
  refine e_aload_n zd204_0 rfl rfl ?_
  refine e_getI zd204_1 (own := 8) (ci := 8) (kf := 40) (w := 898) (by decide +kernel) (by decide +kernel) (zsh_at hF rfl).1 (by decide +kernel) rfl ?_
  refine e_iconst zd204_4 ?_
  exact e_icmp_ne zd204_5 (tg := 11) rfl kt kf
theorem b204_8 {x : zXs} {F : zF} (hF : zSh F) {d : Nat} {V : Nat → Nat → Int32} {T : Nat → Nat → Int64} {Q : Option Value → zG → Prop} {o0 : Option Value} {o1 : Option Value}   (k : Q (some (.int (Int32.ofInt (-3)))) (V, T)) : E x F d 204 8 [o0, o1] [] (V, T) Q := by
  refine e_bipush zd204_8 (v := Int32.ofInt (-3)) (by decide +kernel) ?_
  exact e_ireti zd204_10 zs204 k
theorem b204_11 {x : zXs} {F : zF} (hF : zSh F) {d : Nat} {V : Nat → Nat → Int32} {T : Nat → Nat → Int64} {Q : Option Value → zG → Prop} {o0 : Option Value} {o1 : Option Value}   (k : E x F d 204 13 [o0, some (.int (Int32.ofInt 0))] [] (V, T) Q) : E x F d 204 11 [o0, o1] [] (V, T) Q := by
  refine e_iconst zd204_11 ?_
  refine e_istore_n zd204_12 (by decide +kernel) (Nat.le_of_ble_eq_true rfl) ?_
  exact k
theorem b204_13 {x : zXs} {F : zF} (hF : zSh F) {d : Nat} {V : Nat → Nat → Int32} {T : Nat → Nat → Int64} {Q : Option Value → zG → Prop} {o0 : Option Value} {l1 : Int32}   (kt : (Int32.ofInt 4) ≤ l1 → E x F d 204 48 [o0, some (.int l1)] [] (V, T) Q) (kf : ¬ ((Int32.ofInt 4) ≤ l1) → E x F d 204 18 [o0, some (.int l1)] [] (V, T) Q) : E x F d 204 13 [o0, some (.int l1)] [] (V, T) Q := by
  refine e_iload_n zd204_13 rfl ?_
  refine e_iconst zd204_14 ?_
  exact e_icmp_ge zd204_15 (tg := 48) rfl kt kf
theorem b204_18 {x : zXs} {F : zF} (hF : zSh F) {d : Nat} {V : Nat → Nat → Int32} {T : Nat → Nat → Int64} {Q : Option Value → zG → Prop} {l1 : Int32}  {i1 : Nat} (e1 : l1 = nI i1) (h1 : i1 < 4) {i2 : Nat} (e2 : l1 = nI i2) (h2 : i2 < 5) {i3 : Nat} (e3 : l1 = nI i3) (h3 : i3 < 4) {i4 : Nat} (e4 : l1 = nI i4) (h4 : i4 < 5) (k : E x F d 204 13 [some (.ref 59), some (.int (l1 + Int32.ofInt 1))] [] (zu (zu V 63 i2 (V 74 i1)) 64 i4 ((zu V 63 i2 (V 74 i1)) 75 i3), T) Q) : E x F d 204 18 [some (.ref 59), some (.int l1)] [] (V, T) Q := by
  refine e_aload_n zd204_18 rfl rfl ?_
  refine e_getA zd204_19 (own := 8) (ci := 8) (kf := 8) (w := 866) (by decide +kernel) (by decide +kernel) (zsh_at hF rfl).1 (by decide +kernel) rfl (zrf_at hF (i := 62) rfl) ?_
  refine e_iload_n zd204_22 rfl ?_
  refine e_aload_n zd204_23 rfl rfl ?_
  refine e_getA zd204_24 (own := 8) (ci := 8) (kf := 37) (w := 895) (by decide +kernel) (by decide +kernel) (zsh_at hF rfl).1 (by decide +kernel) rfl (zrf_at hF (i := 73) rfl) ?_
  refine e_iload_n zd204_27 rfl ?_
  refine e_iald zd204_28 (i := i1) (zsh_at hF rfl) e1 h1 (by omega) ?_
  refine e_iast zd204_29 (i := i2) (zsh_at hF rfl) e2 h2 (by omega) ?_
  refine e_aload_n zd204_30 rfl rfl ?_
  refine e_getA zd204_31 (own := 8) (ci := 8) (kf := 9) (w := 867) (by decide +kernel) (by decide +kernel) (zsh_at hF rfl).1 (by decide +kernel) rfl (zrf_at hF (i := 63) rfl) ?_
  refine e_iload_n zd204_34 rfl ?_
  refine e_aload_n zd204_35 rfl rfl ?_
  refine e_getA zd204_36 (own := 8) (ci := 8) (kf := 38) (w := 896) (by decide +kernel) (by decide +kernel) (zsh_at hF rfl).1 (by decide +kernel) rfl (zrf_at hF (i := 74) rfl) ?_
  refine e_iload_n zd204_39 rfl ?_
  refine e_iald zd204_40 (i := i3) (zsh_at hF rfl) e3 h3 (by omega) ?_
  refine e_iast zd204_41 (i := i4) (zsh_at hF rfl) e4 h4 (by omega) ?_
  refine e_iinc zd204_42 rfl (by decide +kernel) ?_
  exact e_goto zd204_45 (tg := 13) rfl k
theorem b204_48 {x : zXs} {F : zF} (hF : zSh F) {d : Nat} {V : Nat → Nat → Int32} {T : Nat → Nat → Int64} {Q : Option Value → zG → Prop} {o0 : Option Value} {o1 : Option Value}   (k : E x F d 204 50 [o0, some (.int (Int32.ofInt 0))] [] (V, T) Q) : E x F d 204 48 [o0, o1] [] (V, T) Q := by
  refine e_iconst zd204_48 ?_
  refine e_istore_n zd204_49 (by decide +kernel) (Nat.le_of_ble_eq_true rfl) ?_
  exact k
theorem b204_50 {x : zXs} {F : zF} (hF : zSh F) {d : Nat} {V : Nat → Nat → Int32} {T : Nat → Nat → Int64} {Q : Option Value → zG → Prop} {o0 : Option Value} {l1 : Int32}   (kt : (Int32.ofInt 10) ≤ l1 → E x F d 204 74 [o0, some (.int l1)] [] (V, T) Q) (kf : ¬ ((Int32.ofInt 10) ≤ l1) → E x F d 204 56 [o0, some (.int l1)] [] (V, T) Q) : E x F d 204 50 [o0, some (.int l1)] [] (V, T) Q := by
  refine e_iload_n zd204_50 rfl ?_
  refine e_bipush zd204_51 (v := Int32.ofInt 10) (by decide +kernel) ?_
  exact e_icmp_ge zd204_53 (tg := 74) rfl kt kf
theorem b204_56 {x : zXs} {F : zF} (hF : zSh F) {d : Nat} {V : Nat → Nat → Int32} {T : Nat → Nat → Int64} {Q : Option Value → zG → Prop} {l1 : Int32}  {i1 : Nat} (e1 : l1 = nI i1) (h1 : i1 < 10) {i2 : Nat} (e2 : l1 = nI i2) (h2 : i2 < 10) (k : E x F d 204 50 [some (.ref 59), some (.int (l1 + Int32.ofInt 1))] [] (zu V 66 i2 (V 76 i1), T) Q) : E x F d 204 56 [some (.ref 59), some (.int l1)] [] (V, T) Q := by
  refine e_aload_n zd204_56 rfl rfl ?_
  refine e_getA zd204_57 (own := 8) (ci := 8) (kf := 11) (w := 869) (by decide +kernel) (by decide +kernel) (zsh_at hF rfl).1 (by decide +kernel) rfl (zrf_at hF (i := 65) rfl) ?_
  refine e_iload_n zd204_60 rfl ?_
  refine e_aload_n zd204_61 rfl rfl ?_
  refine e_getA zd204_62 (own := 8) (ci := 8) (kf := 39) (w := 897) (by decide +kernel) (by decide +kernel) (zsh_at hF rfl).1 (by decide +kernel) rfl (zrf_at hF (i := 75) rfl) ?_
  refine e_iload_n zd204_65 rfl ?_
  refine e_iald zd204_66 (i := i1) (zsh_at hF rfl) e1 h1 (by omega) ?_
  refine e_iast zd204_67 (i := i2) (zsh_at hF rfl) e2 h2 (by omega) ?_
  refine e_iinc zd204_68 rfl (by decide +kernel) ?_
  exact e_goto zd204_71 (tg := 50) rfl k
theorem b204_74 {x : zXs} {F : zF} (hF : zSh F) {d : Nat} {V : Nat → Nat → Int32} {T : Nat → Nat → Int64} {Q : Option Value → zG → Prop} {o1 : Option Value}   (k : Q (some (.int ((zu (zu (zu V 59 12 (V 59 40)) 59 7 ((zu V 59 12 (V 59 40)) 59 41)) 59 4 ((zu (zu V 59 12 (V 59 40)) 59 7 ((zu V 59 12 (V 59 40)) 59 41)) 59 42)) 59 12))) (zu (zu (zu V 59 12 (V 59 40)) 59 7 ((zu V 59 12 (V 59 40)) 59 41)) 59 4 ((zu (zu V 59 12 (V 59 40)) 59 7 ((zu V 59 12 (V 59 40)) 59 41)) 59 42), T)) : E x F d 204 74 [some (.ref 59), o1] [] (V, T) Q := by
  refine e_aload_n zd204_74 rfl rfl ?_
  refine e_aload_n zd204_75 rfl rfl ?_
  refine e_getI zd204_76 (own := 8) (ci := 8) (kf := 40) (w := 898) (by decide +kernel) (by decide +kernel) (zsh_at hF rfl).1 (by decide +kernel) rfl ?_
  refine e_putI zd204_79 (own := 8) (ci := 8) (kf := 12) (w := 870) (by decide +kernel) (by decide +kernel) (zsh_at hF rfl).1 (by decide +kernel) rfl ?_
  refine e_aload_n zd204_82 rfl rfl ?_
  refine e_aload_n zd204_83 rfl rfl ?_
  refine e_getI zd204_84 (own := 8) (ci := 8) (kf := 41) (w := 899) (by decide +kernel) (by decide +kernel) (zsh_at hF rfl).1 (by decide +kernel) rfl ?_
  refine e_putI zd204_87 (own := 8) (ci := 8) (kf := 7) (w := 865) (by decide +kernel) (by decide +kernel) (zsh_at hF rfl).1 (by decide +kernel) rfl ?_
  refine e_aload_n zd204_90 rfl rfl ?_
  refine e_aload_n zd204_91 rfl rfl ?_
  refine e_getI zd204_92 (own := 8) (ci := 8) (kf := 42) (w := 900) (by decide +kernel) (by decide +kernel) (zsh_at hF rfl).1 (by decide +kernel) rfl ?_
  refine e_putI zd204_95 (own := 8) (ci := 8) (kf := 4) (w := 862) (by decide +kernel) (by decide +kernel) (zsh_at hF rfl).1 (by decide +kernel) rfl ?_
  refine e_aload_n zd204_98 rfl rfl ?_
  refine e_getI zd204_99 (own := 8) (ci := 8) (kf := 12) (w := 870) (by decide +kernel) (by decide +kernel) (zsh_at hF rfl).1 (by decide +kernel) rfl ?_
  exact e_ireti zd204_102 zs204 k
theorem zd205_0 : zop 205 0 = some (.iload_n 1, 1) := by decide +kernel
theorem zd205_1 : zop 205 1 = some (.i2l, 1) := by decide +kernel
theorem zd205_2 : zop 205 2 = some (.lconst 0, 1) := by decide +kernel
theorem zd205_3 : zop 205 3 = some (.ldc2_w 132, 3) := by decide +kernel
theorem zd205_6 : zop 205 6 = some (.invokestatic 91, 3) := by decide +kernel
theorem zd205_9 : zop 205 9 = some (.ifCond .ne 6, 3) := by decide +kernel
theorem zd205_12 : zop 205 12 = some (.bipush (-2), 2) := by decide +kernel
theorem zd205_14 : zop 205 14 = some (.ireturn, 1) := by decide +kernel
theorem zd205_15 : zop 205 15 = some (.iload_n 1, 1) := by decide +kernel
theorem zd205_16 : zop 205 16 = some (.ifCond .ne 10, 3) := by decide +kernel
theorem zd205_19 : zop 205 19 = some (.aload_n 0, 1) := by decide +kernel
theorem zd205_20 : zop 205 20 = some (.getfield 88, 3) := by decide +kernel
theorem zd205_23 : zop 205 23 = some (.goto 55, 3) := by decide +kernel
theorem zd205_26 : zop 205 26 = some (.iload_n 1, 1) := by decide +kernel
theorem zd205_27 : zop 205 27 = some (.iconst 1, 1) := by decide +kernel
theorem zd205_28 : zop 205 28 = some (.if_icmp .ne 10, 3) := by decide +kernel
theorem zd205_31 : zop 205 31 = some (.aload_n 0, 1) := by decide +kernel
theorem zd205_32 : zop 205 32 = some (.invokevirtual 294, 3) := by decide +kernel
theorem zd205_35 : zop 205 35 = some (.goto 43, 3) := by decide +kernel
theorem zd205_38 : zop 205 38 = some (.iload_n 1, 1) := by decide +kernel
theorem zd205_39 : zop 205 39 = some (.iconst 2, 1) := by decide +kernel
theorem zd205_40 : zop 205 40 = some (.if_icmp .ne 10, 3) := by decide +kernel
theorem zd205_43 : zop 205 43 = some (.aload_n 0, 1) := by decide +kernel
theorem zd205_44 : zop 205 44 = some (.getfield 126, 3) := by decide +kernel
theorem zd205_47 : zop 205 47 = some (.goto 31, 3) := by decide +kernel
theorem zd205_50 : zop 205 50 = some (.iload_n 1, 1) := by decide +kernel
theorem zd205_51 : zop 205 51 = some (.iconst 3, 1) := by decide +kernel
theorem zd205_52 : zop 205 52 = some (.if_icmp .ne 10, 3) := by decide +kernel
theorem zd205_55 : zop 205 55 = some (.aload_n 0, 1) := by decide +kernel
theorem zd205_56 : zop 205 56 = some (.getfield 85, 3) := by decide +kernel
theorem zd205_59 : zop 205 59 = some (.goto 19, 3) := by decide +kernel
theorem zd205_62 : zop 205 62 = some (.iload_n 1, 1) := by decide +kernel
theorem zd205_63 : zop 205 63 = some (.iconst 4, 1) := by decide +kernel
theorem zd205_64 : zop 205 64 = some (.if_icmp .ne 10, 3) := by decide +kernel
theorem zd205_67 : zop 205 67 = some (.aload_n 0, 1) := by decide +kernel
theorem zd205_68 : zop 205 68 = some (.getfield 152, 3) := by decide +kernel
theorem zd205_71 : zop 205 71 = some (.goto 7, 3) := by decide +kernel
theorem zd205_74 : zop 205 74 = some (.aload_n 0, 1) := by decide +kernel
theorem zd205_75 : zop 205 75 = some (.getfield 129, 3) := by decide +kernel
theorem zd205_78 : zop 205 78 = some (.ireturn, 1) := by decide +kernel
theorem b205_0 {x : zXs} {F : zF} (hF : zSh F) {d : Nat} {V : Nat → Nat → Int32} {T : Nat → Nat → Int64} {Q : Option Value → zG → Prop} {o0 : Option Value} {l1 : Int32}   (k : E x F d 132 0 [some (.long l1.toInt64), none, some (.long 0), none, some (.long (5 : Int64)), none] [] (V, T) (fun r G' => E x F (d + 1) 205 9 [o0, some (.int l1)] (r.toList ++ []) G' Q)) : E x F (d + 1) 205 0 [o0, some (.int l1)] [] (V, T) Q := by
  refine e_iload_n zd205_0 rfl ?_
  refine e_i2l zd205_1 ?_
  refine e_lconst zd205_2 (v := 0) rfl ?_
  refine e_ldc2 zd205_3 (own := 8) (w := 1142) (v := 5) (by decide +kernel) (by decide +kernel) ?_
  exact e_callS zd205_6 (own := 8) (nest := false) (w := 1009) (by decide +kernel) (by decide +kernel) zs132 (as := [.long l1.toInt64, .long 0, .long (5 : Int64)]) (rest := []) rfl rfl (Nat.le_of_ble_eq_true rfl) rfl rfl rfl (by omega) k
theorem b205_9 {x : zXs} {F : zF} (hF : zSh F) {d : Nat} {V : Nat → Nat → Int32} {T : Nat → Nat → Int64} {Q : Option Value → zG → Prop} {o0 : Option Value} {o1 : Option Value} {s0 : Int32}   (kt : ¬ s0 = 0 → E x F d 205 15 [o0, o1] [] (V, T) Q) (kf : ¬ (¬ s0 = 0) → E x F d 205 12 [o0, o1] [] (V, T) Q) : E x F d 205 9 [o0, o1] [.int s0] (V, T) Q := by
  exact e_if_ne zd205_9 (tg := 15) rfl kt kf
theorem b205_12 {x : zXs} {F : zF} (hF : zSh F) {d : Nat} {V : Nat → Nat → Int32} {T : Nat → Nat → Int64} {Q : Option Value → zG → Prop} {o0 : Option Value} {o1 : Option Value}   (k : Q (some (.int (Int32.ofInt (-2)))) (V, T)) : E x F d 205 12 [o0, o1] [] (V, T) Q := by
  refine e_bipush zd205_12 (v := Int32.ofInt (-2)) (by decide +kernel) ?_
  exact e_ireti zd205_14 zs205 k
theorem b205_15 {x : zXs} {F : zF} (hF : zSh F) {d : Nat} {V : Nat → Nat → Int32} {T : Nat → Nat → Int64} {Q : Option Value → zG → Prop} {o0 : Option Value} {l1 : Int32}   (kt : ¬ l1 = 0 → E x F d 205 26 [o0, some (.int l1)] [] (V, T) Q) (kf : ¬ (¬ l1 = 0) → E x F d 205 19 [o0, some (.int l1)] [] (V, T) Q) : E x F d 205 15 [o0, some (.int l1)] [] (V, T) Q := by
  refine e_iload_n zd205_15 rfl ?_
  exact e_if_ne zd205_16 (tg := 26) rfl kt kf
theorem b205_19 {x : zXs} {F : zF} (hF : zSh F) {d : Nat} {V : Nat → Nat → Int32} {T : Nat → Nat → Int64} {Q : Option Value → zG → Prop} {o1 : Option Value}   (k : E x F d 205 78 [some (.ref 59), o1] [.int (V 59 12)] (V, T) Q) : E x F d 205 19 [some (.ref 59), o1] [] (V, T) Q := by
  refine e_aload_n zd205_19 rfl rfl ?_
  refine e_getI zd205_20 (own := 8) (ci := 8) (kf := 12) (w := 870) (by decide +kernel) (by decide +kernel) (zsh_at hF rfl).1 (by decide +kernel) rfl ?_
  exact e_goto zd205_23 (tg := 78) rfl k
theorem b205_26 {x : zXs} {F : zF} (hF : zSh F) {d : Nat} {V : Nat → Nat → Int32} {T : Nat → Nat → Int64} {Q : Option Value → zG → Prop} {o0 : Option Value} {l1 : Int32}   (kt : ¬ l1 = (Int32.ofInt 1) → E x F d 205 38 [o0, some (.int l1)] [] (V, T) Q) (kf : ¬ (¬ l1 = (Int32.ofInt 1)) → E x F d 205 31 [o0, some (.int l1)] [] (V, T) Q) : E x F d 205 26 [o0, some (.int l1)] [] (V, T) Q := by
  refine e_iload_n zd205_26 rfl ?_
  refine e_iconst zd205_27 ?_
  exact e_icmp_ne zd205_28 (tg := 38) rfl kt kf
theorem b205_31 {x : zXs} {F : zF} (hF : zSh F) {d : Nat} {V : Nat → Nat → Int32} {T : Nat → Nat → Int64} {Q : Option Value → zG → Prop} {o1 : Option Value}   (k : E x F d 177 0 [some (.ref 59)] [] (V, T) (fun r G' => E x F (d + 1) 205 35 [some (.ref 59), o1] (r.toList ++ []) G' Q)) : E x F (d + 1) 205 31 [some (.ref 59), o1] [] (V, T) Q := by
  refine e_aload_n zd205_31 rfl rfl ?_
  exact e_callV zd205_32 (own := 8) (nest := false) (w := 1198) (by decide +kernel) (by decide +kernel) zs177 (as := []) (rest := []) rfl rfl (zsh_at hF rfl).1 (by omega) (Nat.le_of_ble_eq_true rfl) rfl rfl rfl (by omega) k
theorem b205_35 {x : zXs} {F : zF} (hF : zSh F) {d : Nat} {V : Nat → Nat → Int32} {T : Nat → Nat → Int64} {Q : Option Value → zG → Prop} {o0 : Option Value} {o1 : Option Value} {s0 : Int32}   (k : E x F d 205 78 [o0, o1] [.int s0] (V, T) Q) : E x F d 205 35 [o0, o1] [.int s0] (V, T) Q := by
  exact e_goto zd205_35 (tg := 78) rfl k
theorem b205_38 {x : zXs} {F : zF} (hF : zSh F) {d : Nat} {V : Nat → Nat → Int32} {T : Nat → Nat → Int64} {Q : Option Value → zG → Prop} {o0 : Option Value} {l1 : Int32}   (kt : ¬ l1 = (Int32.ofInt 2) → E x F d 205 50 [o0, some (.int l1)] [] (V, T) Q) (kf : ¬ (¬ l1 = (Int32.ofInt 2)) → E x F d 205 43 [o0, some (.int l1)] [] (V, T) Q) : E x F d 205 38 [o0, some (.int l1)] [] (V, T) Q := by
  refine e_iload_n zd205_38 rfl ?_
  refine e_iconst zd205_39 ?_
  exact e_icmp_ne zd205_40 (tg := 50) rfl kt kf
theorem b205_43 {x : zXs} {F : zF} (hF : zSh F) {d : Nat} {V : Nat → Nat → Int32} {T : Nat → Nat → Int64} {Q : Option Value → zG → Prop} {o1 : Option Value}   (k : E x F d 205 78 [some (.ref 59), o1] [.int (V 59 7)] (V, T) Q) : E x F d 205 43 [some (.ref 59), o1] [] (V, T) Q := by
  refine e_aload_n zd205_43 rfl rfl ?_
  refine e_getI zd205_44 (own := 8) (ci := 8) (kf := 7) (w := 865) (by decide +kernel) (by decide +kernel) (zsh_at hF rfl).1 (by decide +kernel) rfl ?_
  exact e_goto zd205_47 (tg := 78) rfl k
theorem b205_50 {x : zXs} {F : zF} (hF : zSh F) {d : Nat} {V : Nat → Nat → Int32} {T : Nat → Nat → Int64} {Q : Option Value → zG → Prop} {o0 : Option Value} {l1 : Int32}   (kt : ¬ l1 = (Int32.ofInt 3) → E x F d 205 62 [o0, some (.int l1)] [] (V, T) Q) (kf : ¬ (¬ l1 = (Int32.ofInt 3)) → E x F d 205 55 [o0, some (.int l1)] [] (V, T) Q) : E x F d 205 50 [o0, some (.int l1)] [] (V, T) Q := by
  refine e_iload_n zd205_50 rfl ?_
  refine e_iconst zd205_51 ?_
  exact e_icmp_ne zd205_52 (tg := 62) rfl kt kf
theorem b205_55 {x : zXs} {F : zF} (hF : zSh F) {d : Nat} {V : Nat → Nat → Int32} {T : Nat → Nat → Int64} {Q : Option Value → zG → Prop} {o1 : Option Value}   (k : E x F d 205 78 [some (.ref 59), o1] [.int (V 59 3)] (V, T) Q) : E x F d 205 55 [some (.ref 59), o1] [] (V, T) Q := by
  refine e_aload_n zd205_55 rfl rfl ?_
  refine e_getI zd205_56 (own := 8) (ci := 8) (kf := 3) (w := 861) (by decide +kernel) (by decide +kernel) (zsh_at hF rfl).1 (by decide +kernel) rfl ?_
  exact e_goto zd205_59 (tg := 78) rfl k
theorem b205_62 {x : zXs} {F : zF} (hF : zSh F) {d : Nat} {V : Nat → Nat → Int32} {T : Nat → Nat → Int64} {Q : Option Value → zG → Prop} {o0 : Option Value} {l1 : Int32}   (kt : ¬ l1 = (Int32.ofInt 4) → E x F d 205 74 [o0, some (.int l1)] [] (V, T) Q) (kf : ¬ (¬ l1 = (Int32.ofInt 4)) → E x F d 205 67 [o0, some (.int l1)] [] (V, T) Q) : E x F d 205 62 [o0, some (.int l1)] [] (V, T) Q := by
  refine e_iload_n zd205_62 rfl ?_
  refine e_iconst zd205_63 ?_
  exact e_icmp_ne zd205_64 (tg := 74) rfl kt kf
theorem b205_67 {x : zXs} {F : zF} (hF : zSh F) {d : Nat} {V : Nat → Nat → Int32} {T : Nat → Nat → Int64} {Q : Option Value → zG → Prop} {o1 : Option Value}   (k : E x F d 205 78 [some (.ref 59), o1] [.int (V 59 6)] (V, T) Q) : E x F d 205 67 [some (.ref 59), o1] [] (V, T) Q := by
  refine e_aload_n zd205_67 rfl rfl ?_
  refine e_getI zd205_68 (own := 8) (ci := 8) (kf := 6) (w := 864) (by decide +kernel) (by decide +kernel) (zsh_at hF rfl).1 (by decide +kernel) rfl ?_
  exact e_goto zd205_71 (tg := 78) rfl k
theorem b205_74 {x : zXs} {F : zF} (hF : zSh F) {d : Nat} {V : Nat → Nat → Int32} {T : Nat → Nat → Int64} {Q : Option Value → zG → Prop} {o1 : Option Value}   (k : E x F d 205 78 [some (.ref 59), o1] [.int (V 59 4)] (V, T) Q) : E x F d 205 74 [some (.ref 59), o1] [] (V, T) Q := by
  refine e_aload_n zd205_74 rfl rfl ?_
  refine e_getI zd205_75 (own := 8) (ci := 8) (kf := 4) (w := 862) (by decide +kernel) (by decide +kernel) (zsh_at hF rfl).1 (by decide +kernel) rfl ?_
  exact k
theorem b205_78 {x : zXs} {F : zF} (hF : zSh F) {d : Nat} {V : Nat → Nat → Int32} {T : Nat → Nat → Int64} {Q : Option Value → zG → Prop} {o0 : Option Value} {o1 : Option Value} {s0 : Int32}   (k : Q (some (.int s0)) (V, T)) : E x F d 205 78 [o0, o1] [.int s0] (V, T) Q := by
  exact e_ireti zd205_78 zs205 k
theorem zd206_0 : zop 206 0 = some (.iload_n 1, 1) := by decide +kernel
theorem zd206_1 : zop 206 1 = some (.invokestatic 339, 3) := by decide +kernel
theorem zd206_4 : zop 206 4 = some (.ifCond .ne 6, 3) := by decide +kernel
theorem zd206_7 : zop 206 7 = some (.bipush (-2), 2) := by decide +kernel
theorem zd206_9 : zop 206 9 = some (.ireturn, 1) := by decide +kernel
theorem zd206_10 : zop 206 10 = some (.aload_n 0, 1) := by decide +kernel
theorem zd206_11 : zop 206 11 = some (.getfield 68, 3) := by decide +kernel
theorem zd206_14 : zop 206 14 = some (.iload_n 1, 1) := by decide +kernel
theorem zd206_15 : zop 206 15 = some (.baload, 1) := by decide +kernel
theorem zd206_16 : zop 206 16 = some (.ifCond .ne 6, 3) := by decide +kernel
theorem zd206_19 : zop 206 19 = some (.bipush (-11), 2) := by decide +kernel
theorem zd206_21 : zop 206 21 = some (.ireturn, 1) := by decide +kernel
theorem zd206_22 : zop 206 22 = some (.iload_n 2, 1) := by decide +kernel
theorem zd206_23 : zop 206 23 = some (.i2l, 1) := by decide +kernel
theorem zd206_24 : zop 206 24 = some (.lconst 0, 1) := by decide +kernel
theorem zd206_25 : zop 206 25 = some (.aload_n 0, 1) := by decide +kernel
theorem zd206_26 : zop 206 26 = some (.getfield 75, 3) := by decide +kernel
theorem zd206_29 : zop 206 29 = some (.iload_n 1, 1) := by decide +kernel
theorem zd206_30 : zop 206 30 = some (.iaload, 1) := by decide +kernel
theorem zd206_31 : zop 206 31 = some (.iconst 1, 1) := by decide +kernel
theorem zd206_32 : zop 206 32 = some (.isub, 1) := by decide +kernel
theorem zd206_33 : zop 206 33 = some (.i2l, 1) := by decide +kernel
theorem zd206_34 : zop 206 34 = some (.invokestatic 91, 3) := by decide +kernel
theorem zd206_37 : zop 206 37 = some (.ifCond .ne 6, 3) := by decide +kernel
theorem zd206_40 : zop 206 40 = some (.bipush (-12), 2) := by decide +kernel
theorem zd206_42 : zop 206 42 = some (.ireturn, 1) := by decide +kernel
theorem zd206_43 : zop 206 43 = some (.aload_n 0, 1) := by decide +kernel
theorem zd206_44 : zop 206 44 = some (.getfield 78, 3) := by decide +kernel
theorem zd206_47 : zop 206 47 = some (.bipush 40, 2) := by decide +kernel
theorem zd206_49 : zop 206 49 = some (.iload_n 1, 1) := by decide +kernel
theorem zd206_50 : zop 206 50 = some (.imul, 1) := by decide +kernel
theorem zd206_51 : zop 206 51 = some (.iload_n 2, 1) := by decide +kernel
theorem zd206_52 : zop 206 52 = some (.iadd, 1) := by decide +kernel
theorem zd206_53 : zop 206 53 = some (.aload_n 0, 1) := by decide +kernel
theorem zd206_54 : zop 206 54 = some (.getfield 72, 3) := by decide +kernel
theorem zd206_57 : zop 206 57 = some (.iload_n 1, 1) := by decide +kernel
theorem zd206_58 : zop 206 58 = some (.iaload, 1) := by decide +kernel
theorem zd206_59 : zop 206 59 = some (.ifCond .ne 8, 3) := by decide +kernel
theorem zd206_62 : zop 206 62 = some (.iload_n 3, 1) := by decide +kernel
theorem zd206_63 : zop 206 63 = some (.i2b, 1) := by decide +kernel
theorem zd206_64 : zop 206 64 = some (.goto 19, 3) := by decide +kernel
theorem zd206_67 : zop 206 67 = some (.aload_n 0, 1) := by decide +kernel
theorem zd206_68 : zop 206 68 = some (.getfield 72, 3) := by decide +kernel
theorem zd206_71 : zop 206 71 = some (.iload_n 1, 1) := by decide +kernel
theorem zd206_72 : zop 206 72 = some (.iaload, 1) := by decide +kernel
theorem zd206_73 : zop 206 73 = some (.iconst 1, 1) := by decide +kernel
theorem zd206_74 : zop 206 74 = some (.if_icmp .ne 8, 3) := by decide +kernel
theorem zd206_77 : zop 206 77 = some (.iload_n 3, 1) := by decide +kernel
theorem zd206_78 : zop 206 78 = some (.i2s, 1) := by decide +kernel
theorem zd206_79 : zop 206 79 = some (.goto 4, 3) := by decide +kernel
theorem zd206_82 : zop 206 82 = some (.iload_n 3, 1) := by decide +kernel
theorem zd206_83 : zop 206 83 = some (.iastore, 1) := by decide +kernel
theorem zd206_84 : zop 206 84 = some (.iconst 1, 1) := by decide +kernel
theorem zd206_85 : zop 206 85 = some (.ireturn, 1) := by decide +kernel
theorem b206_0 {x : zXs} {F : zF} (hF : zSh F) {d : Nat} {V : Nat → Nat → Int32} {T : Nat → Nat → Int64} {Q : Option Value → zG → Prop} {o0 : Option Value} {l1 : Int32} {o2 : Option Value} {o3 : Option Value}   (k : E x F d 194 0 [some (.int l1)] [] (V, T) (fun r G' => E x F (d + 1) 206 4 [o0, some (.int l1), o2, o3] (r.toList ++ []) G' Q)) : E x F (d + 1) 206 0 [o0, some (.int l1), o2, o3] [] (V, T) Q := by
  refine e_iload_n zd206_0 rfl ?_
  exact e_callS zd206_1 (own := 8) (nest := false) (w := 1268) (by decide +kernel) (by decide +kernel) zs194 (as := [.int l1]) (rest := []) rfl rfl (Nat.le_of_ble_eq_true rfl) rfl rfl rfl (by omega) k
theorem b206_4 {x : zXs} {F : zF} (hF : zSh F) {d : Nat} {V : Nat → Nat → Int32} {T : Nat → Nat → Int64} {Q : Option Value → zG → Prop} {o0 : Option Value} {o1 : Option Value} {o2 : Option Value} {o3 : Option Value} {s0 : Int32}   (kt : ¬ s0 = 0 → E x F d 206 10 [o0, o1, o2, o3] [] (V, T) Q) (kf : ¬ (¬ s0 = 0) → E x F d 206 7 [o0, o1, o2, o3] [] (V, T) Q) : E x F d 206 4 [o0, o1, o2, o3] [.int s0] (V, T) Q := by
  exact e_if_ne zd206_4 (tg := 10) rfl kt kf
theorem b206_7 {x : zXs} {F : zF} (hF : zSh F) {d : Nat} {V : Nat → Nat → Int32} {T : Nat → Nat → Int64} {Q : Option Value → zG → Prop} {o0 : Option Value} {o1 : Option Value} {o2 : Option Value} {o3 : Option Value}   (k : Q (some (.int (Int32.ofInt (-2)))) (V, T)) : E x F d 206 7 [o0, o1, o2, o3] [] (V, T) Q := by
  refine e_bipush zd206_7 (v := Int32.ofInt (-2)) (by decide +kernel) ?_
  exact e_ireti zd206_9 zs206 k
theorem b206_10 {x : zXs} {F : zF} (hF : zSh F) {d : Nat} {V : Nat → Nat → Int32} {T : Nat → Nat → Int64} {Q : Option Value → zG → Prop} {l1 : Int32} {o2 : Option Value} {o3 : Option Value}  {i1 : Nat} (e1 : l1 = nI i1) (h1 : i1 < 4) (kt : ¬ (V 77 i1) = 0 → E x F d 206 22 [some (.ref 59), some (.int l1), o2, o3] [] (V, T) Q) (kf : ¬ (¬ (V 77 i1) = 0) → E x F d 206 19 [some (.ref 59), some (.int l1), o2, o3] [] (V, T) Q) : E x F d 206 10 [some (.ref 59), some (.int l1), o2, o3] [] (V, T) Q := by
  refine e_aload_n zd206_10 rfl rfl ?_
  refine e_getA zd206_11 (own := 8) (ci := 8) (kf := 43) (w := 901) (by decide +kernel) (by decide +kernel) (zsh_at hF rfl).1 (by decide +kernel) rfl (zrf_at hF (i := 76) rfl) ?_
  refine e_iload_n zd206_14 rfl ?_
  refine e_bald zd206_15 (i := i1) (zsh_at hF rfl) e1 h1 (by omega) ?_
  exact e_if_ne zd206_16 (tg := 22) rfl kt kf
theorem b206_19 {x : zXs} {F : zF} (hF : zSh F) {d : Nat} {V : Nat → Nat → Int32} {T : Nat → Nat → Int64} {Q : Option Value → zG → Prop} {o0 : Option Value} {o1 : Option Value} {o2 : Option Value} {o3 : Option Value}   (k : Q (some (.int (Int32.ofInt (-11)))) (V, T)) : E x F d 206 19 [o0, o1, o2, o3] [] (V, T) Q := by
  refine e_bipush zd206_19 (v := Int32.ofInt (-11)) (by decide +kernel) ?_
  exact e_ireti zd206_21 zs206 k
theorem b206_22 {x : zXs} {F : zF} (hF : zSh F) {d : Nat} {V : Nat → Nat → Int32} {T : Nat → Nat → Int64} {Q : Option Value → zG → Prop} {l1 : Int32} {l2 : Int32} {o3 : Option Value}  {i1 : Nat} (e1 : l1 = nI i1) (h1 : i1 < 4) (k : E x F d 132 0 [some (.long l2.toInt64), none, some (.long 0), none, some (.long (((V 79 i1) - (Int32.ofInt 1)).toInt64)), none] [] (V, T) (fun r G' => E x F (d + 1) 206 37 [some (.ref 59), some (.int l1), some (.int l2), o3] (r.toList ++ []) G' Q)) : E x F (d + 1) 206 22 [some (.ref 59), some (.int l1), some (.int l2), o3] [] (V, T) Q := by
  refine e_iload_n zd206_22 rfl ?_
  refine e_i2l zd206_23 ?_
  refine e_lconst zd206_24 (v := 0) rfl ?_
  refine e_aload_n zd206_25 rfl rfl ?_
  refine e_getA zd206_26 (own := 8) (ci := 8) (kf := 45) (w := 903) (by decide +kernel) (by decide +kernel) (zsh_at hF rfl).1 (by decide +kernel) rfl (zrf_at hF (i := 78) rfl) ?_
  refine e_iload_n zd206_29 rfl ?_
  refine e_iald zd206_30 (i := i1) (zsh_at hF rfl) e1 h1 (by omega) ?_
  refine e_iconst zd206_31 ?_
  refine e_isub zd206_32 ?_
  refine e_i2l zd206_33 ?_
  exact e_callS zd206_34 (own := 8) (nest := false) (w := 1009) (by decide +kernel) (by decide +kernel) zs132 (as := [.long l2.toInt64, .long 0, .long (((V 79 i1) - (Int32.ofInt 1)).toInt64)]) (rest := []) rfl rfl (Nat.le_of_ble_eq_true rfl) rfl rfl rfl (by omega) k
theorem b206_37 {x : zXs} {F : zF} (hF : zSh F) {d : Nat} {V : Nat → Nat → Int32} {T : Nat → Nat → Int64} {Q : Option Value → zG → Prop} {o0 : Option Value} {o1 : Option Value} {o2 : Option Value} {o3 : Option Value} {s0 : Int32}   (kt : ¬ s0 = 0 → E x F d 206 43 [o0, o1, o2, o3] [] (V, T) Q) (kf : ¬ (¬ s0 = 0) → E x F d 206 40 [o0, o1, o2, o3] [] (V, T) Q) : E x F d 206 37 [o0, o1, o2, o3] [.int s0] (V, T) Q := by
  exact e_if_ne zd206_37 (tg := 43) rfl kt kf
theorem b206_40 {x : zXs} {F : zF} (hF : zSh F) {d : Nat} {V : Nat → Nat → Int32} {T : Nat → Nat → Int64} {Q : Option Value → zG → Prop} {o0 : Option Value} {o1 : Option Value} {o2 : Option Value} {o3 : Option Value}   (k : Q (some (.int (Int32.ofInt (-12)))) (V, T)) : E x F d 206 40 [o0, o1, o2, o3] [] (V, T) Q := by
  refine e_bipush zd206_40 (v := Int32.ofInt (-12)) (by decide +kernel) ?_
  exact e_ireti zd206_42 zs206 k
theorem b206_43 {x : zXs} {F : zF} (hF : zSh F) {d : Nat} {V : Nat → Nat → Int32} {T : Nat → Nat → Int64} {Q : Option Value → zG → Prop} {l1 : Int32} {l2 : Int32} {o3 : Option Value}  {i1 : Nat} (e1 : l1 = nI i1) (h1 : i1 < 4) (kt : ¬ (V 78 i1) = 0 → E x F d 206 67 [some (.ref 59), some (.int l1), some (.int l2), o3] [.int (((Int32.ofInt 40) * l1) + l2), .ref 80] (V, T) Q) (kf : ¬ (¬ (V 78 i1) = 0) → E x F d 206 62 [some (.ref 59), some (.int l1), some (.int l2), o3] [.int (((Int32.ofInt 40) * l1) + l2), .ref 80] (V, T) Q) : E x F d 206 43 [some (.ref 59), some (.int l1), some (.int l2), o3] [] (V, T) Q := by
  refine e_aload_n zd206_43 rfl rfl ?_
  refine e_getA zd206_44 (own := 8) (ci := 8) (kf := 46) (w := 904) (by decide +kernel) (by decide +kernel) (zsh_at hF rfl).1 (by decide +kernel) rfl (zrf_at hF (i := 79) rfl) ?_
  refine e_bipush zd206_47 (v := Int32.ofInt 40) (by decide +kernel) ?_
  refine e_iload_n zd206_49 rfl ?_
  refine e_imul zd206_50 ?_
  refine e_iload_n zd206_51 rfl ?_
  refine e_iadd zd206_52 ?_
  refine e_aload_n zd206_53 rfl rfl ?_
  refine e_getA zd206_54 (own := 8) (ci := 8) (kf := 44) (w := 902) (by decide +kernel) (by decide +kernel) (zsh_at hF rfl).1 (by decide +kernel) rfl (zrf_at hF (i := 77) rfl) ?_
  refine e_iload_n zd206_57 rfl ?_
  refine e_iald zd206_58 (i := i1) (zsh_at hF rfl) e1 h1 (by omega) ?_
  exact e_if_ne zd206_59 (tg := 67) rfl kt kf
theorem b206_62 {x : zXs} {F : zF} (hF : zSh F) {d : Nat} {V : Nat → Nat → Int32} {T : Nat → Nat → Int64} {Q : Option Value → zG → Prop} {o0 : Option Value} {o1 : Option Value} {o2 : Option Value} {l3 : Int32} {s0 : Nat} {ns0 : Nat} {s1 : Int32} (hs0 : zsh F s0 = 100 ∧ zln F s0 = ns0) (qns0 : ns0 < 2 ^ 31)  (k : E x F d 206 83 [o0, o1, o2, some (.int l3)] [.int l3.toInt8.toInt32, .int s1, .ref s0] (V, T) Q) : E x F d 206 62 [o0, o1, o2, some (.int l3)] [.int s1, .ref s0] (V, T) Q := by
  refine e_iload_n zd206_62 rfl ?_
  refine e_i2b zd206_63 ?_
  exact e_goto zd206_64 (tg := 83) rfl k
theorem b206_67 {x : zXs} {F : zF} (hF : zSh F) {d : Nat} {V : Nat → Nat → Int32} {T : Nat → Nat → Int64} {Q : Option Value → zG → Prop} {l1 : Int32} {o2 : Option Value} {o3 : Option Value} {s0 : Nat} {ns0 : Nat} {s1 : Int32} (hs0 : zsh F s0 = 100 ∧ zln F s0 = ns0) (qns0 : ns0 < 2 ^ 31) {i1 : Nat} (e1 : l1 = nI i1) (h1 : i1 < 4) (kt : ¬ (V 78 i1) = (Int32.ofInt 1) → E x F d 206 82 [some (.ref 59), some (.int l1), o2, o3] [.int s1, .ref s0] (V, T) Q) (kf : ¬ (¬ (V 78 i1) = (Int32.ofInt 1)) → E x F d 206 77 [some (.ref 59), some (.int l1), o2, o3] [.int s1, .ref s0] (V, T) Q) : E x F d 206 67 [some (.ref 59), some (.int l1), o2, o3] [.int s1, .ref s0] (V, T) Q := by
  refine e_aload_n zd206_67 rfl rfl ?_
  refine e_getA zd206_68 (own := 8) (ci := 8) (kf := 44) (w := 902) (by decide +kernel) (by decide +kernel) (zsh_at hF rfl).1 (by decide +kernel) rfl (zrf_at hF (i := 77) rfl) ?_
  refine e_iload_n zd206_71 rfl ?_
  refine e_iald zd206_72 (i := i1) (zsh_at hF rfl) e1 h1 (by omega) ?_
  refine e_iconst zd206_73 ?_
  exact e_icmp_ne zd206_74 (tg := 82) rfl kt kf
theorem b206_77 {x : zXs} {F : zF} (hF : zSh F) {d : Nat} {V : Nat → Nat → Int32} {T : Nat → Nat → Int64} {Q : Option Value → zG → Prop} {o0 : Option Value} {o1 : Option Value} {o2 : Option Value} {l3 : Int32} {s0 : Nat} {ns0 : Nat} {s1 : Int32} (hs0 : zsh F s0 = 100 ∧ zln F s0 = ns0) (qns0 : ns0 < 2 ^ 31)  (k : E x F d 206 83 [o0, o1, o2, some (.int l3)] [.int l3.toInt16.toInt32, .int s1, .ref s0] (V, T) Q) : E x F d 206 77 [o0, o1, o2, some (.int l3)] [.int s1, .ref s0] (V, T) Q := by
  refine e_iload_n zd206_77 rfl ?_
  refine e_i2s zd206_78 ?_
  exact e_goto zd206_79 (tg := 83) rfl k
theorem b206_82 {x : zXs} {F : zF} (hF : zSh F) {d : Nat} {V : Nat → Nat → Int32} {T : Nat → Nat → Int64} {Q : Option Value → zG → Prop} {o0 : Option Value} {o1 : Option Value} {o2 : Option Value} {l3 : Int32} {s0 : Nat} {ns0 : Nat} {s1 : Int32} (hs0 : zsh F s0 = 100 ∧ zln F s0 = ns0) (qns0 : ns0 < 2 ^ 31)  (k : E x F d 206 83 [o0, o1, o2, some (.int l3)] [.int l3, .int s1, .ref s0] (V, T) Q) : E x F d 206 82 [o0, o1, o2, some (.int l3)] [.int s1, .ref s0] (V, T) Q := by
  refine e_iload_n zd206_82 rfl ?_
  exact k
theorem b206_83 {x : zXs} {F : zF} (hF : zSh F) {d : Nat} {V : Nat → Nat → Int32} {T : Nat → Nat → Int64} {Q : Option Value → zG → Prop} {o0 : Option Value} {o1 : Option Value} {o2 : Option Value} {o3 : Option Value} {s0 : Nat} {ns0 : Nat} {s1 : Int32} {s2 : Int32} (hs0 : zsh F s0 = 100 ∧ zln F s0 = ns0) (qns0 : ns0 < 2 ^ 31) {i1 : Nat} (e1 : s1 = nI i1) (h1 : i1 < ns0) (k : Q (some (.int (Int32.ofInt 1))) (zu V s0 i1 s2, T)) : E x F d 206 83 [o0, o1, o2, o3] [.int s2, .int s1, .ref s0] (V, T) Q := by
  refine e_iast zd206_83 (i := i1) (hs0) e1 h1 qns0 ?_
  refine e_iconst zd206_84 ?_
  exact e_ireti zd206_85 zs206 k
theorem zd207_0 : zop 207 0 = some (.iload_n 1, 1) := by decide +kernel
theorem zd207_1 : zop 207 1 = some (.invokestatic 339, 3) := by decide +kernel
theorem zd207_4 : zop 207 4 = some (.ifCond .eq 10, 3) := by decide +kernel
theorem zd207_7 : zop 207 7 = some (.iload_n 3, 1) := by decide +kernel
theorem zd207_8 : zop 207 8 = some (.invokestatic 339, 3) := by decide +kernel
theorem zd207_11 : zop 207 11 = some (.ifCond .ne 6, 3) := by decide +kernel
theorem zd207_14 : zop 207 14 = some (.bipush (-2), 2) := by decide +kernel
theorem zd207_16 : zop 207 16 = some (.ireturn, 1) := by decide +kernel
theorem zd207_17 : zop 207 17 = some (.aload_n 0, 1) := by decide +kernel
theorem zd207_18 : zop 207 18 = some (.getfield 68, 3) := by decide +kernel
theorem zd207_21 : zop 207 21 = some (.iload_n 1, 1) := by decide +kernel
theorem zd207_22 : zop 207 22 = some (.baload, 1) := by decide +kernel
theorem zd207_23 : zop 207 23 = some (.ifCond .eq 12, 3) := by decide +kernel
theorem zd207_26 : zop 207 26 = some (.aload_n 0, 1) := by decide +kernel
theorem zd207_27 : zop 207 27 = some (.getfield 68, 3) := by decide +kernel
theorem zd207_30 : zop 207 30 = some (.iload_n 3, 1) := by decide +kernel
theorem zd207_31 : zop 207 31 = some (.baload, 1) := by decide +kernel
theorem zd207_32 : zop 207 32 = some (.ifCond .ne 6, 3) := by decide +kernel
theorem zd207_35 : zop 207 35 = some (.bipush (-11), 2) := by decide +kernel
theorem zd207_37 : zop 207 37 = some (.ireturn, 1) := by decide +kernel
theorem zd207_38 : zop 207 38 = some (.aload_n 0, 1) := by decide +kernel
theorem zd207_39 : zop 207 39 = some (.getfield 72, 3) := by decide +kernel
theorem zd207_42 : zop 207 42 = some (.iload_n 1, 1) := by decide +kernel
theorem zd207_43 : zop 207 43 = some (.iaload, 1) := by decide +kernel
theorem zd207_44 : zop 207 44 = some (.aload_n 0, 1) := by decide +kernel
theorem zd207_45 : zop 207 45 = some (.getfield 72, 3) := by decide +kernel
theorem zd207_48 : zop 207 48 = some (.iload_n 3, 1) := by decide +kernel
theorem zd207_49 : zop 207 49 = some (.iaload, 1) := by decide +kernel
theorem zd207_50 : zop 207 50 = some (.if_icmp .eq 6, 3) := by decide +kernel
theorem zd207_53 : zop 207 53 = some (.bipush (-13), 2) := by decide +kernel
theorem zd207_55 : zop 207 55 = some (.ireturn, 1) := by decide +kernel
theorem zd207_56 : zop 207 56 = some (.iload 5, 2) := by decide +kernel
theorem zd207_58 : zop 207 58 = some (.ifCond .lt 39, 3) := by decide +kernel
theorem zd207_61 : zop 207 61 = some (.iload_n 2, 1) := by decide +kernel
theorem zd207_62 : zop 207 62 = some (.ifCond .lt 35, 3) := by decide +kernel
theorem zd207_65 : zop 207 65 = some (.iload 4, 2) := by decide +kernel
theorem zd207_67 : zop 207 67 = some (.ifCond .lt 30, 3) := by decide +kernel
theorem zd207_70 : zop 207 70 = some (.iload_n 2, 1) := by decide +kernel
theorem zd207_71 : zop 207 71 = some (.aload_n 0, 1) := by decide +kernel
theorem zd207_72 : zop 207 72 = some (.getfield 75, 3) := by decide +kernel
theorem zd207_75 : zop 207 75 = some (.iload_n 1, 1) := by decide +kernel
theorem zd207_76 : zop 207 76 = some (.iaload, 1) := by decide +kernel
theorem zd207_77 : zop 207 77 = some (.iload 5, 2) := by decide +kernel
theorem zd207_79 : zop 207 79 = some (.isub, 1) := by decide +kernel
theorem zd207_80 : zop 207 80 = some (.if_icmp .gt 17, 3) := by decide +kernel
theorem zd207_83 : zop 207 83 = some (.iload 4, 2) := by decide +kernel
theorem zd207_85 : zop 207 85 = some (.aload_n 0, 1) := by decide +kernel
theorem zd207_86 : zop 207 86 = some (.getfield 75, 3) := by decide +kernel
theorem zd207_89 : zop 207 89 = some (.iload_n 3, 1) := by decide +kernel
theorem zd207_90 : zop 207 90 = some (.iaload, 1) := by decide +kernel
theorem zd207_91 : zop 207 91 = some (.iload 5, 2) := by decide +kernel
theorem zd207_93 : zop 207 93 = some (.isub, 1) := by decide +kernel
theorem zd207_94 : zop 207 94 = some (.if_icmp .le 6, 3) := by decide +kernel
theorem zd207_97 : zop 207 97 = some (.bipush (-12), 2) := by decide +kernel
theorem zd207_99 : zop 207 99 = some (.ireturn, 1) := by decide +kernel
theorem zd207_100 : zop 207 100 = some (.iload_n 1, 1) := by decide +kernel
theorem zd207_101 : zop 207 101 = some (.iload_n 3, 1) := by decide +kernel
theorem zd207_102 : zop 207 102 = some (.if_icmp .ne 13, 3) := by decide +kernel
theorem zd207_105 : zop 207 105 = some (.iload_n 2, 1) := by decide +kernel
theorem zd207_106 : zop 207 106 = some (.iload 4, 2) := by decide +kernel
theorem zd207_108 : zop 207 108 = some (.if_icmp .ge 7, 3) := by decide +kernel
theorem zd207_111 : zop 207 111 = some (.iconst 1, 1) := by decide +kernel
theorem zd207_112 : zop 207 112 = some (.goto 4, 3) := by decide +kernel
theorem zd207_115 : zop 207 115 = some (.iconst 0, 1) := by decide +kernel
theorem zd207_116 : zop 207 116 = some (.istore 6, 2) := by decide +kernel
theorem zd207_118 : zop 207 118 = some (.iconst 0, 1) := by decide +kernel
theorem zd207_119 : zop 207 119 = some (.istore 7, 2) := by decide +kernel
theorem zd207_121 : zop 207 121 = some (.iload 7, 2) := by decide +kernel
theorem zd207_123 : zop 207 123 = some (.iload 5, 2) := by decide +kernel
theorem zd207_125 : zop 207 125 = some (.if_icmp .ge 57, 3) := by decide +kernel
theorem zd207_128 : zop 207 128 = some (.iload 6, 2) := by decide +kernel
theorem zd207_130 : zop 207 130 = some (.ifCond .eq 13, 3) := by decide +kernel
theorem zd207_133 : zop 207 133 = some (.iload 5, 2) := by decide +kernel
theorem zd207_135 : zop 207 135 = some (.iconst 1, 1) := by decide +kernel
theorem zd207_136 : zop 207 136 = some (.isub, 1) := by decide +kernel
theorem zd207_137 : zop 207 137 = some (.iload 7, 2) := by decide +kernel
theorem zd207_139 : zop 207 139 = some (.isub, 1) := by decide +kernel
theorem zd207_140 : zop 207 140 = some (.goto 5, 3) := by decide +kernel
theorem zd207_143 : zop 207 143 = some (.iload 7, 2) := by decide +kernel
theorem zd207_145 : zop 207 145 = some (.istore 8, 2) := by decide +kernel
theorem zd207_147 : zop 207 147 = some (.aload_n 0, 1) := by decide +kernel
theorem zd207_148 : zop 207 148 = some (.getfield 78, 3) := by decide +kernel
theorem zd207_151 : zop 207 151 = some (.bipush 40, 2) := by decide +kernel
theorem zd207_153 : zop 207 153 = some (.iload_n 3, 1) := by decide +kernel
theorem zd207_154 : zop 207 154 = some (.imul, 1) := by decide +kernel
theorem zd207_155 : zop 207 155 = some (.iload 4, 2) := by decide +kernel
theorem zd207_157 : zop 207 157 = some (.iadd, 1) := by decide +kernel
theorem zd207_158 : zop 207 158 = some (.iload 8, 2) := by decide +kernel
theorem zd207_160 : zop 207 160 = some (.iadd, 1) := by decide +kernel
theorem zd207_161 : zop 207 161 = some (.aload_n 0, 1) := by decide +kernel
theorem zd207_162 : zop 207 162 = some (.getfield 78, 3) := by decide +kernel
theorem zd207_165 : zop 207 165 = some (.bipush 40, 2) := by decide +kernel
theorem zd207_167 : zop 207 167 = some (.iload_n 1, 1) := by decide +kernel
theorem zd207_168 : zop 207 168 = some (.imul, 1) := by decide +kernel
theorem zd207_169 : zop 207 169 = some (.iload_n 2, 1) := by decide +kernel
theorem zd207_170 : zop 207 170 = some (.iadd, 1) := by decide +kernel
theorem zd207_171 : zop 207 171 = some (.iload 8, 2) := by decide +kernel
theorem zd207_173 : zop 207 173 = some (.iadd, 1) := by decide +kernel
theorem zd207_174 : zop 207 174 = some (.iaload, 1) := by decide +kernel
theorem zd207_175 : zop 207 175 = some (.iastore, 1) := by decide +kernel
theorem zd207_176 : zop 207 176 = some (.iinc 7 1, 3) := by decide +kernel
theorem zd207_179 : zop 207 179 = some (.goto (-58), 3) := by decide +kernel
theorem zd207_182 : zop 207 182 = some (.iload 5, 2) := by decide +kernel
theorem zd207_184 : zop 207 184 = some (.ireturn, 1) := by decide +kernel
theorem b207_0 {x : zXs} {F : zF} (hF : zSh F) {d : Nat} {V : Nat → Nat → Int32} {T : Nat → Nat → Int64} {Q : Option Value → zG → Prop} {o0 : Option Value} {l1 : Int32} {o2 : Option Value} {o3 : Option Value} {o4 : Option Value} {o5 : Option Value} {o6 : Option Value} {o7 : Option Value} {o8 : Option Value}   (k : E x F d 194 0 [some (.int l1)] [] (V, T) (fun r G' => E x F (d + 1) 207 4 [o0, some (.int l1), o2, o3, o4, o5, o6, o7, o8] (r.toList ++ []) G' Q)) : E x F (d + 1) 207 0 [o0, some (.int l1), o2, o3, o4, o5, o6, o7, o8] [] (V, T) Q := by
  refine e_iload_n zd207_0 rfl ?_
  exact e_callS zd207_1 (own := 8) (nest := false) (w := 1268) (by decide +kernel) (by decide +kernel) zs194 (as := [.int l1]) (rest := []) rfl rfl (Nat.le_of_ble_eq_true rfl) rfl rfl rfl (by omega) k
theorem b207_4 {x : zXs} {F : zF} (hF : zSh F) {d : Nat} {V : Nat → Nat → Int32} {T : Nat → Nat → Int64} {Q : Option Value → zG → Prop} {o0 : Option Value} {o1 : Option Value} {o2 : Option Value} {o3 : Option Value} {o4 : Option Value} {o5 : Option Value} {o6 : Option Value} {o7 : Option Value} {o8 : Option Value} {s0 : Int32}   (kt : s0 = 0 → E x F d 207 14 [o0, o1, o2, o3, o4, o5, o6, o7, o8] [] (V, T) Q) (kf : ¬ (s0 = 0) → E x F d 207 7 [o0, o1, o2, o3, o4, o5, o6, o7, o8] [] (V, T) Q) : E x F d 207 4 [o0, o1, o2, o3, o4, o5, o6, o7, o8] [.int s0] (V, T) Q := by
  exact e_if_eq zd207_4 (tg := 14) rfl kt kf
theorem b207_7 {x : zXs} {F : zF} (hF : zSh F) {d : Nat} {V : Nat → Nat → Int32} {T : Nat → Nat → Int64} {Q : Option Value → zG → Prop} {o0 : Option Value} {o1 : Option Value} {o2 : Option Value} {l3 : Int32} {o4 : Option Value} {o5 : Option Value} {o6 : Option Value} {o7 : Option Value} {o8 : Option Value}   (k : E x F d 194 0 [some (.int l3)] [] (V, T) (fun r G' => E x F (d + 1) 207 11 [o0, o1, o2, some (.int l3), o4, o5, o6, o7, o8] (r.toList ++ []) G' Q)) : E x F (d + 1) 207 7 [o0, o1, o2, some (.int l3), o4, o5, o6, o7, o8] [] (V, T) Q := by
  refine e_iload_n zd207_7 rfl ?_
  exact e_callS zd207_8 (own := 8) (nest := false) (w := 1268) (by decide +kernel) (by decide +kernel) zs194 (as := [.int l3]) (rest := []) rfl rfl (Nat.le_of_ble_eq_true rfl) rfl rfl rfl (by omega) k
theorem b207_11 {x : zXs} {F : zF} (hF : zSh F) {d : Nat} {V : Nat → Nat → Int32} {T : Nat → Nat → Int64} {Q : Option Value → zG → Prop} {o0 : Option Value} {o1 : Option Value} {o2 : Option Value} {o3 : Option Value} {o4 : Option Value} {o5 : Option Value} {o6 : Option Value} {o7 : Option Value} {o8 : Option Value} {s0 : Int32}   (kt : ¬ s0 = 0 → E x F d 207 17 [o0, o1, o2, o3, o4, o5, o6, o7, o8] [] (V, T) Q) (kf : ¬ (¬ s0 = 0) → E x F d 207 14 [o0, o1, o2, o3, o4, o5, o6, o7, o8] [] (V, T) Q) : E x F d 207 11 [o0, o1, o2, o3, o4, o5, o6, o7, o8] [.int s0] (V, T) Q := by
  exact e_if_ne zd207_11 (tg := 17) rfl kt kf
theorem b207_14 {x : zXs} {F : zF} (hF : zSh F) {d : Nat} {V : Nat → Nat → Int32} {T : Nat → Nat → Int64} {Q : Option Value → zG → Prop} {o0 : Option Value} {o1 : Option Value} {o2 : Option Value} {o3 : Option Value} {o4 : Option Value} {o5 : Option Value} {o6 : Option Value} {o7 : Option Value} {o8 : Option Value}   (k : Q (some (.int (Int32.ofInt (-2)))) (V, T)) : E x F d 207 14 [o0, o1, o2, o3, o4, o5, o6, o7, o8] [] (V, T) Q := by
  refine e_bipush zd207_14 (v := Int32.ofInt (-2)) (by decide +kernel) ?_
  exact e_ireti zd207_16 zs207 k
theorem b207_17 {x : zXs} {F : zF} (hF : zSh F) {d : Nat} {V : Nat → Nat → Int32} {T : Nat → Nat → Int64} {Q : Option Value → zG → Prop} {l1 : Int32} {o2 : Option Value} {o3 : Option Value} {o4 : Option Value} {o5 : Option Value} {o6 : Option Value} {o7 : Option Value} {o8 : Option Value}  {i1 : Nat} (e1 : l1 = nI i1) (h1 : i1 < 4) (kt : (V 77 i1) = 0 → E x F d 207 35 [some (.ref 59), some (.int l1), o2, o3, o4, o5, o6, o7, o8] [] (V, T) Q) (kf : ¬ ((V 77 i1) = 0) → E x F d 207 26 [some (.ref 59), some (.int l1), o2, o3, o4, o5, o6, o7, o8] [] (V, T) Q) : E x F d 207 17 [some (.ref 59), some (.int l1), o2, o3, o4, o5, o6, o7, o8] [] (V, T) Q := by
  refine e_aload_n zd207_17 rfl rfl ?_
  refine e_getA zd207_18 (own := 8) (ci := 8) (kf := 43) (w := 901) (by decide +kernel) (by decide +kernel) (zsh_at hF rfl).1 (by decide +kernel) rfl (zrf_at hF (i := 76) rfl) ?_
  refine e_iload_n zd207_21 rfl ?_
  refine e_bald zd207_22 (i := i1) (zsh_at hF rfl) e1 h1 (by omega) ?_
  exact e_if_eq zd207_23 (tg := 35) rfl kt kf
theorem b207_26 {x : zXs} {F : zF} (hF : zSh F) {d : Nat} {V : Nat → Nat → Int32} {T : Nat → Nat → Int64} {Q : Option Value → zG → Prop} {o1 : Option Value} {o2 : Option Value} {l3 : Int32} {o4 : Option Value} {o5 : Option Value} {o6 : Option Value} {o7 : Option Value} {o8 : Option Value}  {i1 : Nat} (e1 : l3 = nI i1) (h1 : i1 < 4) (kt : ¬ (V 77 i1) = 0 → E x F d 207 38 [some (.ref 59), o1, o2, some (.int l3), o4, o5, o6, o7, o8] [] (V, T) Q) (kf : ¬ (¬ (V 77 i1) = 0) → E x F d 207 35 [some (.ref 59), o1, o2, some (.int l3), o4, o5, o6, o7, o8] [] (V, T) Q) : E x F d 207 26 [some (.ref 59), o1, o2, some (.int l3), o4, o5, o6, o7, o8] [] (V, T) Q := by
  refine e_aload_n zd207_26 rfl rfl ?_
  refine e_getA zd207_27 (own := 8) (ci := 8) (kf := 43) (w := 901) (by decide +kernel) (by decide +kernel) (zsh_at hF rfl).1 (by decide +kernel) rfl (zrf_at hF (i := 76) rfl) ?_
  refine e_iload_n zd207_30 rfl ?_
  refine e_bald zd207_31 (i := i1) (zsh_at hF rfl) e1 h1 (by omega) ?_
  exact e_if_ne zd207_32 (tg := 38) rfl kt kf
theorem b207_35 {x : zXs} {F : zF} (hF : zSh F) {d : Nat} {V : Nat → Nat → Int32} {T : Nat → Nat → Int64} {Q : Option Value → zG → Prop} {o0 : Option Value} {o1 : Option Value} {o2 : Option Value} {o3 : Option Value} {o4 : Option Value} {o5 : Option Value} {o6 : Option Value} {o7 : Option Value} {o8 : Option Value}   (k : Q (some (.int (Int32.ofInt (-11)))) (V, T)) : E x F d 207 35 [o0, o1, o2, o3, o4, o5, o6, o7, o8] [] (V, T) Q := by
  refine e_bipush zd207_35 (v := Int32.ofInt (-11)) (by decide +kernel) ?_
  exact e_ireti zd207_37 zs207 k
theorem b207_38 {x : zXs} {F : zF} (hF : zSh F) {d : Nat} {V : Nat → Nat → Int32} {T : Nat → Nat → Int64} {Q : Option Value → zG → Prop} {l1 : Int32} {o2 : Option Value} {l3 : Int32} {o4 : Option Value} {o5 : Option Value} {o6 : Option Value} {o7 : Option Value} {o8 : Option Value}  {i1 : Nat} (e1 : l1 = nI i1) (h1 : i1 < 4) {i2 : Nat} (e2 : l3 = nI i2) (h2 : i2 < 4) (kt : (V 78 i1) = (V 78 i2) → E x F d 207 56 [some (.ref 59), some (.int l1), o2, some (.int l3), o4, o5, o6, o7, o8] [] (V, T) Q) (kf : ¬ ((V 78 i1) = (V 78 i2)) → E x F d 207 53 [some (.ref 59), some (.int l1), o2, some (.int l3), o4, o5, o6, o7, o8] [] (V, T) Q) : E x F d 207 38 [some (.ref 59), some (.int l1), o2, some (.int l3), o4, o5, o6, o7, o8] [] (V, T) Q := by
  refine e_aload_n zd207_38 rfl rfl ?_
  refine e_getA zd207_39 (own := 8) (ci := 8) (kf := 44) (w := 902) (by decide +kernel) (by decide +kernel) (zsh_at hF rfl).1 (by decide +kernel) rfl (zrf_at hF (i := 77) rfl) ?_
  refine e_iload_n zd207_42 rfl ?_
  refine e_iald zd207_43 (i := i1) (zsh_at hF rfl) e1 h1 (by omega) ?_
  refine e_aload_n zd207_44 rfl rfl ?_
  refine e_getA zd207_45 (own := 8) (ci := 8) (kf := 44) (w := 902) (by decide +kernel) (by decide +kernel) (zsh_at hF rfl).1 (by decide +kernel) rfl (zrf_at hF (i := 77) rfl) ?_
  refine e_iload_n zd207_48 rfl ?_
  refine e_iald zd207_49 (i := i2) (zsh_at hF rfl) e2 h2 (by omega) ?_
  exact e_icmp_eq zd207_50 (tg := 56) rfl kt kf
theorem b207_53 {x : zXs} {F : zF} (hF : zSh F) {d : Nat} {V : Nat → Nat → Int32} {T : Nat → Nat → Int64} {Q : Option Value → zG → Prop} {o0 : Option Value} {o1 : Option Value} {o2 : Option Value} {o3 : Option Value} {o4 : Option Value} {o5 : Option Value} {o6 : Option Value} {o7 : Option Value} {o8 : Option Value}   (k : Q (some (.int (Int32.ofInt (-13)))) (V, T)) : E x F d 207 53 [o0, o1, o2, o3, o4, o5, o6, o7, o8] [] (V, T) Q := by
  refine e_bipush zd207_53 (v := Int32.ofInt (-13)) (by decide +kernel) ?_
  exact e_ireti zd207_55 zs207 k
theorem b207_56 {x : zXs} {F : zF} (hF : zSh F) {d : Nat} {V : Nat → Nat → Int32} {T : Nat → Nat → Int64} {Q : Option Value → zG → Prop} {o0 : Option Value} {o1 : Option Value} {o2 : Option Value} {o3 : Option Value} {o4 : Option Value} {l5 : Int32} {o6 : Option Value} {o7 : Option Value} {o8 : Option Value}   (kt : l5 < 0 → E x F d 207 97 [o0, o1, o2, o3, o4, some (.int l5), o6, o7, o8] [] (V, T) Q) (kf : ¬ (l5 < 0) → E x F d 207 61 [o0, o1, o2, o3, o4, some (.int l5), o6, o7, o8] [] (V, T) Q) : E x F d 207 56 [o0, o1, o2, o3, o4, some (.int l5), o6, o7, o8] [] (V, T) Q := by
  refine e_iload zd207_56 rfl ?_
  exact e_if_lt zd207_58 (tg := 97) rfl kt kf
theorem b207_61 {x : zXs} {F : zF} (hF : zSh F) {d : Nat} {V : Nat → Nat → Int32} {T : Nat → Nat → Int64} {Q : Option Value → zG → Prop} {o0 : Option Value} {o1 : Option Value} {l2 : Int32} {o3 : Option Value} {o4 : Option Value} {o5 : Option Value} {o6 : Option Value} {o7 : Option Value} {o8 : Option Value}   (kt : l2 < 0 → E x F d 207 97 [o0, o1, some (.int l2), o3, o4, o5, o6, o7, o8] [] (V, T) Q) (kf : ¬ (l2 < 0) → E x F d 207 65 [o0, o1, some (.int l2), o3, o4, o5, o6, o7, o8] [] (V, T) Q) : E x F d 207 61 [o0, o1, some (.int l2), o3, o4, o5, o6, o7, o8] [] (V, T) Q := by
  refine e_iload_n zd207_61 rfl ?_
  exact e_if_lt zd207_62 (tg := 97) rfl kt kf
theorem b207_65 {x : zXs} {F : zF} (hF : zSh F) {d : Nat} {V : Nat → Nat → Int32} {T : Nat → Nat → Int64} {Q : Option Value → zG → Prop} {o0 : Option Value} {o1 : Option Value} {o2 : Option Value} {o3 : Option Value} {l4 : Int32} {o5 : Option Value} {o6 : Option Value} {o7 : Option Value} {o8 : Option Value}   (kt : l4 < 0 → E x F d 207 97 [o0, o1, o2, o3, some (.int l4), o5, o6, o7, o8] [] (V, T) Q) (kf : ¬ (l4 < 0) → E x F d 207 70 [o0, o1, o2, o3, some (.int l4), o5, o6, o7, o8] [] (V, T) Q) : E x F d 207 65 [o0, o1, o2, o3, some (.int l4), o5, o6, o7, o8] [] (V, T) Q := by
  refine e_iload zd207_65 rfl ?_
  exact e_if_lt zd207_67 (tg := 97) rfl kt kf
theorem b207_70 {x : zXs} {F : zF} (hF : zSh F) {d : Nat} {V : Nat → Nat → Int32} {T : Nat → Nat → Int64} {Q : Option Value → zG → Prop} {l1 : Int32} {l2 : Int32} {o3 : Option Value} {o4 : Option Value} {l5 : Int32} {o6 : Option Value} {o7 : Option Value} {o8 : Option Value}  {i1 : Nat} (e1 : l1 = nI i1) (h1 : i1 < 4) (kt : ((V 79 i1) - l5) < l2 → E x F d 207 97 [some (.ref 59), some (.int l1), some (.int l2), o3, o4, some (.int l5), o6, o7, o8] [] (V, T) Q) (kf : ¬ (((V 79 i1) - l5) < l2) → E x F d 207 83 [some (.ref 59), some (.int l1), some (.int l2), o3, o4, some (.int l5), o6, o7, o8] [] (V, T) Q) : E x F d 207 70 [some (.ref 59), some (.int l1), some (.int l2), o3, o4, some (.int l5), o6, o7, o8] [] (V, T) Q := by
  refine e_iload_n zd207_70 rfl ?_
  refine e_aload_n zd207_71 rfl rfl ?_
  refine e_getA zd207_72 (own := 8) (ci := 8) (kf := 45) (w := 903) (by decide +kernel) (by decide +kernel) (zsh_at hF rfl).1 (by decide +kernel) rfl (zrf_at hF (i := 78) rfl) ?_
  refine e_iload_n zd207_75 rfl ?_
  refine e_iald zd207_76 (i := i1) (zsh_at hF rfl) e1 h1 (by omega) ?_
  refine e_iload zd207_77 rfl ?_
  refine e_isub zd207_79 ?_
  exact e_icmp_gt zd207_80 (tg := 97) rfl kt kf
theorem b207_83 {x : zXs} {F : zF} (hF : zSh F) {d : Nat} {V : Nat → Nat → Int32} {T : Nat → Nat → Int64} {Q : Option Value → zG → Prop} {o1 : Option Value} {o2 : Option Value} {l3 : Int32} {l4 : Int32} {l5 : Int32} {o6 : Option Value} {o7 : Option Value} {o8 : Option Value}  {i1 : Nat} (e1 : l3 = nI i1) (h1 : i1 < 4) (kt : l4 ≤ ((V 79 i1) - l5) → E x F d 207 100 [some (.ref 59), o1, o2, some (.int l3), some (.int l4), some (.int l5), o6, o7, o8] [] (V, T) Q) (kf : ¬ (l4 ≤ ((V 79 i1) - l5)) → E x F d 207 97 [some (.ref 59), o1, o2, some (.int l3), some (.int l4), some (.int l5), o6, o7, o8] [] (V, T) Q) : E x F d 207 83 [some (.ref 59), o1, o2, some (.int l3), some (.int l4), some (.int l5), o6, o7, o8] [] (V, T) Q := by
  refine e_iload zd207_83 rfl ?_
  refine e_aload_n zd207_85 rfl rfl ?_
  refine e_getA zd207_86 (own := 8) (ci := 8) (kf := 45) (w := 903) (by decide +kernel) (by decide +kernel) (zsh_at hF rfl).1 (by decide +kernel) rfl (zrf_at hF (i := 78) rfl) ?_
  refine e_iload_n zd207_89 rfl ?_
  refine e_iald zd207_90 (i := i1) (zsh_at hF rfl) e1 h1 (by omega) ?_
  refine e_iload zd207_91 rfl ?_
  refine e_isub zd207_93 ?_
  exact e_icmp_le zd207_94 (tg := 100) rfl kt kf
theorem b207_97 {x : zXs} {F : zF} (hF : zSh F) {d : Nat} {V : Nat → Nat → Int32} {T : Nat → Nat → Int64} {Q : Option Value → zG → Prop} {o0 : Option Value} {o1 : Option Value} {o2 : Option Value} {o3 : Option Value} {o4 : Option Value} {o5 : Option Value} {o6 : Option Value} {o7 : Option Value} {o8 : Option Value}   (k : Q (some (.int (Int32.ofInt (-12)))) (V, T)) : E x F d 207 97 [o0, o1, o2, o3, o4, o5, o6, o7, o8] [] (V, T) Q := by
  refine e_bipush zd207_97 (v := Int32.ofInt (-12)) (by decide +kernel) ?_
  exact e_ireti zd207_99 zs207 k
theorem b207_100 {x : zXs} {F : zF} (hF : zSh F) {d : Nat} {V : Nat → Nat → Int32} {T : Nat → Nat → Int64} {Q : Option Value → zG → Prop} {o0 : Option Value} {l1 : Int32} {o2 : Option Value} {l3 : Int32} {o4 : Option Value} {o5 : Option Value} {o6 : Option Value} {o7 : Option Value} {o8 : Option Value}   (kt : ¬ l1 = l3 → E x F d 207 115 [o0, some (.int l1), o2, some (.int l3), o4, o5, o6, o7, o8] [] (V, T) Q) (kf : ¬ (¬ l1 = l3) → E x F d 207 105 [o0, some (.int l1), o2, some (.int l3), o4, o5, o6, o7, o8] [] (V, T) Q) : E x F d 207 100 [o0, some (.int l1), o2, some (.int l3), o4, o5, o6, o7, o8] [] (V, T) Q := by
  refine e_iload_n zd207_100 rfl ?_
  refine e_iload_n zd207_101 rfl ?_
  exact e_icmp_ne zd207_102 (tg := 115) rfl kt kf
theorem b207_105 {x : zXs} {F : zF} (hF : zSh F) {d : Nat} {V : Nat → Nat → Int32} {T : Nat → Nat → Int64} {Q : Option Value → zG → Prop} {o0 : Option Value} {o1 : Option Value} {l2 : Int32} {o3 : Option Value} {l4 : Int32} {o5 : Option Value} {o6 : Option Value} {o7 : Option Value} {o8 : Option Value}   (kt : l4 ≤ l2 → E x F d 207 115 [o0, o1, some (.int l2), o3, some (.int l4), o5, o6, o7, o8] [] (V, T) Q) (kf : ¬ (l4 ≤ l2) → E x F d 207 111 [o0, o1, some (.int l2), o3, some (.int l4), o5, o6, o7, o8] [] (V, T) Q) : E x F d 207 105 [o0, o1, some (.int l2), o3, some (.int l4), o5, o6, o7, o8] [] (V, T) Q := by
  refine e_iload_n zd207_105 rfl ?_
  refine e_iload zd207_106 rfl ?_
  exact e_icmp_ge zd207_108 (tg := 115) rfl kt kf
theorem b207_111 {x : zXs} {F : zF} (hF : zSh F) {d : Nat} {V : Nat → Nat → Int32} {T : Nat → Nat → Int64} {Q : Option Value → zG → Prop} {o0 : Option Value} {o1 : Option Value} {o2 : Option Value} {o3 : Option Value} {o4 : Option Value} {o5 : Option Value} {o6 : Option Value} {o7 : Option Value} {o8 : Option Value}   (k : E x F d 207 116 [o0, o1, o2, o3, o4, o5, o6, o7, o8] [.int (Int32.ofInt 1)] (V, T) Q) : E x F d 207 111 [o0, o1, o2, o3, o4, o5, o6, o7, o8] [] (V, T) Q := by
  refine e_iconst zd207_111 ?_
  exact e_goto zd207_112 (tg := 116) rfl k
theorem b207_115 {x : zXs} {F : zF} (hF : zSh F) {d : Nat} {V : Nat → Nat → Int32} {T : Nat → Nat → Int64} {Q : Option Value → zG → Prop} {o0 : Option Value} {o1 : Option Value} {o2 : Option Value} {o3 : Option Value} {o4 : Option Value} {o5 : Option Value} {o6 : Option Value} {o7 : Option Value} {o8 : Option Value}   (k : E x F d 207 116 [o0, o1, o2, o3, o4, o5, o6, o7, o8] [.int (Int32.ofInt 0)] (V, T) Q) : E x F d 207 115 [o0, o1, o2, o3, o4, o5, o6, o7, o8] [] (V, T) Q := by
  refine e_iconst zd207_115 ?_
  exact k
theorem b207_116 {x : zXs} {F : zF} (hF : zSh F) {d : Nat} {V : Nat → Nat → Int32} {T : Nat → Nat → Int64} {Q : Option Value → zG → Prop} {o0 : Option Value} {o1 : Option Value} {o2 : Option Value} {o3 : Option Value} {o4 : Option Value} {o5 : Option Value} {o6 : Option Value} {o7 : Option Value} {o8 : Option Value} {s0 : Int32}   (k : E x F d 207 121 [o0, o1, o2, o3, o4, o5, some (.int s0), some (.int (Int32.ofInt 0)), o8] [] (V, T) Q) : E x F d 207 116 [o0, o1, o2, o3, o4, o5, o6, o7, o8] [.int s0] (V, T) Q := by
  refine e_istore zd207_116 (by decide +kernel) (Nat.le_of_ble_eq_true rfl) ?_
  refine e_iconst zd207_118 ?_
  refine e_istore zd207_119 (by decide +kernel) (Nat.le_of_ble_eq_true rfl) ?_
  exact k
theorem b207_121 {x : zXs} {F : zF} (hF : zSh F) {d : Nat} {V : Nat → Nat → Int32} {T : Nat → Nat → Int64} {Q : Option Value → zG → Prop} {o0 : Option Value} {o1 : Option Value} {o2 : Option Value} {o3 : Option Value} {o4 : Option Value} {l5 : Int32} {o6 : Option Value} {l7 : Int32} {o8 : Option Value}   (kt : l5 ≤ l7 → E x F d 207 182 [o0, o1, o2, o3, o4, some (.int l5), o6, some (.int l7), o8] [] (V, T) Q) (kf : ¬ (l5 ≤ l7) → E x F d 207 128 [o0, o1, o2, o3, o4, some (.int l5), o6, some (.int l7), o8] [] (V, T) Q) : E x F d 207 121 [o0, o1, o2, o3, o4, some (.int l5), o6, some (.int l7), o8] [] (V, T) Q := by
  refine e_iload zd207_121 rfl ?_
  refine e_iload zd207_123 rfl ?_
  exact e_icmp_ge zd207_125 (tg := 182) rfl kt kf
theorem b207_128 {x : zXs} {F : zF} (hF : zSh F) {d : Nat} {V : Nat → Nat → Int32} {T : Nat → Nat → Int64} {Q : Option Value → zG → Prop} {o0 : Option Value} {o1 : Option Value} {o2 : Option Value} {o3 : Option Value} {o4 : Option Value} {o5 : Option Value} {l6 : Int32} {o7 : Option Value} {o8 : Option Value}   (kt : l6 = 0 → E x F d 207 143 [o0, o1, o2, o3, o4, o5, some (.int l6), o7, o8] [] (V, T) Q) (kf : ¬ (l6 = 0) → E x F d 207 133 [o0, o1, o2, o3, o4, o5, some (.int l6), o7, o8] [] (V, T) Q) : E x F d 207 128 [o0, o1, o2, o3, o4, o5, some (.int l6), o7, o8] [] (V, T) Q := by
  refine e_iload zd207_128 rfl ?_
  exact e_if_eq zd207_130 (tg := 143) rfl kt kf
theorem b207_133 {x : zXs} {F : zF} (hF : zSh F) {d : Nat} {V : Nat → Nat → Int32} {T : Nat → Nat → Int64} {Q : Option Value → zG → Prop} {o0 : Option Value} {o1 : Option Value} {o2 : Option Value} {o3 : Option Value} {o4 : Option Value} {l5 : Int32} {o6 : Option Value} {l7 : Int32} {o8 : Option Value}   (k : E x F d 207 145 [o0, o1, o2, o3, o4, some (.int l5), o6, some (.int l7), o8] [.int ((l5 - (Int32.ofInt 1)) - l7)] (V, T) Q) : E x F d 207 133 [o0, o1, o2, o3, o4, some (.int l5), o6, some (.int l7), o8] [] (V, T) Q := by
  refine e_iload zd207_133 rfl ?_
  refine e_iconst zd207_135 ?_
  refine e_isub zd207_136 ?_
  refine e_iload zd207_137 rfl ?_
  refine e_isub zd207_139 ?_
  exact e_goto zd207_140 (tg := 145) rfl k
theorem b207_143 {x : zXs} {F : zF} (hF : zSh F) {d : Nat} {V : Nat → Nat → Int32} {T : Nat → Nat → Int64} {Q : Option Value → zG → Prop} {o0 : Option Value} {o1 : Option Value} {o2 : Option Value} {o3 : Option Value} {o4 : Option Value} {o5 : Option Value} {o6 : Option Value} {l7 : Int32} {o8 : Option Value}   (k : E x F d 207 145 [o0, o1, o2, o3, o4, o5, o6, some (.int l7), o8] [.int l7] (V, T) Q) : E x F d 207 143 [o0, o1, o2, o3, o4, o5, o6, some (.int l7), o8] [] (V, T) Q := by
  refine e_iload zd207_143 rfl ?_
  exact k
theorem b207_145 {x : zXs} {F : zF} (hF : zSh F) {d : Nat} {V : Nat → Nat → Int32} {T : Nat → Nat → Int64} {Q : Option Value → zG → Prop} {l1 : Int32} {l2 : Int32} {l3 : Int32} {l4 : Int32} {o5 : Option Value} {o6 : Option Value} {l7 : Int32} {o8 : Option Value} {s0 : Int32}  {i1 : Nat} (e1 : (((Int32.ofInt 40) * l1) + l2) + s0 = nI i1) (h1 : i1 < 160) {i2 : Nat} (e2 : (((Int32.ofInt 40) * l3) + l4) + s0 = nI i2) (h2 : i2 < 160) (k : E x F d 207 121 [some (.ref 59), some (.int l1), some (.int l2), some (.int l3), some (.int l4), o5, o6, some (.int (l7 + Int32.ofInt 1)), some (.int s0)] [] (zu V 80 i2 (V 80 i1), T) Q) : E x F d 207 145 [some (.ref 59), some (.int l1), some (.int l2), some (.int l3), some (.int l4), o5, o6, some (.int l7), o8] [.int s0] (V, T) Q := by
  refine e_istore zd207_145 (by decide +kernel) (Nat.le_of_ble_eq_true rfl) ?_
  refine e_aload_n zd207_147 rfl rfl ?_
  refine e_getA zd207_148 (own := 8) (ci := 8) (kf := 46) (w := 904) (by decide +kernel) (by decide +kernel) (zsh_at hF rfl).1 (by decide +kernel) rfl (zrf_at hF (i := 79) rfl) ?_
  refine e_bipush zd207_151 (v := Int32.ofInt 40) (by decide +kernel) ?_
  refine e_iload_n zd207_153 rfl ?_
  refine e_imul zd207_154 ?_
  refine e_iload zd207_155 rfl ?_
  refine e_iadd zd207_157 ?_
  refine e_iload zd207_158 rfl ?_
  refine e_iadd zd207_160 ?_
  refine e_aload_n zd207_161 rfl rfl ?_
  refine e_getA zd207_162 (own := 8) (ci := 8) (kf := 46) (w := 904) (by decide +kernel) (by decide +kernel) (zsh_at hF rfl).1 (by decide +kernel) rfl (zrf_at hF (i := 79) rfl) ?_
  refine e_bipush zd207_165 (v := Int32.ofInt 40) (by decide +kernel) ?_
  refine e_iload_n zd207_167 rfl ?_
  refine e_imul zd207_168 ?_
  refine e_iload_n zd207_169 rfl ?_
  refine e_iadd zd207_170 ?_
  refine e_iload zd207_171 rfl ?_
  refine e_iadd zd207_173 ?_
  refine e_iald zd207_174 (i := i1) (zsh_at hF rfl) e1 h1 (by omega) ?_
  refine e_iast zd207_175 (i := i2) (zsh_at hF rfl) e2 h2 (by omega) ?_
  refine e_iinc zd207_176 rfl (by decide +kernel) ?_
  exact e_goto zd207_179 (tg := 121) rfl k
theorem b207_182 {x : zXs} {F : zF} (hF : zSh F) {d : Nat} {V : Nat → Nat → Int32} {T : Nat → Nat → Int64} {Q : Option Value → zG → Prop} {o0 : Option Value} {o1 : Option Value} {o2 : Option Value} {o3 : Option Value} {o4 : Option Value} {l5 : Int32} {o6 : Option Value} {o7 : Option Value} {o8 : Option Value}   (k : Q (some (.int l5)) (V, T)) : E x F d 207 182 [o0, o1, o2, o3, o4, some (.int l5), o6, o7, o8] [] (V, T) Q := by
  refine e_iload zd207_182 rfl ?_
  exact e_ireti zd207_184 zs207 k
theorem zd208_0 : zop 208 0 = some (.iload_n 1, 1) := by decide +kernel
theorem zd208_1 : zop 208 1 = some (.invokestatic 339, 3) := by decide +kernel
theorem zd208_4 : zop 208 4 = some (.ifCond .eq 28, 3) := by decide +kernel
theorem zd208_7 : zop 208 7 = some (.iload_n 2, 1) := by decide +kernel
theorem zd208_8 : zop 208 8 = some (.i2l, 1) := by decide +kernel
theorem zd208_9 : zop 208 9 = some (.lconst 0, 1) := by decide +kernel
theorem zd208_10 : zop 208 10 = some (.ldc2_w 110, 3) := by decide +kernel
theorem zd208_13 : zop 208 13 = some (.invokestatic 91, 3) := by decide +kernel
theorem zd208_16 : zop 208 16 = some (.ifCond .eq 16, 3) := by decide +kernel
theorem zd208_19 : zop 208 19 = some (.iload 4, 2) := by decide +kernel
theorem zd208_21 : zop 208 21 = some (.i2l, 1) := by decide +kernel
theorem zd208_22 : zop 208 22 = some (.lconst 0, 1) := by decide +kernel
theorem zd208_23 : zop 208 23 = some (.ldc2_w 132, 3) := by decide +kernel
theorem zd208_26 : zop 208 26 = some (.invokestatic 91, 3) := by decide +kernel
theorem zd208_29 : zop 208 29 = some (.ifCond .ne 6, 3) := by decide +kernel
theorem zd208_32 : zop 208 32 = some (.bipush (-2), 2) := by decide +kernel
theorem zd208_34 : zop 208 34 = some (.ireturn, 1) := by decide +kernel
theorem zd208_35 : zop 208 35 = some (.aload_n 0, 1) := by decide +kernel
theorem zd208_36 : zop 208 36 = some (.getfield 68, 3) := by decide +kernel
theorem zd208_39 : zop 208 39 = some (.iload_n 1, 1) := by decide +kernel
theorem zd208_40 : zop 208 40 = some (.baload, 1) := by decide +kernel
theorem zd208_41 : zop 208 41 = some (.ifCond .eq 16, 3) := by decide +kernel
theorem zd208_44 : zop 208 44 = some (.aload_n 0, 1) := by decide +kernel
theorem zd208_45 : zop 208 45 = some (.getfield 72, 3) := by decide +kernel
theorem zd208_48 : zop 208 48 = some (.iload_n 1, 1) := by decide +kernel
theorem zd208_49 : zop 208 49 = some (.iaload, 1) := by decide +kernel
theorem zd208_50 : zop 208 50 = some (.iload_n 2, 1) := by decide +kernel
theorem zd208_51 : zop 208 51 = some (.if_icmp .eq 6, 3) := by decide +kernel
theorem zd208_54 : zop 208 54 = some (.bipush (-13), 2) := by decide +kernel
theorem zd208_56 : zop 208 56 = some (.ireturn, 1) := by decide +kernel
theorem zd208_57 : zop 208 57 = some (.aload_n 0, 1) := by decide +kernel
theorem zd208_58 : zop 208 58 = some (.getfield 68, 3) := by decide +kernel
theorem zd208_61 : zop 208 61 = some (.iload_n 1, 1) := by decide +kernel
theorem zd208_62 : zop 208 62 = some (.baload, 1) := by decide +kernel
theorem zd208_63 : zop 208 63 = some (.ifCond .ne 6, 3) := by decide +kernel
theorem zd208_66 : zop 208 66 = some (.bipush (-11), 2) := by decide +kernel
theorem zd208_68 : zop 208 68 = some (.ireturn, 1) := by decide +kernel
theorem zd208_69 : zop 208 69 = some (.iconst 0, 1) := by decide +kernel
theorem zd208_70 : zop 208 70 = some (.istore 5, 2) := by decide +kernel
theorem zd208_72 : zop 208 72 = some (.iconst 0, 1) := by decide +kernel
theorem zd208_73 : zop 208 73 = some (.istore 6, 2) := by decide +kernel
theorem zd208_75 : zop 208 75 = some (.iload 6, 2) := by decide +kernel
theorem zd208_77 : zop 208 77 = some (.iload 4, 2) := by decide +kernel
theorem zd208_79 : zop 208 79 = some (.if_icmp .ge 79, 3) := by decide +kernel
theorem zd208_82 : zop 208 82 = some (.iload_n 3, 1) := by decide +kernel
theorem zd208_83 : zop 208 83 = some (.ifCond .lt 20, 3) := by decide +kernel
theorem zd208_86 : zop 208 86 = some (.iload_n 3, 1) := by decide +kernel
theorem zd208_87 : zop 208 87 = some (.aload_n 0, 1) := by decide +kernel
theorem zd208_88 : zop 208 88 = some (.getfield 75, 3) := by decide +kernel
theorem zd208_91 : zop 208 91 = some (.iload_n 1, 1) := by decide +kernel
theorem zd208_92 : zop 208 92 = some (.iaload, 1) := by decide +kernel
theorem zd208_93 : zop 208 93 = some (.iconst 2, 1) := by decide +kernel
theorem zd208_94 : zop 208 94 = some (.iload 6, 2) := by decide +kernel
theorem zd208_96 : zop 208 96 = some (.imul, 1) := by decide +kernel
theorem zd208_97 : zop 208 97 = some (.isub, 1) := by decide +kernel
theorem zd208_98 : zop 208 98 = some (.iconst 2, 1) := by decide +kernel
theorem zd208_99 : zop 208 99 = some (.isub, 1) := by decide +kernel
theorem zd208_100 : zop 208 100 = some (.if_icmp .le 6, 3) := by decide +kernel
theorem zd208_103 : zop 208 103 = some (.bipush (-12), 2) := by decide +kernel
theorem zd208_105 : zop 208 105 = some (.ireturn, 1) := by decide +kernel
theorem zd208_106 : zop 208 106 = some (.bipush 40, 2) := by decide +kernel
theorem zd208_108 : zop 208 108 = some (.iload_n 1, 1) := by decide +kernel
theorem zd208_109 : zop 208 109 = some (.imul, 1) := by decide +kernel
theorem zd208_110 : zop 208 110 = some (.iload_n 3, 1) := by decide +kernel
theorem zd208_111 : zop 208 111 = some (.iadd, 1) := by decide +kernel
theorem zd208_112 : zop 208 112 = some (.iconst 2, 1) := by decide +kernel
theorem zd208_113 : zop 208 113 = some (.iload 6, 2) := by decide +kernel
theorem zd208_115 : zop 208 115 = some (.imul, 1) := by decide +kernel
theorem zd208_116 : zop 208 116 = some (.iadd, 1) := by decide +kernel
theorem zd208_117 : zop 208 117 = some (.istore 7, 2) := by decide +kernel
theorem zd208_119 : zop 208 119 = some (.iload 5, 2) := by decide +kernel
theorem zd208_121 : zop 208 121 = some (.aload_n 0, 1) := by decide +kernel
theorem zd208_122 : zop 208 122 = some (.aload_n 0, 1) := by decide +kernel
theorem zd208_123 : zop 208 123 = some (.getfield 78, 3) := by decide +kernel
theorem zd208_126 : zop 208 126 = some (.iload 7, 2) := by decide +kernel
theorem zd208_128 : zop 208 128 = some (.iaload, 1) := by decide +kernel
theorem zd208_129 : zop 208 129 = some (.aload_n 0, 1) := by decide +kernel
theorem zd208_130 : zop 208 130 = some (.getfield 78, 3) := by decide +kernel
theorem zd208_133 : zop 208 133 = some (.iload 7, 2) := by decide +kernel
theorem zd208_135 : zop 208 135 = some (.iconst 1, 1) := by decide +kernel
theorem zd208_136 : zop 208 136 = some (.iadd, 1) := by decide +kernel
theorem zd208_137 : zop 208 137 = some (.iaload, 1) := by decide +kernel
theorem zd208_138 : zop 208 138 = some (.invokevirtual 365, 3) := by decide +kernel
theorem zd208_141 : zop 208 141 = some (.ifCond .lt 7, 3) := by decide +kernel
theorem zd208_144 : zop 208 144 = some (.iconst 1, 1) := by decide +kernel
theorem zd208_145 : zop 208 145 = some (.goto 4, 3) := by decide +kernel
theorem zd208_148 : zop 208 148 = some (.iconst 0, 1) := by decide +kernel
theorem zd208_149 : zop 208 149 = some (.iadd, 1) := by decide +kernel
theorem zd208_150 : zop 208 150 = some (.istore 5, 2) := by decide +kernel
theorem zd208_152 : zop 208 152 = some (.iinc 6 1, 3) := by decide +kernel
theorem zd208_155 : zop 208 155 = some (.goto (-80), 3) := by decide +kernel
theorem zd208_158 : zop 208 158 = some (.iload 5, 2) := by decide +kernel
theorem zd208_160 : zop 208 160 = some (.ireturn, 1) := by decide +kernel
theorem b208_0 {x : zXs} {F : zF} (hF : zSh F) {d : Nat} {V : Nat → Nat → Int32} {T : Nat → Nat → Int64} {Q : Option Value → zG → Prop} {o0 : Option Value} {l1 : Int32} {o2 : Option Value} {o3 : Option Value} {o4 : Option Value} {o5 : Option Value} {o6 : Option Value} {o7 : Option Value}   (k : E x F d 194 0 [some (.int l1)] [] (V, T) (fun r G' => E x F (d + 1) 208 4 [o0, some (.int l1), o2, o3, o4, o5, o6, o7] (r.toList ++ []) G' Q)) : E x F (d + 1) 208 0 [o0, some (.int l1), o2, o3, o4, o5, o6, o7] [] (V, T) Q := by
  refine e_iload_n zd208_0 rfl ?_
  exact e_callS zd208_1 (own := 8) (nest := false) (w := 1268) (by decide +kernel) (by decide +kernel) zs194 (as := [.int l1]) (rest := []) rfl rfl (Nat.le_of_ble_eq_true rfl) rfl rfl rfl (by omega) k
theorem b208_4 {x : zXs} {F : zF} (hF : zSh F) {d : Nat} {V : Nat → Nat → Int32} {T : Nat → Nat → Int64} {Q : Option Value → zG → Prop} {o0 : Option Value} {o1 : Option Value} {o2 : Option Value} {o3 : Option Value} {o4 : Option Value} {o5 : Option Value} {o6 : Option Value} {o7 : Option Value} {s0 : Int32}   (kt : s0 = 0 → E x F d 208 32 [o0, o1, o2, o3, o4, o5, o6, o7] [] (V, T) Q) (kf : ¬ (s0 = 0) → E x F d 208 7 [o0, o1, o2, o3, o4, o5, o6, o7] [] (V, T) Q) : E x F d 208 4 [o0, o1, o2, o3, o4, o5, o6, o7] [.int s0] (V, T) Q := by
  exact e_if_eq zd208_4 (tg := 32) rfl kt kf
theorem b208_7 {x : zXs} {F : zF} (hF : zSh F) {d : Nat} {V : Nat → Nat → Int32} {T : Nat → Nat → Int64} {Q : Option Value → zG → Prop} {o0 : Option Value} {o1 : Option Value} {l2 : Int32} {o3 : Option Value} {o4 : Option Value} {o5 : Option Value} {o6 : Option Value} {o7 : Option Value}   (k : E x F d 132 0 [some (.long l2.toInt64), none, some (.long 0), none, some (.long (2 : Int64)), none] [] (V, T) (fun r G' => E x F (d + 1) 208 16 [o0, o1, some (.int l2), o3, o4, o5, o6, o7] (r.toList ++ []) G' Q)) : E x F (d + 1) 208 7 [o0, o1, some (.int l2), o3, o4, o5, o6, o7] [] (V, T) Q := by
  refine e_iload_n zd208_7 rfl ?_
  refine e_i2l zd208_8 ?_
  refine e_lconst zd208_9 (v := 0) rfl ?_
  refine e_ldc2 zd208_10 (own := 8) (w := 1024) (v := 2) (by decide +kernel) (by decide +kernel) ?_
  exact e_callS zd208_13 (own := 8) (nest := false) (w := 1009) (by decide +kernel) (by decide +kernel) zs132 (as := [.long l2.toInt64, .long 0, .long (2 : Int64)]) (rest := []) rfl rfl (Nat.le_of_ble_eq_true rfl) rfl rfl rfl (by omega) k
theorem b208_16 {x : zXs} {F : zF} (hF : zSh F) {d : Nat} {V : Nat → Nat → Int32} {T : Nat → Nat → Int64} {Q : Option Value → zG → Prop} {o0 : Option Value} {o1 : Option Value} {o2 : Option Value} {o3 : Option Value} {o4 : Option Value} {o5 : Option Value} {o6 : Option Value} {o7 : Option Value} {s0 : Int32}   (kt : s0 = 0 → E x F d 208 32 [o0, o1, o2, o3, o4, o5, o6, o7] [] (V, T) Q) (kf : ¬ (s0 = 0) → E x F d 208 19 [o0, o1, o2, o3, o4, o5, o6, o7] [] (V, T) Q) : E x F d 208 16 [o0, o1, o2, o3, o4, o5, o6, o7] [.int s0] (V, T) Q := by
  exact e_if_eq zd208_16 (tg := 32) rfl kt kf
theorem b208_19 {x : zXs} {F : zF} (hF : zSh F) {d : Nat} {V : Nat → Nat → Int32} {T : Nat → Nat → Int64} {Q : Option Value → zG → Prop} {o0 : Option Value} {o1 : Option Value} {o2 : Option Value} {o3 : Option Value} {l4 : Int32} {o5 : Option Value} {o6 : Option Value} {o7 : Option Value}   (k : E x F d 132 0 [some (.long l4.toInt64), none, some (.long 0), none, some (.long (5 : Int64)), none] [] (V, T) (fun r G' => E x F (d + 1) 208 29 [o0, o1, o2, o3, some (.int l4), o5, o6, o7] (r.toList ++ []) G' Q)) : E x F (d + 1) 208 19 [o0, o1, o2, o3, some (.int l4), o5, o6, o7] [] (V, T) Q := by
  refine e_iload zd208_19 rfl ?_
  refine e_i2l zd208_21 ?_
  refine e_lconst zd208_22 (v := 0) rfl ?_
  refine e_ldc2 zd208_23 (own := 8) (w := 1142) (v := 5) (by decide +kernel) (by decide +kernel) ?_
  exact e_callS zd208_26 (own := 8) (nest := false) (w := 1009) (by decide +kernel) (by decide +kernel) zs132 (as := [.long l4.toInt64, .long 0, .long (5 : Int64)]) (rest := []) rfl rfl (Nat.le_of_ble_eq_true rfl) rfl rfl rfl (by omega) k
theorem b208_29 {x : zXs} {F : zF} (hF : zSh F) {d : Nat} {V : Nat → Nat → Int32} {T : Nat → Nat → Int64} {Q : Option Value → zG → Prop} {o0 : Option Value} {o1 : Option Value} {o2 : Option Value} {o3 : Option Value} {o4 : Option Value} {o5 : Option Value} {o6 : Option Value} {o7 : Option Value} {s0 : Int32}   (kt : ¬ s0 = 0 → E x F d 208 35 [o0, o1, o2, o3, o4, o5, o6, o7] [] (V, T) Q) (kf : ¬ (¬ s0 = 0) → E x F d 208 32 [o0, o1, o2, o3, o4, o5, o6, o7] [] (V, T) Q) : E x F d 208 29 [o0, o1, o2, o3, o4, o5, o6, o7] [.int s0] (V, T) Q := by
  exact e_if_ne zd208_29 (tg := 35) rfl kt kf
theorem b208_32 {x : zXs} {F : zF} (hF : zSh F) {d : Nat} {V : Nat → Nat → Int32} {T : Nat → Nat → Int64} {Q : Option Value → zG → Prop} {o0 : Option Value} {o1 : Option Value} {o2 : Option Value} {o3 : Option Value} {o4 : Option Value} {o5 : Option Value} {o6 : Option Value} {o7 : Option Value}   (k : Q (some (.int (Int32.ofInt (-2)))) (V, T)) : E x F d 208 32 [o0, o1, o2, o3, o4, o5, o6, o7] [] (V, T) Q := by
  refine e_bipush zd208_32 (v := Int32.ofInt (-2)) (by decide +kernel) ?_
  exact e_ireti zd208_34 zs208 k
theorem b208_35 {x : zXs} {F : zF} (hF : zSh F) {d : Nat} {V : Nat → Nat → Int32} {T : Nat → Nat → Int64} {Q : Option Value → zG → Prop} {l1 : Int32} {o2 : Option Value} {o3 : Option Value} {o4 : Option Value} {o5 : Option Value} {o6 : Option Value} {o7 : Option Value}  {i1 : Nat} (e1 : l1 = nI i1) (h1 : i1 < 4) (kt : (V 77 i1) = 0 → E x F d 208 57 [some (.ref 59), some (.int l1), o2, o3, o4, o5, o6, o7] [] (V, T) Q) (kf : ¬ ((V 77 i1) = 0) → E x F d 208 44 [some (.ref 59), some (.int l1), o2, o3, o4, o5, o6, o7] [] (V, T) Q) : E x F d 208 35 [some (.ref 59), some (.int l1), o2, o3, o4, o5, o6, o7] [] (V, T) Q := by
  refine e_aload_n zd208_35 rfl rfl ?_
  refine e_getA zd208_36 (own := 8) (ci := 8) (kf := 43) (w := 901) (by decide +kernel) (by decide +kernel) (zsh_at hF rfl).1 (by decide +kernel) rfl (zrf_at hF (i := 76) rfl) ?_
  refine e_iload_n zd208_39 rfl ?_
  refine e_bald zd208_40 (i := i1) (zsh_at hF rfl) e1 h1 (by omega) ?_
  exact e_if_eq zd208_41 (tg := 57) rfl kt kf
theorem b208_44 {x : zXs} {F : zF} (hF : zSh F) {d : Nat} {V : Nat → Nat → Int32} {T : Nat → Nat → Int64} {Q : Option Value → zG → Prop} {l1 : Int32} {l2 : Int32} {o3 : Option Value} {o4 : Option Value} {o5 : Option Value} {o6 : Option Value} {o7 : Option Value}  {i1 : Nat} (e1 : l1 = nI i1) (h1 : i1 < 4) (kt : (V 78 i1) = l2 → E x F d 208 57 [some (.ref 59), some (.int l1), some (.int l2), o3, o4, o5, o6, o7] [] (V, T) Q) (kf : ¬ ((V 78 i1) = l2) → E x F d 208 54 [some (.ref 59), some (.int l1), some (.int l2), o3, o4, o5, o6, o7] [] (V, T) Q) : E x F d 208 44 [some (.ref 59), some (.int l1), some (.int l2), o3, o4, o5, o6, o7] [] (V, T) Q := by
  refine e_aload_n zd208_44 rfl rfl ?_
  refine e_getA zd208_45 (own := 8) (ci := 8) (kf := 44) (w := 902) (by decide +kernel) (by decide +kernel) (zsh_at hF rfl).1 (by decide +kernel) rfl (zrf_at hF (i := 77) rfl) ?_
  refine e_iload_n zd208_48 rfl ?_
  refine e_iald zd208_49 (i := i1) (zsh_at hF rfl) e1 h1 (by omega) ?_
  refine e_iload_n zd208_50 rfl ?_
  exact e_icmp_eq zd208_51 (tg := 57) rfl kt kf
theorem b208_54 {x : zXs} {F : zF} (hF : zSh F) {d : Nat} {V : Nat → Nat → Int32} {T : Nat → Nat → Int64} {Q : Option Value → zG → Prop} {o0 : Option Value} {o1 : Option Value} {o2 : Option Value} {o3 : Option Value} {o4 : Option Value} {o5 : Option Value} {o6 : Option Value} {o7 : Option Value}   (k : Q (some (.int (Int32.ofInt (-13)))) (V, T)) : E x F d 208 54 [o0, o1, o2, o3, o4, o5, o6, o7] [] (V, T) Q := by
  refine e_bipush zd208_54 (v := Int32.ofInt (-13)) (by decide +kernel) ?_
  exact e_ireti zd208_56 zs208 k
theorem b208_57 {x : zXs} {F : zF} (hF : zSh F) {d : Nat} {V : Nat → Nat → Int32} {T : Nat → Nat → Int64} {Q : Option Value → zG → Prop} {l1 : Int32} {o2 : Option Value} {o3 : Option Value} {o4 : Option Value} {o5 : Option Value} {o6 : Option Value} {o7 : Option Value}  {i1 : Nat} (e1 : l1 = nI i1) (h1 : i1 < 4) (kt : ¬ (V 77 i1) = 0 → E x F d 208 69 [some (.ref 59), some (.int l1), o2, o3, o4, o5, o6, o7] [] (V, T) Q) (kf : ¬ (¬ (V 77 i1) = 0) → E x F d 208 66 [some (.ref 59), some (.int l1), o2, o3, o4, o5, o6, o7] [] (V, T) Q) : E x F d 208 57 [some (.ref 59), some (.int l1), o2, o3, o4, o5, o6, o7] [] (V, T) Q := by
  refine e_aload_n zd208_57 rfl rfl ?_
  refine e_getA zd208_58 (own := 8) (ci := 8) (kf := 43) (w := 901) (by decide +kernel) (by decide +kernel) (zsh_at hF rfl).1 (by decide +kernel) rfl (zrf_at hF (i := 76) rfl) ?_
  refine e_iload_n zd208_61 rfl ?_
  refine e_bald zd208_62 (i := i1) (zsh_at hF rfl) e1 h1 (by omega) ?_
  exact e_if_ne zd208_63 (tg := 69) rfl kt kf
theorem b208_66 {x : zXs} {F : zF} (hF : zSh F) {d : Nat} {V : Nat → Nat → Int32} {T : Nat → Nat → Int64} {Q : Option Value → zG → Prop} {o0 : Option Value} {o1 : Option Value} {o2 : Option Value} {o3 : Option Value} {o4 : Option Value} {o5 : Option Value} {o6 : Option Value} {o7 : Option Value}   (k : Q (some (.int (Int32.ofInt (-11)))) (V, T)) : E x F d 208 66 [o0, o1, o2, o3, o4, o5, o6, o7] [] (V, T) Q := by
  refine e_bipush zd208_66 (v := Int32.ofInt (-11)) (by decide +kernel) ?_
  exact e_ireti zd208_68 zs208 k
theorem b208_69 {x : zXs} {F : zF} (hF : zSh F) {d : Nat} {V : Nat → Nat → Int32} {T : Nat → Nat → Int64} {Q : Option Value → zG → Prop} {o0 : Option Value} {o1 : Option Value} {o2 : Option Value} {o3 : Option Value} {o4 : Option Value} {o5 : Option Value} {o6 : Option Value} {o7 : Option Value}   (k : E x F d 208 75 [o0, o1, o2, o3, o4, some (.int (Int32.ofInt 0)), some (.int (Int32.ofInt 0)), o7] [] (V, T) Q) : E x F d 208 69 [o0, o1, o2, o3, o4, o5, o6, o7] [] (V, T) Q := by
  refine e_iconst zd208_69 ?_
  refine e_istore zd208_70 (by decide +kernel) (Nat.le_of_ble_eq_true rfl) ?_
  refine e_iconst zd208_72 ?_
  refine e_istore zd208_73 (by decide +kernel) (Nat.le_of_ble_eq_true rfl) ?_
  exact k
theorem b208_75 {x : zXs} {F : zF} (hF : zSh F) {d : Nat} {V : Nat → Nat → Int32} {T : Nat → Nat → Int64} {Q : Option Value → zG → Prop} {o0 : Option Value} {o1 : Option Value} {o2 : Option Value} {o3 : Option Value} {l4 : Int32} {o5 : Option Value} {l6 : Int32} {o7 : Option Value}   (kt : l4 ≤ l6 → E x F d 208 158 [o0, o1, o2, o3, some (.int l4), o5, some (.int l6), o7] [] (V, T) Q) (kf : ¬ (l4 ≤ l6) → E x F d 208 82 [o0, o1, o2, o3, some (.int l4), o5, some (.int l6), o7] [] (V, T) Q) : E x F d 208 75 [o0, o1, o2, o3, some (.int l4), o5, some (.int l6), o7] [] (V, T) Q := by
  refine e_iload zd208_75 rfl ?_
  refine e_iload zd208_77 rfl ?_
  exact e_icmp_ge zd208_79 (tg := 158) rfl kt kf
theorem b208_82 {x : zXs} {F : zF} (hF : zSh F) {d : Nat} {V : Nat → Nat → Int32} {T : Nat → Nat → Int64} {Q : Option Value → zG → Prop} {o0 : Option Value} {o1 : Option Value} {o2 : Option Value} {l3 : Int32} {o4 : Option Value} {o5 : Option Value} {o6 : Option Value} {o7 : Option Value}   (kt : l3 < 0 → E x F d 208 103 [o0, o1, o2, some (.int l3), o4, o5, o6, o7] [] (V, T) Q) (kf : ¬ (l3 < 0) → E x F d 208 86 [o0, o1, o2, some (.int l3), o4, o5, o6, o7] [] (V, T) Q) : E x F d 208 82 [o0, o1, o2, some (.int l3), o4, o5, o6, o7] [] (V, T) Q := by
  refine e_iload_n zd208_82 rfl ?_
  exact e_if_lt zd208_83 (tg := 103) rfl kt kf
theorem b208_86 {x : zXs} {F : zF} (hF : zSh F) {d : Nat} {V : Nat → Nat → Int32} {T : Nat → Nat → Int64} {Q : Option Value → zG → Prop} {l1 : Int32} {o2 : Option Value} {l3 : Int32} {o4 : Option Value} {o5 : Option Value} {l6 : Int32} {o7 : Option Value}  {i1 : Nat} (e1 : l1 = nI i1) (h1 : i1 < 4) (kt : l3 ≤ (((V 79 i1) - ((Int32.ofInt 2) * l6)) - (Int32.ofInt 2)) → E x F d 208 106 [some (.ref 59), some (.int l1), o2, some (.int l3), o4, o5, some (.int l6), o7] [] (V, T) Q) (kf : ¬ (l3 ≤ (((V 79 i1) - ((Int32.ofInt 2) * l6)) - (Int32.ofInt 2))) → E x F d 208 103 [some (.ref 59), some (.int l1), o2, some (.int l3), o4, o5, some (.int l6), o7] [] (V, T) Q) : E x F d 208 86 [some (.ref 59), some (.int l1), o2, some (.int l3), o4, o5, some (.int l6), o7] [] (V, T) Q := by
  refine e_iload_n zd208_86 rfl ?_
  refine e_aload_n zd208_87 rfl rfl ?_
  refine e_getA zd208_88 (own := 8) (ci := 8) (kf := 45) (w := 903) (by decide +kernel) (by decide +kernel) (zsh_at hF rfl).1 (by decide +kernel) rfl (zrf_at hF (i := 78) rfl) ?_
  refine e_iload_n zd208_91 rfl ?_
  refine e_iald zd208_92 (i := i1) (zsh_at hF rfl) e1 h1 (by omega) ?_
  refine e_iconst zd208_93 ?_
  refine e_iload zd208_94 rfl ?_
  refine e_imul zd208_96 ?_
  refine e_isub zd208_97 ?_
  refine e_iconst zd208_98 ?_
  refine e_isub zd208_99 ?_
  exact e_icmp_le zd208_100 (tg := 106) rfl kt kf
theorem b208_103 {x : zXs} {F : zF} (hF : zSh F) {d : Nat} {V : Nat → Nat → Int32} {T : Nat → Nat → Int64} {Q : Option Value → zG → Prop} {o0 : Option Value} {o1 : Option Value} {o2 : Option Value} {o3 : Option Value} {o4 : Option Value} {o5 : Option Value} {o6 : Option Value} {o7 : Option Value}   (k : Q (some (.int (Int32.ofInt (-12)))) (V, T)) : E x F d 208 103 [o0, o1, o2, o3, o4, o5, o6, o7] [] (V, T) Q := by
  refine e_bipush zd208_103 (v := Int32.ofInt (-12)) (by decide +kernel) ?_
  exact e_ireti zd208_105 zs208 k
theorem b208_106 {x : zXs} {F : zF} (hF : zSh F) {d : Nat} {V : Nat → Nat → Int32} {T : Nat → Nat → Int64} {Q : Option Value → zG → Prop} {l1 : Int32} {o2 : Option Value} {l3 : Int32} {o4 : Option Value} {l5 : Int32} {l6 : Int32} {o7 : Option Value}  {i1 : Nat} (e1 : (((Int32.ofInt 40) * l1) + l3) + ((Int32.ofInt 2) * l6) = nI i1) (h1 : i1 < 160) {i2 : Nat} (e2 : ((((Int32.ofInt 40) * l1) + l3) + ((Int32.ofInt 2) * l6)) + (Int32.ofInt 1) = nI i2) (h2 : i2 < 160) (k : E x F d 163 0 [some (.ref 59), some (.int (V 80 i1)), some (.int (V 80 i2))] [] (V, T) (fun r G' => E x F (d + 1) 208 141 [some (.ref 59), some (.int l1), o2, some (.int l3), o4, some (.int l5), some (.int l6), some (.int ((((Int32.ofInt 40) * l1) + l3) + ((Int32.ofInt 2) * l6)))] (r.toList ++ [.int l5]) G' Q)) : E x F (d + 1) 208 106 [some (.ref 59), some (.int l1), o2, some (.int l3), o4, some (.int l5), some (.int l6), o7] [] (V, T) Q := by
  refine e_bipush zd208_106 (v := Int32.ofInt 40) (by decide +kernel) ?_
  refine e_iload_n zd208_108 rfl ?_
  refine e_imul zd208_109 ?_
  refine e_iload_n zd208_110 rfl ?_
  refine e_iadd zd208_111 ?_
  refine e_iconst zd208_112 ?_
  refine e_iload zd208_113 rfl ?_
  refine e_imul zd208_115 ?_
  refine e_iadd zd208_116 ?_
  refine e_istore zd208_117 (by decide +kernel) (Nat.le_of_ble_eq_true rfl) ?_
  refine e_iload zd208_119 rfl ?_
  refine e_aload_n zd208_121 rfl rfl ?_
  refine e_aload_n zd208_122 rfl rfl ?_
  refine e_getA zd208_123 (own := 8) (ci := 8) (kf := 46) (w := 904) (by decide +kernel) (by decide +kernel) (zsh_at hF rfl).1 (by decide +kernel) rfl (zrf_at hF (i := 79) rfl) ?_
  refine e_iload zd208_126 rfl ?_
  refine e_iald zd208_128 (i := i1) (zsh_at hF rfl) e1 h1 (by omega) ?_
  refine e_aload_n zd208_129 rfl rfl ?_
  refine e_getA zd208_130 (own := 8) (ci := 8) (kf := 46) (w := 904) (by decide +kernel) (by decide +kernel) (zsh_at hF rfl).1 (by decide +kernel) rfl (zrf_at hF (i := 79) rfl) ?_
  refine e_iload zd208_133 rfl ?_
  refine e_iconst zd208_135 ?_
  refine e_iadd zd208_136 ?_
  refine e_iald zd208_137 (i := i2) (zsh_at hF rfl) e2 h2 (by omega) ?_
  exact e_callV zd208_138 (own := 8) (nest := false) (w := 1331) (by decide +kernel) (by decide +kernel) zs163 (as := [.int (V 80 i1), .int (V 80 i2)]) (rest := [.int l5]) rfl rfl (zsh_at hF rfl).1 (by omega) (Nat.le_of_ble_eq_true rfl) rfl rfl rfl (by omega) k
theorem b208_141 {x : zXs} {F : zF} (hF : zSh F) {d : Nat} {V : Nat → Nat → Int32} {T : Nat → Nat → Int64} {Q : Option Value → zG → Prop} {o0 : Option Value} {o1 : Option Value} {o2 : Option Value} {o3 : Option Value} {o4 : Option Value} {o5 : Option Value} {o6 : Option Value} {o7 : Option Value} {s0 : Int32} {s1 : Int32}   (kt : s1 < 0 → E x F d 208 148 [o0, o1, o2, o3, o4, o5, o6, o7] [.int s0] (V, T) Q) (kf : ¬ (s1 < 0) → E x F d 208 144 [o0, o1, o2, o3, o4, o5, o6, o7] [.int s0] (V, T) Q) : E x F d 208 141 [o0, o1, o2, o3, o4, o5, o6, o7] [.int s1, .int s0] (V, T) Q := by
  exact e_if_lt zd208_141 (tg := 148) rfl kt kf
theorem b208_144 {x : zXs} {F : zF} (hF : zSh F) {d : Nat} {V : Nat → Nat → Int32} {T : Nat → Nat → Int64} {Q : Option Value → zG → Prop} {o0 : Option Value} {o1 : Option Value} {o2 : Option Value} {o3 : Option Value} {o4 : Option Value} {o5 : Option Value} {o6 : Option Value} {o7 : Option Value} {s0 : Int32}   (k : E x F d 208 149 [o0, o1, o2, o3, o4, o5, o6, o7] [.int (Int32.ofInt 1), .int s0] (V, T) Q) : E x F d 208 144 [o0, o1, o2, o3, o4, o5, o6, o7] [.int s0] (V, T) Q := by
  refine e_iconst zd208_144 ?_
  exact e_goto zd208_145 (tg := 149) rfl k
theorem b208_148 {x : zXs} {F : zF} (hF : zSh F) {d : Nat} {V : Nat → Nat → Int32} {T : Nat → Nat → Int64} {Q : Option Value → zG → Prop} {o0 : Option Value} {o1 : Option Value} {o2 : Option Value} {o3 : Option Value} {o4 : Option Value} {o5 : Option Value} {o6 : Option Value} {o7 : Option Value} {s0 : Int32}   (k : E x F d 208 149 [o0, o1, o2, o3, o4, o5, o6, o7] [.int (Int32.ofInt 0), .int s0] (V, T) Q) : E x F d 208 148 [o0, o1, o2, o3, o4, o5, o6, o7] [.int s0] (V, T) Q := by
  refine e_iconst zd208_148 ?_
  exact k
theorem b208_149 {x : zXs} {F : zF} (hF : zSh F) {d : Nat} {V : Nat → Nat → Int32} {T : Nat → Nat → Int64} {Q : Option Value → zG → Prop} {o0 : Option Value} {o1 : Option Value} {o2 : Option Value} {o3 : Option Value} {o4 : Option Value} {o5 : Option Value} {l6 : Int32} {o7 : Option Value} {s0 : Int32} {s1 : Int32}   (k : E x F d 208 75 [o0, o1, o2, o3, o4, some (.int (s0 + s1)), some (.int (l6 + Int32.ofInt 1)), o7] [] (V, T) Q) : E x F d 208 149 [o0, o1, o2, o3, o4, o5, some (.int l6), o7] [.int s1, .int s0] (V, T) Q := by
  refine e_iadd zd208_149 ?_
  refine e_istore zd208_150 (by decide +kernel) (Nat.le_of_ble_eq_true rfl) ?_
  refine e_iinc zd208_152 rfl (by decide +kernel) ?_
  exact e_goto zd208_155 (tg := 75) rfl k
theorem b208_158 {x : zXs} {F : zF} (hF : zSh F) {d : Nat} {V : Nat → Nat → Int32} {T : Nat → Nat → Int64} {Q : Option Value → zG → Prop} {o0 : Option Value} {o1 : Option Value} {o2 : Option Value} {o3 : Option Value} {o4 : Option Value} {l5 : Int32} {o6 : Option Value} {o7 : Option Value}   (k : Q (some (.int l5)) (V, T)) : E x F d 208 158 [o0, o1, o2, o3, o4, some (.int l5), o6, o7] [] (V, T) Q := by
  refine e_iload zd208_158 rfl ?_
  exact e_ireti zd208_160 zs208 k
theorem zd209_0 : zop 209 0 = some (.iload_n 2, 1) := by decide +kernel
theorem zd209_1 : zop 209 1 = some (.i2l, 1) := by decide +kernel
theorem zd209_2 : zop 209 2 = some (.lconst 0, 1) := by decide +kernel
theorem zd209_3 : zop 209 3 = some (.ldc2_w 132, 3) := by decide +kernel
theorem zd209_6 : zop 209 6 = some (.invokestatic 91, 3) := by decide +kernel
theorem zd209_9 : zop 209 9 = some (.ifCond .ne 6, 3) := by decide +kernel
theorem zd209_12 : zop 209 12 = some (.bipush (-2), 2) := by decide +kernel
theorem zd209_14 : zop 209 14 = some (.ireturn, 1) := by decide +kernel
theorem zd209_15 : zop 209 15 = some (.aload_n 0, 1) := by decide +kernel
theorem zd209_16 : zop 209 16 = some (.iload_n 1, 1) := by decide +kernel
theorem zd209_17 : zop 209 17 = some (.invokevirtual 112, 3) := by decide +kernel
theorem zd209_20 : zop 209 20 = some (.ifCond .ne 6, 3) := by decide +kernel
theorem zd209_23 : zop 209 23 = some (.bipush (-11), 2) := by decide +kernel
theorem zd209_25 : zop 209 25 = some (.ireturn, 1) := by decide +kernel
theorem zd209_26 : zop 209 26 = some (.aload_n 0, 1) := by decide +kernel
theorem zd209_27 : zop 209 27 = some (.getfield 29, 3) := by decide +kernel
theorem zd209_30 : zop 209 30 = some (.iload_n 1, 1) := by decide +kernel
theorem zd209_31 : zop 209 31 = some (.iaload, 1) := by decide +kernel
theorem zd209_32 : zop 209 32 = some (.istore_n 3, 1) := by decide +kernel
theorem zd209_33 : zop 209 33 = some (.iload_n 3, 1) := by decide +kernel
theorem zd209_34 : zop 209 34 = some (.iconst (-1), 1) := by decide +kernel
theorem zd209_35 : zop 209 35 = some (.if_icmp .eq 16, 3) := by decide +kernel
theorem zd209_38 : zop 209 38 = some (.iload_n 3, 1) := by decide +kernel
theorem zd209_39 : zop 209 39 = some (.iload_n 2, 1) := by decide +kernel
theorem zd209_40 : zop 209 40 = some (.if_icmp .eq 11, 3) := by decide +kernel
theorem zd209_43 : zop 209 43 = some (.iload_n 3, 1) := by decide +kernel
theorem zd209_44 : zop 209 44 = some (.invokestatic 368, 3) := by decide +kernel
theorem zd209_47 : zop 209 47 = some (.istore_n 3, 1) := by decide +kernel
theorem zd209_48 : zop 209 48 = some (.goto (-15), 3) := by decide +kernel
theorem zd209_51 : zop 209 51 = some (.iload_n 3, 1) := by decide +kernel
theorem zd209_52 : zop 209 52 = some (.iload_n 2, 1) := by decide +kernel
theorem zd209_53 : zop 209 53 = some (.if_icmp .ne 14, 3) := by decide +kernel
theorem zd209_56 : zop 209 56 = some (.aload_n 0, 1) := by decide +kernel
theorem zd209_57 : zop 209 57 = some (.getfield 32, 3) := by decide +kernel
theorem zd209_60 : zop 209 60 = some (.iconst 2, 1) := by decide +kernel
theorem zd209_61 : zop 209 61 = some (.iload_n 1, 1) := by decide +kernel
theorem zd209_62 : zop 209 62 = some (.imul, 1) := by decide +kernel
theorem zd209_63 : zop 209 63 = some (.iaload, 1) := by decide +kernel
theorem zd209_64 : zop 209 64 = some (.goto 5, 3) := by decide +kernel
theorem zd209_67 : zop 209 67 = some (.bipush (-13), 2) := by decide +kernel
theorem zd209_69 : zop 209 69 = some (.ireturn, 1) := by decide +kernel
theorem b209_0 {x : zXs} {F : zF} (hF : zSh F) {d : Nat} {V : Nat → Nat → Int32} {T : Nat → Nat → Int64} {Q : Option Value → zG → Prop} {o0 : Option Value} {o1 : Option Value} {l2 : Int32} {o3 : Option Value}   (k : E x F d 132 0 [some (.long l2.toInt64), none, some (.long 0), none, some (.long (5 : Int64)), none] [] (V, T) (fun r G' => E x F (d + 1) 209 9 [o0, o1, some (.int l2), o3] (r.toList ++ []) G' Q)) : E x F (d + 1) 209 0 [o0, o1, some (.int l2), o3] [] (V, T) Q := by
  refine e_iload_n zd209_0 rfl ?_
  refine e_i2l zd209_1 ?_
  refine e_lconst zd209_2 (v := 0) rfl ?_
  refine e_ldc2 zd209_3 (own := 8) (w := 1142) (v := 5) (by decide +kernel) (by decide +kernel) ?_
  exact e_callS zd209_6 (own := 8) (nest := false) (w := 1009) (by decide +kernel) (by decide +kernel) zs132 (as := [.long l2.toInt64, .long 0, .long (5 : Int64)]) (rest := []) rfl rfl (Nat.le_of_ble_eq_true rfl) rfl rfl rfl (by omega) k
theorem b209_9 {x : zXs} {F : zF} (hF : zSh F) {d : Nat} {V : Nat → Nat → Int32} {T : Nat → Nat → Int64} {Q : Option Value → zG → Prop} {o0 : Option Value} {o1 : Option Value} {o2 : Option Value} {o3 : Option Value} {s0 : Int32}   (kt : ¬ s0 = 0 → E x F d 209 15 [o0, o1, o2, o3] [] (V, T) Q) (kf : ¬ (¬ s0 = 0) → E x F d 209 12 [o0, o1, o2, o3] [] (V, T) Q) : E x F d 209 9 [o0, o1, o2, o3] [.int s0] (V, T) Q := by
  exact e_if_ne zd209_9 (tg := 15) rfl kt kf
theorem b209_12 {x : zXs} {F : zF} (hF : zSh F) {d : Nat} {V : Nat → Nat → Int32} {T : Nat → Nat → Int64} {Q : Option Value → zG → Prop} {o0 : Option Value} {o1 : Option Value} {o2 : Option Value} {o3 : Option Value}   (k : Q (some (.int (Int32.ofInt (-2)))) (V, T)) : E x F d 209 12 [o0, o1, o2, o3] [] (V, T) Q := by
  refine e_bipush zd209_12 (v := Int32.ofInt (-2)) (by decide +kernel) ?_
  exact e_ireti zd209_14 zs209 k
theorem b209_15 {x : zXs} {F : zF} (hF : zSh F) {d : Nat} {V : Nat → Nat → Int32} {T : Nat → Nat → Int64} {Q : Option Value → zG → Prop} {l1 : Int32} {o2 : Option Value} {o3 : Option Value}   (k : E x F d 136 0 [some (.ref 59), some (.int l1)] [] (V, T) (fun r G' => E x F (d + 1) 209 20 [some (.ref 59), some (.int l1), o2, o3] (r.toList ++ []) G' Q)) : E x F (d + 1) 209 15 [some (.ref 59), some (.int l1), o2, o3] [] (V, T) Q := by
  refine e_aload_n zd209_15 rfl rfl ?_
  refine e_iload_n zd209_16 rfl ?_
  exact e_callV zd209_17 (own := 8) (nest := false) (w := 1025) (by decide +kernel) (by decide +kernel) zs136 (as := [.int l1]) (rest := []) rfl rfl (zsh_at hF rfl).1 (by omega) (Nat.le_of_ble_eq_true rfl) rfl rfl rfl (by omega) k
theorem b209_20 {x : zXs} {F : zF} (hF : zSh F) {d : Nat} {V : Nat → Nat → Int32} {T : Nat → Nat → Int64} {Q : Option Value → zG → Prop} {o0 : Option Value} {o1 : Option Value} {o2 : Option Value} {o3 : Option Value} {s0 : Int32}   (kt : ¬ s0 = 0 → E x F d 209 26 [o0, o1, o2, o3] [] (V, T) Q) (kf : ¬ (¬ s0 = 0) → E x F d 209 23 [o0, o1, o2, o3] [] (V, T) Q) : E x F d 209 20 [o0, o1, o2, o3] [.int s0] (V, T) Q := by
  exact e_if_ne zd209_20 (tg := 26) rfl kt kf
theorem b209_23 {x : zXs} {F : zF} (hF : zSh F) {d : Nat} {V : Nat → Nat → Int32} {T : Nat → Nat → Int64} {Q : Option Value → zG → Prop} {o0 : Option Value} {o1 : Option Value} {o2 : Option Value} {o3 : Option Value}   (k : Q (some (.int (Int32.ofInt (-11)))) (V, T)) : E x F d 209 23 [o0, o1, o2, o3] [] (V, T) Q := by
  refine e_bipush zd209_23 (v := Int32.ofInt (-11)) (by decide +kernel) ?_
  exact e_ireti zd209_25 zs209 k
theorem b209_26 {x : zXs} {F : zF} (hF : zSh F) {d : Nat} {V : Nat → Nat → Int32} {T : Nat → Nat → Int64} {Q : Option Value → zG → Prop} {l1 : Int32} {o2 : Option Value} {o3 : Option Value}  {i1 : Nat} (e1 : l1 = nI i1) (h1 : i1 < 5) (k : E x F d 209 33 [some (.ref 59), some (.int l1), o2, some (.int (V 65 i1))] [] (V, T) Q) : E x F d 209 26 [some (.ref 59), some (.int l1), o2, o3] [] (V, T) Q := by
  refine e_aload_n zd209_26 rfl rfl ?_
  refine e_getA zd209_27 (own := 8) (ci := 8) (kf := 10) (w := 868) (by decide +kernel) (by decide +kernel) (zsh_at hF rfl).1 (by decide +kernel) rfl (zrf_at hF (i := 64) rfl) ?_
  refine e_iload_n zd209_30 rfl ?_
  refine e_iald zd209_31 (i := i1) (zsh_at hF rfl) e1 h1 (by omega) ?_
  refine e_istore_n zd209_32 (by decide +kernel) (Nat.le_of_ble_eq_true rfl) ?_
  exact k
theorem b209_33 {x : zXs} {F : zF} (hF : zSh F) {d : Nat} {V : Nat → Nat → Int32} {T : Nat → Nat → Int64} {Q : Option Value → zG → Prop} {o0 : Option Value} {o1 : Option Value} {o2 : Option Value} {l3 : Int32}   (kt : l3 = (Int32.ofInt (-1)) → E x F d 209 51 [o0, o1, o2, some (.int l3)] [] (V, T) Q) (kf : ¬ (l3 = (Int32.ofInt (-1))) → E x F d 209 38 [o0, o1, o2, some (.int l3)] [] (V, T) Q) : E x F d 209 33 [o0, o1, o2, some (.int l3)] [] (V, T) Q := by
  refine e_iload_n zd209_33 rfl ?_
  refine e_iconst zd209_34 ?_
  exact e_icmp_eq zd209_35 (tg := 51) rfl kt kf
theorem b209_38 {x : zXs} {F : zF} (hF : zSh F) {d : Nat} {V : Nat → Nat → Int32} {T : Nat → Nat → Int64} {Q : Option Value → zG → Prop} {o0 : Option Value} {o1 : Option Value} {l2 : Int32} {l3 : Int32}   (kt : l3 = l2 → E x F d 209 51 [o0, o1, some (.int l2), some (.int l3)] [] (V, T) Q) (kf : ¬ (l3 = l2) → E x F d 209 43 [o0, o1, some (.int l2), some (.int l3)] [] (V, T) Q) : E x F d 209 38 [o0, o1, some (.int l2), some (.int l3)] [] (V, T) Q := by
  refine e_iload_n zd209_38 rfl ?_
  refine e_iload_n zd209_39 rfl ?_
  exact e_icmp_eq zd209_40 (tg := 51) rfl kt kf
theorem b209_43 {x : zXs} {F : zF} (hF : zSh F) {d : Nat} {V : Nat → Nat → Int32} {T : Nat → Nat → Int64} {Q : Option Value → zG → Prop} {o0 : Option Value} {o1 : Option Value} {o2 : Option Value} {l3 : Int32}   (k : E x F d 210 0 [some (.int l3)] [] (V, T) (fun r G' => E x F (d + 1) 209 47 [o0, o1, o2, some (.int l3)] (r.toList ++ []) G' Q)) : E x F (d + 1) 209 43 [o0, o1, o2, some (.int l3)] [] (V, T) Q := by
  refine e_iload_n zd209_43 rfl ?_
  exact e_callS zd209_44 (own := 8) (nest := false) (w := 1336) (by decide +kernel) (by decide +kernel) zs210 (as := [.int l3]) (rest := []) rfl rfl (Nat.le_of_ble_eq_true rfl) rfl rfl rfl (by omega) k
theorem b209_47 {x : zXs} {F : zF} (hF : zSh F) {d : Nat} {V : Nat → Nat → Int32} {T : Nat → Nat → Int64} {Q : Option Value → zG → Prop} {o0 : Option Value} {o1 : Option Value} {o2 : Option Value} {o3 : Option Value} {s0 : Int32}   (k : E x F d 209 33 [o0, o1, o2, some (.int s0)] [] (V, T) Q) : E x F d 209 47 [o0, o1, o2, o3] [.int s0] (V, T) Q := by
  refine e_istore_n zd209_47 (by decide +kernel) (Nat.le_of_ble_eq_true rfl) ?_
  exact e_goto zd209_48 (tg := 33) rfl k
theorem b209_51 {x : zXs} {F : zF} (hF : zSh F) {d : Nat} {V : Nat → Nat → Int32} {T : Nat → Nat → Int64} {Q : Option Value → zG → Prop} {o0 : Option Value} {o1 : Option Value} {l2 : Int32} {l3 : Int32}   (kt : ¬ l3 = l2 → E x F d 209 67 [o0, o1, some (.int l2), some (.int l3)] [] (V, T) Q) (kf : ¬ (¬ l3 = l2) → E x F d 209 56 [o0, o1, some (.int l2), some (.int l3)] [] (V, T) Q) : E x F d 209 51 [o0, o1, some (.int l2), some (.int l3)] [] (V, T) Q := by
  refine e_iload_n zd209_51 rfl ?_
  refine e_iload_n zd209_52 rfl ?_
  exact e_icmp_ne zd209_53 (tg := 67) rfl kt kf
theorem b209_56 {x : zXs} {F : zF} (hF : zSh F) {d : Nat} {V : Nat → Nat → Int32} {T : Nat → Nat → Int64} {Q : Option Value → zG → Prop} {l1 : Int32} {o2 : Option Value} {o3 : Option Value}  {i1 : Nat} (e1 : (Int32.ofInt 2) * l1 = nI i1) (h1 : i1 < 10) (k : E x F d 209 69 [some (.ref 59), some (.int l1), o2, o3] [.int (V 66 i1)] (V, T) Q) : E x F d 209 56 [some (.ref 59), some (.int l1), o2, o3] [] (V, T) Q := by
  refine e_aload_n zd209_56 rfl rfl ?_
  refine e_getA zd209_57 (own := 8) (ci := 8) (kf := 11) (w := 869) (by decide +kernel) (by decide +kernel) (zsh_at hF rfl).1 (by decide +kernel) rfl (zrf_at hF (i := 65) rfl) ?_
  refine e_iconst zd209_60 ?_
  refine e_iload_n zd209_61 rfl ?_
  refine e_imul zd209_62 ?_
  refine e_iald zd209_63 (i := i1) (zsh_at hF rfl) e1 h1 (by omega) ?_
  exact e_goto zd209_64 (tg := 69) rfl k
theorem b209_67 {x : zXs} {F : zF} (hF : zSh F) {d : Nat} {V : Nat → Nat → Int32} {T : Nat → Nat → Int64} {Q : Option Value → zG → Prop} {o0 : Option Value} {o1 : Option Value} {o2 : Option Value} {o3 : Option Value}   (k : E x F d 209 69 [o0, o1, o2, o3] [.int (Int32.ofInt (-13))] (V, T) Q) : E x F d 209 67 [o0, o1, o2, o3] [] (V, T) Q := by
  refine e_bipush zd209_67 (v := Int32.ofInt (-13)) (by decide +kernel) ?_
  exact k
theorem b209_69 {x : zXs} {F : zF} (hF : zSh F) {d : Nat} {V : Nat → Nat → Int32} {T : Nat → Nat → Int64} {Q : Option Value → zG → Prop} {o0 : Option Value} {o1 : Option Value} {o2 : Option Value} {o3 : Option Value} {s0 : Int32}   (k : Q (some (.int s0)) (V, T)) : E x F d 209 69 [o0, o1, o2, o3] [.int s0] (V, T) Q := by
  exact e_ireti zd209_69 zs209 k
theorem zd210_0 : zop 210 0 = some (.iload_n 0, 1) := by decide +kernel
theorem zd210_1 : zop 210 1 = some (.ifCond .ne 7, 3) := by decide +kernel
theorem zd210_4 : zop 210 4 = some (.iconst (-1), 1) := by decide +kernel
theorem zd210_5 : zop 210 5 = some (.goto 22, 3) := by decide +kernel
theorem zd210_8 : zop 210 8 = some (.iload_n 0, 1) := by decide +kernel
theorem zd210_9 : zop 210 9 = some (.iconst 3, 1) := by decide +kernel
theorem zd210_10 : zop 210 10 = some (.if_icmp .ne 7, 3) := by decide +kernel
theorem zd210_13 : zop 210 13 = some (.iconst 1, 1) := by decide +kernel
theorem zd210_14 : zop 210 14 = some (.goto 13, 3) := by decide +kernel
theorem zd210_17 : zop 210 17 = some (.iload_n 0, 1) := by decide +kernel
theorem zd210_18 : zop 210 18 = some (.iconst 4, 1) := by decide +kernel
theorem zd210_19 : zop 210 19 = some (.if_icmp .ne 7, 3) := by decide +kernel
theorem zd210_22 : zop 210 22 = some (.iconst 2, 1) := by decide +kernel
theorem zd210_23 : zop 210 23 = some (.goto 4, 3) := by decide +kernel
theorem zd210_26 : zop 210 26 = some (.iconst 0, 1) := by decide +kernel
theorem zd210_27 : zop 210 27 = some (.ireturn, 1) := by decide +kernel
theorem b210_0 {x : zXs} {F : zF} (hF : zSh F) {d : Nat} {V : Nat → Nat → Int32} {T : Nat → Nat → Int64} {Q : Option Value → zG → Prop} {l0 : Int32}   (kt : ¬ l0 = 0 → E x F d 210 8 [some (.int l0)] [] (V, T) Q) (kf : ¬ (¬ l0 = 0) → E x F d 210 4 [some (.int l0)] [] (V, T) Q) : E x F d 210 0 [some (.int l0)] [] (V, T) Q := by
  refine e_iload_n zd210_0 rfl ?_
  exact e_if_ne zd210_1 (tg := 8) rfl kt kf
theorem b210_4 {x : zXs} {F : zF} (hF : zSh F) {d : Nat} {V : Nat → Nat → Int32} {T : Nat → Nat → Int64} {Q : Option Value → zG → Prop} {o0 : Option Value}   (k : E x F d 210 27 [o0] [.int (Int32.ofInt (-1))] (V, T) Q) : E x F d 210 4 [o0] [] (V, T) Q := by
  refine e_iconst zd210_4 ?_
  exact e_goto zd210_5 (tg := 27) rfl k
theorem b210_8 {x : zXs} {F : zF} (hF : zSh F) {d : Nat} {V : Nat → Nat → Int32} {T : Nat → Nat → Int64} {Q : Option Value → zG → Prop} {l0 : Int32}   (kt : ¬ l0 = (Int32.ofInt 3) → E x F d 210 17 [some (.int l0)] [] (V, T) Q) (kf : ¬ (¬ l0 = (Int32.ofInt 3)) → E x F d 210 13 [some (.int l0)] [] (V, T) Q) : E x F d 210 8 [some (.int l0)] [] (V, T) Q := by
  refine e_iload_n zd210_8 rfl ?_
  refine e_iconst zd210_9 ?_
  exact e_icmp_ne zd210_10 (tg := 17) rfl kt kf
theorem b210_13 {x : zXs} {F : zF} (hF : zSh F) {d : Nat} {V : Nat → Nat → Int32} {T : Nat → Nat → Int64} {Q : Option Value → zG → Prop} {o0 : Option Value}   (k : E x F d 210 27 [o0] [.int (Int32.ofInt 1)] (V, T) Q) : E x F d 210 13 [o0] [] (V, T) Q := by
  refine e_iconst zd210_13 ?_
  exact e_goto zd210_14 (tg := 27) rfl k
theorem b210_17 {x : zXs} {F : zF} (hF : zSh F) {d : Nat} {V : Nat → Nat → Int32} {T : Nat → Nat → Int64} {Q : Option Value → zG → Prop} {l0 : Int32}   (kt : ¬ l0 = (Int32.ofInt 4) → E x F d 210 26 [some (.int l0)] [] (V, T) Q) (kf : ¬ (¬ l0 = (Int32.ofInt 4)) → E x F d 210 22 [some (.int l0)] [] (V, T) Q) : E x F d 210 17 [some (.int l0)] [] (V, T) Q := by
  refine e_iload_n zd210_17 rfl ?_
  refine e_iconst zd210_18 ?_
  exact e_icmp_ne zd210_19 (tg := 26) rfl kt kf
theorem b210_22 {x : zXs} {F : zF} (hF : zSh F) {d : Nat} {V : Nat → Nat → Int32} {T : Nat → Nat → Int64} {Q : Option Value → zG → Prop} {o0 : Option Value}   (k : E x F d 210 27 [o0] [.int (Int32.ofInt 2)] (V, T) Q) : E x F d 210 22 [o0] [] (V, T) Q := by
  refine e_iconst zd210_22 ?_
  exact e_goto zd210_23 (tg := 27) rfl k
theorem b210_26 {x : zXs} {F : zF} (hF : zSh F) {d : Nat} {V : Nat → Nat → Int32} {T : Nat → Nat → Int64} {Q : Option Value → zG → Prop} {o0 : Option Value}   (k : E x F d 210 27 [o0] [.int (Int32.ofInt 0)] (V, T) Q) : E x F d 210 26 [o0] [] (V, T) Q := by
  refine e_iconst zd210_26 ?_
  exact k
theorem b210_27 {x : zXs} {F : zF} (hF : zSh F) {d : Nat} {V : Nat → Nat → Int32} {T : Nat → Nat → Int64} {Q : Option Value → zG → Prop} {o0 : Option Value} {s0 : Int32}   (k : Q (some (.int s0)) (V, T)) : E x F d 210 27 [o0] [.int s0] (V, T) Q := by
  exact e_ireti zd210_27 zs210 k
