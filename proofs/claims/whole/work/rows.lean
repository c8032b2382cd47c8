section
-- ===== PART A: goes FIRST, ahead of the names: the tables' words, and 'selects' of the private methods out of them =====
/-- a private method of a class that the tables say can be made, by its rows of tables_1 -/
def lw_okq (q : MethodName × Nat) : Prop := (q.1.cls ≠ "java/lang/invoke/MethodHandle" ∧ q.1.cls ≠ "java/lang/invoke/VarHandle") ∧ Cond.instantiable q.1.cls q.2 ∈ tables_1 ∧ Cond.privateMethod q.1 ∈ tables_1 ∧ Cond.instanceMethod q.1 ∈ tables_1
theorem lw_p0 : lw_okq (⟨"GleanersForGaps$State", "gapBits", "(I)I"⟩, 8) := ⟨⟨by decide +kernel, by decide +kernel⟩, List.mem_of_getElem? (i := 27) (by decide +kernel), List.mem_of_getElem? (i := 262) (by decide +kernel), List.mem_of_getElem? (i := 263) (by decide +kernel)⟩
theorem lw_p1 : lw_okq (⟨"GleanersForGaps", "nightBecomes", "(I)I"⟩, 9) := ⟨⟨by decide +kernel, by decide +kernel⟩, List.mem_of_getElem? (i := 19) (by decide +kernel), List.mem_of_getElem? (i := 276) (by decide +kernel), List.mem_of_getElem? (i := 277) (by decide +kernel)⟩
theorem lw_p2 : lw_okq (⟨"GleanersForGaps", "becomes", "([III)I"⟩, 9) := ⟨⟨by decide +kernel, by decide +kernel⟩, List.mem_of_getElem? (i := 19) (by decide +kernel), List.mem_of_getElem? (i := 280) (by decide +kernel), List.mem_of_getElem? (i := 281) (by decide +kernel)⟩
theorem lw_p3 : lw_okq (⟨"GleanersForGaps", "toldOfGleaner", "(II)I"⟩, 9) := ⟨⟨by decide +kernel, by decide +kernel⟩, List.mem_of_getElem? (i := 19) (by decide +kernel), List.mem_of_getElem? (i := 300) (by decide +kernel), List.mem_of_getElem? (i := 301) (by decide +kernel)⟩
theorem lw_p4 : lw_okq (⟨"GleanersForGaps$Rule", "namesGleaner", "(LGleanersForGaps$State;I)V"⟩, 4) := ⟨⟨by decide +kernel, by decide +kernel⟩, List.mem_of_getElem? (i := 84) (by decide +kernel), List.mem_of_getElem? (i := 312) (by decide +kernel), List.mem_of_getElem? (i := 313) (by decide +kernel)⟩
theorem lw_p5 : lw_okq (⟨"GleanersForGaps$Rule", "worth", "(II)I"⟩, 4) := ⟨⟨by decide +kernel, by decide +kernel⟩, List.mem_of_getElem? (i := 84) (by decide +kernel), List.mem_of_getElem? (i := 316) (by decide +kernel), List.mem_of_getElem? (i := 317) (by decide +kernel)⟩
theorem lw_p6 : lw_okq (⟨"GleanersForGaps", "toldOfRow", "(II)I"⟩, 9) := ⟨⟨by decide +kernel, by decide +kernel⟩, List.mem_of_getElem? (i := 19) (by decide +kernel), List.mem_of_getElem? (i := 330) (by decide +kernel), List.mem_of_getElem? (i := 331) (by decide +kernel)⟩
theorem lw_p7 : lw_okq (⟨"GleanersForGaps$Tape", "advance", "()V"⟩, 9) := ⟨⟨by decide +kernel, by decide +kernel⟩, List.mem_of_getElem? (i := 162) (by decide +kernel), List.mem_of_getElem? (i := 395) (by decide +kernel), List.mem_of_getElem? (i := 396) (by decide +kernel)⟩
theorem lw_p8 : lw_okq (⟨"GleanersForGaps$Tape", "readWord", "()V"⟩, 9) := ⟨⟨by decide +kernel, by decide +kernel⟩, List.mem_of_getElem? (i := 162) (by decide +kernel), List.mem_of_getElem? (i := 402) (by decide +kernel), List.mem_of_getElem? (i := 403) (by decide +kernel)⟩
theorem lw_p9 : lw_okq (⟨"GleanersForGaps$Tape", "stands", "(Ljava/lang/String;)Z"⟩, 9) := ⟨⟨by decide +kernel, by decide +kernel⟩, List.mem_of_getElem? (i := 162) (by decide +kernel), List.mem_of_getElem? (i := 421) (by decide +kernel), List.mem_of_getElem? (i := 422) (by decide +kernel)⟩
theorem lw_p10 : lw_okq (⟨"GleanersForGaps$Tape", "readNumber", "()V"⟩, 9) := ⟨⟨by decide +kernel, by decide +kernel⟩, List.mem_of_getElem? (i := 162) (by decide +kernel), List.mem_of_getElem? (i := 476) (by decide +kernel), List.mem_of_getElem? (i := 477) (by decide +kernel)⟩
theorem lw_p11 : lw_okq (⟨"GleanersForGaps$Tape", "expect", "(I)V"⟩, 9) := ⟨⟨by decide +kernel, by decide +kernel⟩, List.mem_of_getElem? (i := 162) (by decide +kernel), List.mem_of_getElem? (i := 483) (by decide +kernel), List.mem_of_getElem? (i := 484) (by decide +kernel)⟩
theorem lw_p12 : lw_okq (⟨"GleanersForGaps$Tape", "fail", "()V"⟩, 9) := ⟨⟨by decide +kernel, by decide +kernel⟩, List.mem_of_getElem? (i := 162) (by decide +kernel), List.mem_of_getElem? (i := 487) (by decide +kernel), List.mem_of_getElem? (i := 488) (by decide +kernel)⟩
theorem lw_p13 : lw_okq (⟨"GleanersForGaps$Tape", "readEither", "()V"⟩, 9) := ⟨⟨by decide +kernel, by decide +kernel⟩, List.mem_of_getElem? (i := 162) (by decide +kernel), List.mem_of_getElem? (i := 491) (by decide +kernel), List.mem_of_getElem? (i := 492) (by decide +kernel)⟩
theorem lw_p14 : lw_okq (⟨"GleanersForGaps$Tape", "readBoth", "()V"⟩, 9) := ⟨⟨by decide +kernel, by decide +kernel⟩, List.mem_of_getElem? (i := 162) (by decide +kernel), List.mem_of_getElem? (i := 495) (by decide +kernel), List.mem_of_getElem? (i := 496) (by decide +kernel)⟩
theorem lw_p15 : lw_okq (⟨"GleanersForGaps$Tape", "readDenied", "()V"⟩, 9) := ⟨⟨by decide +kernel, by decide +kernel⟩, List.mem_of_getElem? (i := 162) (by decide +kernel), List.mem_of_getElem? (i := 499) (by decide +kernel), List.mem_of_getElem? (i := 500) (by decide +kernel)⟩
def lw_privs_1 : List (MethodName × Nat) := [(⟨"GleanersForGaps$State", "gapBits", "(I)I"⟩, 8), (⟨"GleanersForGaps", "nightBecomes", "(I)I"⟩, 9), (⟨"GleanersForGaps", "becomes", "([III)I"⟩, 9), (⟨"GleanersForGaps", "toldOfGleaner", "(II)I"⟩, 9), (⟨"GleanersForGaps$Rule", "namesGleaner", "(LGleanersForGaps$State;I)V"⟩, 4), (⟨"GleanersForGaps$Rule", "worth", "(II)I"⟩, 4), (⟨"GleanersForGaps", "toldOfRow", "(II)I"⟩, 9), (⟨"GleanersForGaps$Tape", "advance", "()V"⟩, 9), (⟨"GleanersForGaps$Tape", "readWord", "()V"⟩, 9), (⟨"GleanersForGaps$Tape", "stands", "(Ljava/lang/String;)Z"⟩, 9), (⟨"GleanersForGaps$Tape", "readNumber", "()V"⟩, 9), (⟨"GleanersForGaps$Tape", "expect", "(I)V"⟩, 9), (⟨"GleanersForGaps$Tape", "fail", "()V"⟩, 9), (⟨"GleanersForGaps$Tape", "readEither", "()V"⟩, 9), (⟨"GleanersForGaps$Tape", "readBoth", "()V"⟩, 9), (⟨"GleanersForGaps$Tape", "readDenied", "()V"⟩, 9)]
theorem lw_r1 : ∀ q ∈ lw_privs_1, lw_okq q := List.forall_mem_cons.mpr ⟨lw_p0, List.forall_mem_cons.mpr ⟨lw_p1, List.forall_mem_cons.mpr ⟨lw_p2, List.forall_mem_cons.mpr ⟨lw_p3, List.forall_mem_cons.mpr ⟨lw_p4, List.forall_mem_cons.mpr ⟨lw_p5, List.forall_mem_cons.mpr ⟨lw_p6, List.forall_mem_cons.mpr ⟨lw_p7, List.forall_mem_cons.mpr ⟨lw_p8, List.forall_mem_cons.mpr ⟨lw_p9, List.forall_mem_cons.mpr ⟨lw_p10, List.forall_mem_cons.mpr ⟨lw_p11, List.forall_mem_cons.mpr ⟨lw_p12, List.forall_mem_cons.mpr ⟨lw_p13, List.forall_mem_cons.mpr ⟨lw_p14, List.forall_mem_cons.mpr ⟨lw_p15, fun _ h => absurd h List.not_mem_nil⟩⟩⟩⟩⟩⟩⟩⟩⟩⟩⟩⟩⟩⟩⟩⟩
theorem lw_p16 : lw_okq (⟨"GleanersForGaps$Tape", "opens", "()Z"⟩, 9) := ⟨⟨by decide +kernel, by decide +kernel⟩, List.mem_of_getElem? (i := 162) (by decide +kernel), List.mem_of_getElem? (i := 503) (by decide +kernel), List.mem_of_getElem? (i := 504) (by decide +kernel)⟩
theorem lw_p17 : lw_okq (⟨"GleanersForGaps$Tape", "readSum", "()V"⟩, 9) := ⟨⟨by decide +kernel, by decide +kernel⟩, List.mem_of_getElem? (i := 162) (by decide +kernel), List.mem_of_getElem? (i := 508) (by decide +kernel), List.mem_of_getElem? (i := 509) (by decide +kernel)⟩
theorem lw_p18 : lw_okq (⟨"GleanersForGaps$Tape", "readTerm", "()V"⟩, 9) := ⟨⟨by decide +kernel, by decide +kernel⟩, List.mem_of_getElem? (i := 162) (by decide +kernel), List.mem_of_getElem? (i := 512) (by decide +kernel), List.mem_of_getElem? (i := 513) (by decide +kernel)⟩
theorem lw_p19 : lw_okq (⟨"GleanersForGaps$Tape", "readOne", "()V"⟩, 9) := ⟨⟨by decide +kernel, by decide +kernel⟩, List.mem_of_getElem? (i := 162) (by decide +kernel), List.mem_of_getElem? (i := 516) (by decide +kernel), List.mem_of_getElem? (i := 517) (by decide +kernel)⟩
theorem lw_p20 : lw_okq (⟨"GleanersForGaps$Gleaning", "noteTaken", "(LGleanersForGaps$State;III)V"⟩, 3) := ⟨⟨by decide +kernel, by decide +kernel⟩, List.mem_of_getElem? (i := 78) (by decide +kernel), List.mem_of_getElem? (i := 548) (by decide +kernel), List.mem_of_getElem? (i := 549) (by decide +kernel)⟩
theorem lw_p21 : lw_okq (⟨"GleanersForGaps", "dayAndNight", "(I)V"⟩, 9) := ⟨⟨by decide +kernel, by decide +kernel⟩, List.mem_of_getElem? (i := 19) (by decide +kernel), List.mem_of_getElem? (i := 598) (by decide +kernel), List.mem_of_getElem? (i := 599) (by decide +kernel)⟩
theorem lw_p22 : lw_okq (⟨"GleanersForGaps$Order", "swap", "(II)V"⟩, 2) := ⟨⟨by decide +kernel, by decide +kernel⟩, List.mem_of_getElem? (i := 147) (by decide +kernel), List.mem_of_getElem? (i := 618) (by decide +kernel), List.mem_of_getElem? (i := 619) (by decide +kernel)⟩
theorem lw_p23 : lw_okq (⟨"GleanersForGaps", "leastLeft", "(IZ)I"⟩, 9) := ⟨⟨by decide +kernel, by decide +kernel⟩, List.mem_of_getElem? (i := 19) (by decide +kernel), List.mem_of_getElem? (i := 626) (by decide +kernel), List.mem_of_getElem? (i := 627) (by decide +kernel)⟩
theorem lw_p24 : lw_okq (⟨"GleanersForGaps", "alone", "(IZ)I"⟩, 9) := ⟨⟨by decide +kernel, by decide +kernel⟩, List.mem_of_getElem? (i := 19) (by decide +kernel), List.mem_of_getElem? (i := 630) (by decide +kernel), List.mem_of_getElem? (i := 631) (by decide +kernel)⟩
theorem lw_p25 : lw_okq (⟨"GleanersForGaps", "bare", "(I)I"⟩, 9) := ⟨⟨by decide +kernel, by decide +kernel⟩, List.mem_of_getElem? (i := 19) (by decide +kernel), List.mem_of_getElem? (i := 634) (by decide +kernel), List.mem_of_getElem? (i := 635) (by decide +kernel)⟩
theorem lw_p26 : lw_okq (⟨"GleanersForGaps", "isSheet", "(I)Z"⟩, 9) := ⟨⟨by decide +kernel, by decide +kernel⟩, List.mem_of_getElem? (i := 19) (by decide +kernel), List.mem_of_getElem? (i := 661) (by decide +kernel), List.mem_of_getElem? (i := 662) (by decide +kernel)⟩
theorem lw_p27 : lw_okq (⟨"GleanersForGaps", "firstOtherwise", "(LGleanersForGaps$Sheet;II)I"⟩, 9) := ⟨⟨by decide +kernel, by decide +kernel⟩, List.mem_of_getElem? (i := 19) (by decide +kernel), List.mem_of_getElem? (i := 669) (by decide +kernel), List.mem_of_getElem? (i := 670) (by decide +kernel)⟩
theorem lw_p28 : lw_okq (⟨"GleanersForGaps", "kindsSo", "(LGleanersForGaps$Sheet;II)I"⟩, 9) := ⟨⟨by decide +kernel, by decide +kernel⟩, List.mem_of_getElem? (i := 19) (by decide +kernel), List.mem_of_getElem? (i := 673) (by decide +kernel), List.mem_of_getElem? (i := 674) (by decide +kernel)⟩
theorem lw_p29 : lw_okq (⟨"GleanersForGaps", "numbersSo", "(LGleanersForGaps$Sheet;II)I"⟩, 9) := ⟨⟨by decide +kernel, by decide +kernel⟩, List.mem_of_getElem? (i := 19) (by decide +kernel), List.mem_of_getElem? (i := 680) (by decide +kernel), List.mem_of_getElem? (i := 681) (by decide +kernel)⟩
theorem lw_p30 : lw_okq (⟨"GleanersForGaps", "apronsSo", "(LGleanersForGaps$Sheet;IIZ)I"⟩, 9) := ⟨⟨by decide +kernel, by decide +kernel⟩, List.mem_of_getElem? (i := 19) (by decide +kernel), List.mem_of_getElem? (i := 684) (by decide +kernel), List.mem_of_getElem? (i := 685) (by decide +kernel)⟩
theorem lw_p31 : lw_okq (⟨"GleanersForGaps", "textsSo", "(LGleanersForGaps$Sheet;II)I"⟩, 9) := ⟨⟨by decide +kernel, by decide +kernel⟩, List.mem_of_getElem? (i := 19) (by decide +kernel), List.mem_of_getElem? (i := 688) (by decide +kernel), List.mem_of_getElem? (i := 689) (by decide +kernel)⟩
def lw_privs_2 : List (MethodName × Nat) := [(⟨"GleanersForGaps$Tape", "opens", "()Z"⟩, 9), (⟨"GleanersForGaps$Tape", "readSum", "()V"⟩, 9), (⟨"GleanersForGaps$Tape", "readTerm", "()V"⟩, 9), (⟨"GleanersForGaps$Tape", "readOne", "()V"⟩, 9), (⟨"GleanersForGaps$Gleaning", "noteTaken", "(LGleanersForGaps$State;III)V"⟩, 3), (⟨"GleanersForGaps", "dayAndNight", "(I)V"⟩, 9), (⟨"GleanersForGaps$Order", "swap", "(II)V"⟩, 2), (⟨"GleanersForGaps", "leastLeft", "(IZ)I"⟩, 9), (⟨"GleanersForGaps", "alone", "(IZ)I"⟩, 9), (⟨"GleanersForGaps", "bare", "(I)I"⟩, 9), (⟨"GleanersForGaps", "isSheet", "(I)Z"⟩, 9), (⟨"GleanersForGaps", "firstOtherwise", "(LGleanersForGaps$Sheet;II)I"⟩, 9), (⟨"GleanersForGaps", "kindsSo", "(LGleanersForGaps$Sheet;II)I"⟩, 9), (⟨"GleanersForGaps", "numbersSo", "(LGleanersForGaps$Sheet;II)I"⟩, 9), (⟨"GleanersForGaps", "apronsSo", "(LGleanersForGaps$Sheet;IIZ)I"⟩, 9), (⟨"GleanersForGaps", "textsSo", "(LGleanersForGaps$Sheet;II)I"⟩, 9)]
theorem lw_r2 : ∀ q ∈ lw_privs_2, lw_okq q := List.forall_mem_cons.mpr ⟨lw_p16, List.forall_mem_cons.mpr ⟨lw_p17, List.forall_mem_cons.mpr ⟨lw_p18, List.forall_mem_cons.mpr ⟨lw_p19, List.forall_mem_cons.mpr ⟨lw_p20, List.forall_mem_cons.mpr ⟨lw_p21, List.forall_mem_cons.mpr ⟨lw_p22, List.forall_mem_cons.mpr ⟨lw_p23, List.forall_mem_cons.mpr ⟨lw_p24, List.forall_mem_cons.mpr ⟨lw_p25, List.forall_mem_cons.mpr ⟨lw_p26, List.forall_mem_cons.mpr ⟨lw_p27, List.forall_mem_cons.mpr ⟨lw_p28, List.forall_mem_cons.mpr ⟨lw_p29, List.forall_mem_cons.mpr ⟨lw_p30, List.forall_mem_cons.mpr ⟨lw_p31, fun _ h => absurd h List.not_mem_nil⟩⟩⟩⟩⟩⟩⟩⟩⟩⟩⟩⟩⟩⟩⟩⟩
theorem lw_p32 : lw_okq (⟨"GleanersForGaps", "gleanersSo", "(LGleanersForGaps$Sheet;I)I"⟩, 9) := ⟨⟨by decide +kernel, by decide +kernel⟩, List.mem_of_getElem? (i := 19) (by decide +kernel), List.mem_of_getElem? (i := 692) (by decide +kernel), List.mem_of_getElem? (i := 693) (by decide +kernel)⟩
theorem lw_p33 : lw_okq (⟨"GleanersForGaps", "rowsSo", "(LGleanersForGaps$Sheet;I)I"⟩, 9) := ⟨⟨by decide +kernel, by decide +kernel⟩, List.mem_of_getElem? (i := 19) (by decide +kernel), List.mem_of_getElem? (i := 696) (by decide +kernel), List.mem_of_getElem? (i := 697) (by decide +kernel)⟩
theorem lw_p34 : lw_okq (⟨"GleanersForGaps", "takenOfDrawn", "(II)I"⟩, 9) := ⟨⟨by decide +kernel, by decide +kernel⟩, List.mem_of_getElem? (i := 19) (by decide +kernel), List.mem_of_getElem? (i := 724) (by decide +kernel), List.mem_of_getElem? (i := 725) (by decide +kernel)⟩
theorem lw_p35 : lw_okq (⟨"GleanersForGapsModel", "spell", "(IIIIIIIII)V"⟩, 47) := ⟨⟨by decide +kernel, by decide +kernel⟩, List.mem_of_getElem? (i := 772) (by decide +kernel), List.mem_of_getElem? (i := 778) (by decide +kernel), List.mem_of_getElem? (i := 779) (by decide +kernel)⟩
theorem lw_p36 : lw_okq (⟨"GleanersForGapsModel", "leftOf", "(I)I"⟩, 47) := ⟨⟨by decide +kernel, by decide +kernel⟩, List.mem_of_getElem? (i := 772) (by decide +kernel), List.mem_of_getElem? (i := 936) (by decide +kernel), List.mem_of_getElem? (i := 937) (by decide +kernel)⟩
theorem lw_p37 : lw_okq (⟨"GleanersForGapsModel", "isOne", "(I)Z"⟩, 47) := ⟨⟨by decide +kernel, by decide +kernel⟩, List.mem_of_getElem? (i := 772) (by decide +kernel), List.mem_of_getElem? (i := 948) (by decide +kernel), List.mem_of_getElem? (i := 949) (by decide +kernel)⟩
theorem lw_p38 : lw_okq (⟨"GleanersForGapsModel", "keepsOf", "(I)I"⟩, 47) := ⟨⟨by decide +kernel, by decide +kernel⟩, List.mem_of_getElem? (i := 772) (by decide +kernel), List.mem_of_getElem? (i := 960) (by decide +kernel), List.mem_of_getElem? (i := 961) (by decide +kernel)⟩
theorem lw_p39 : lw_okq (⟨"GleanersForGapsModel", "says", "(IIIIII)I"⟩, 47) := ⟨⟨by decide +kernel, by decide +kernel⟩, List.mem_of_getElem? (i := 772) (by decide +kernel), List.mem_of_getElem? (i := 964) (by decide +kernel), List.mem_of_getElem? (i := 965) (by decide +kernel)⟩
theorem lw_p40 : lw_okq (⟨"GleanersForGapsModel", "read", "(II)I"⟩, 47) := ⟨⟨by decide +kernel, by decide +kernel⟩, List.mem_of_getElem? (i := 772) (by decide +kernel), List.mem_of_getElem? (i := 968) (by decide +kernel), List.mem_of_getElem? (i := 969) (by decide +kernel)⟩
theorem lw_p41 : lw_okq (⟨"GleanersForGapsModel", "next", "()V"⟩, 47) := ⟨⟨by decide +kernel, by decide +kernel⟩, List.mem_of_getElem? (i := 772) (by decide +kernel), List.mem_of_getElem? (i := 972) (by decide +kernel), List.mem_of_getElem? (i := 973) (by decide +kernel)⟩
theorem lw_p42 : lw_okq (⟨"GleanersForGapsModel", "byteAt", "(I)I"⟩, 47) := ⟨⟨by decide +kernel, by decide +kernel⟩, List.mem_of_getElem? (i := 772) (by decide +kernel), List.mem_of_getElem? (i := 976) (by decide +kernel), List.mem_of_getElem? (i := 977) (by decide +kernel)⟩
theorem lw_p43 : lw_okq (⟨"GleanersForGapsModel", "isWord", "(IIIIIIII)Z"⟩, 47) := ⟨⟨by decide +kernel, by decide +kernel⟩, List.mem_of_getElem? (i := 772) (by decide +kernel), List.mem_of_getElem? (i := 984) (by decide +kernel), List.mem_of_getElem? (i := 985) (by decide +kernel)⟩
theorem lw_p44 : lw_okq (⟨"GleanersForGapsModel", "isLetter", "(II)Z"⟩, 47) := ⟨⟨by decide +kernel, by decide +kernel⟩, List.mem_of_getElem? (i := 772) (by decide +kernel), List.mem_of_getElem? (i := 988) (by decide +kernel), List.mem_of_getElem? (i := 989) (by decide +kernel)⟩
theorem lw_p45 : lw_okq (⟨"GleanersForGapsModel", "part", "(Z)I"⟩, 47) := ⟨⟨by decide +kernel, by decide +kernel⟩, List.mem_of_getElem? (i := 772) (by decide +kernel), List.mem_of_getElem? (i := 992) (by decide +kernel), List.mem_of_getElem? (i := 993) (by decide +kernel)⟩
theorem lw_p46 : lw_okq (⟨"GleanersForGapsModel", "fail", "()V"⟩, 47) := ⟨⟨by decide +kernel, by decide +kernel⟩, List.mem_of_getElem? (i := 772) (by decide +kernel), List.mem_of_getElem? (i := 996) (by decide +kernel), List.mem_of_getElem? (i := 997) (by decide +kernel)⟩
theorem lw_p47 : lw_okq (⟨"GleanersForGapsModel", "either", "()I"⟩, 47) := ⟨⟨by decide +kernel, by decide +kernel⟩, List.mem_of_getElem? (i := 772) (by decide +kernel), List.mem_of_getElem? (i := 1000) (by decide +kernel), List.mem_of_getElem? (i := 1001) (by decide +kernel)⟩
def lw_privs_3 : List (MethodName × Nat) := [(⟨"GleanersForGaps", "gleanersSo", "(LGleanersForGaps$Sheet;I)I"⟩, 9), (⟨"GleanersForGaps", "rowsSo", "(LGleanersForGaps$Sheet;I)I"⟩, 9), (⟨"GleanersForGaps", "takenOfDrawn", "(II)I"⟩, 9), (⟨"GleanersForGapsModel", "spell", "(IIIIIIIII)V"⟩, 47), (⟨"GleanersForGapsModel", "leftOf", "(I)I"⟩, 47), (⟨"GleanersForGapsModel", "isOne", "(I)Z"⟩, 47), (⟨"GleanersForGapsModel", "keepsOf", "(I)I"⟩, 47), (⟨"GleanersForGapsModel", "says", "(IIIIII)I"⟩, 47), (⟨"GleanersForGapsModel", "read", "(II)I"⟩, 47), (⟨"GleanersForGapsModel", "next", "()V"⟩, 47), (⟨"GleanersForGapsModel", "byteAt", "(I)I"⟩, 47), (⟨"GleanersForGapsModel", "isWord", "(IIIIIIII)Z"⟩, 47), (⟨"GleanersForGapsModel", "isLetter", "(II)Z"⟩, 47), (⟨"GleanersForGapsModel", "part", "(Z)I"⟩, 47), (⟨"GleanersForGapsModel", "fail", "()V"⟩, 47), (⟨"GleanersForGapsModel", "either", "()I"⟩, 47)]
theorem lw_r3 : ∀ q ∈ lw_privs_3, lw_okq q := List.forall_mem_cons.mpr ⟨lw_p32, List.forall_mem_cons.mpr ⟨lw_p33, List.forall_mem_cons.mpr ⟨lw_p34, List.forall_mem_cons.mpr ⟨lw_p35, List.forall_mem_cons.mpr ⟨lw_p36, List.forall_mem_cons.mpr ⟨lw_p37, List.forall_mem_cons.mpr ⟨lw_p38, List.forall_mem_cons.mpr ⟨lw_p39, List.forall_mem_cons.mpr ⟨lw_p40, List.forall_mem_cons.mpr ⟨lw_p41, List.forall_mem_cons.mpr ⟨lw_p42, List.forall_mem_cons.mpr ⟨lw_p43, List.forall_mem_cons.mpr ⟨lw_p44, List.forall_mem_cons.mpr ⟨lw_p45, List.forall_mem_cons.mpr ⟨lw_p46, List.forall_mem_cons.mpr ⟨lw_p47, fun _ h => absurd h List.not_mem_nil⟩⟩⟩⟩⟩⟩⟩⟩⟩⟩⟩⟩⟩⟩⟩⟩
theorem lw_p48 : lw_okq (⟨"GleanersForGapsModel", "both", "()I"⟩, 47) := ⟨⟨by decide +kernel, by decide +kernel⟩, List.mem_of_getElem? (i := 772) (by decide +kernel), List.mem_of_getElem? (i := 1004) (by decide +kernel), List.mem_of_getElem? (i := 1005) (by decide +kernel)⟩
theorem lw_p49 : lw_okq (⟨"GleanersForGapsModel", "not", "()I"⟩, 47) := ⟨⟨by decide +kernel, by decide +kernel⟩, List.mem_of_getElem? (i := 772) (by decide +kernel), List.mem_of_getElem? (i := 1008) (by decide +kernel), List.mem_of_getElem? (i := 1009) (by decide +kernel)⟩
theorem lw_p50 : lw_okq (⟨"GleanersForGapsModel", "opens", "()Z"⟩, 47) := ⟨⟨by decide +kernel, by decide +kernel⟩, List.mem_of_getElem? (i := 772) (by decide +kernel), List.mem_of_getElem? (i := 1012) (by decide +kernel), List.mem_of_getElem? (i := 1013) (by decide +kernel)⟩
theorem lw_p51 : lw_okq (⟨"GleanersForGapsModel", "added", "()I"⟩, 47) := ⟨⟨by decide +kernel, by decide +kernel⟩, List.mem_of_getElem? (i := 772) (by decide +kernel), List.mem_of_getElem? (i := 1016) (by decide +kernel), List.mem_of_getElem? (i := 1017) (by decide +kernel)⟩
theorem lw_p52 : lw_okq (⟨"GleanersForGapsModel", "term", "()I"⟩, 47) := ⟨⟨by decide +kernel, by decide +kernel⟩, List.mem_of_getElem? (i := 772) (by decide +kernel), List.mem_of_getElem? (i := 1020) (by decide +kernel), List.mem_of_getElem? (i := 1021) (by decide +kernel)⟩
theorem lw_p53 : lw_okq (⟨"GleanersForGapsModel", "atom", "()I"⟩, 47) := ⟨⟨by decide +kernel, by decide +kernel⟩, List.mem_of_getElem? (i := 772) (by decide +kernel), List.mem_of_getElem? (i := 1024) (by decide +kernel), List.mem_of_getElem? (i := 1025) (by decide +kernel)⟩
theorem lw_p54 : lw_okq (⟨"GleanersForGapsModel", "isSign", "(I)Z"⟩, 47) := ⟨⟨by decide +kernel, by decide +kernel⟩, List.mem_of_getElem? (i := 772) (by decide +kernel), List.mem_of_getElem? (i := 1028) (by decide +kernel), List.mem_of_getElem? (i := 1029) (by decide +kernel)⟩
theorem lw_p55 : lw_okq (⟨"GleanersForGapsModel", "name", "()I"⟩, 47) := ⟨⟨by decide +kernel, by decide +kernel⟩, List.mem_of_getElem? (i := 772) (by decide +kernel), List.mem_of_getElem? (i := 1032) (by decide +kernel), List.mem_of_getElem? (i := 1033) (by decide +kernel)⟩
theorem lw_p56 : lw_okq (⟨"GleanersForGapsModel", "runsOf", "(I)I"⟩, 47) := ⟨⟨by decide +kernel, by decide +kernel⟩, List.mem_of_getElem? (i := 772) (by decide +kernel), List.mem_of_getElem? (i := 1041) (by decide +kernel), List.mem_of_getElem? (i := 1042) (by decide +kernel)⟩
theorem lw_p57 : lw_okq (⟨"GleanersForGapsModel", "isGap", "(II)Z"⟩, 47) := ⟨⟨by decide +kernel, by decide +kernel⟩, List.mem_of_getElem? (i := 772) (by decide +kernel), List.mem_of_getElem? (i := 1045) (by decide +kernel), List.mem_of_getElem? (i := 1046) (by decide +kernel)⟩
theorem lw_p58 : lw_okq (⟨"GleanersForGapsModel", "greatestOf", "(I)I"⟩, 47) := ⟨⟨by decide +kernel, by decide +kernel⟩, List.mem_of_getElem? (i := 772) (by decide +kernel), List.mem_of_getElem? (i := 1049) (by decide +kernel), List.mem_of_getElem? (i := 1050) (by decide +kernel)⟩
theorem lw_p59 : lw_okq (⟨"GleanersForGapsModel", "shakenOf", "(I)I"⟩, 47) := ⟨⟨by decide +kernel, by decide +kernel⟩, List.mem_of_getElem? (i := 772) (by decide +kernel), List.mem_of_getElem? (i := 1053) (by decide +kernel), List.mem_of_getElem? (i := 1054) (by decide +kernel)⟩
theorem lw_p60 : lw_okq (⟨"GleanersForGapsModel", "lays", "(III)V"⟩, 47) := ⟨⟨by decide +kernel, by decide +kernel⟩, List.mem_of_getElem? (i := 772) (by decide +kernel), List.mem_of_getElem? (i := 1057) (by decide +kernel), List.mem_of_getElem? (i := 1058) (by decide +kernel)⟩
theorem lw_p61 : lw_okq (⟨"GleanersForGapsModel", "takesOf", "(IIII)I"⟩, 47) := ⟨⟨by decide +kernel, by decide +kernel⟩, List.mem_of_getElem? (i := 772) (by decide +kernel), List.mem_of_getElem? (i := 1089) (by decide +kernel), List.mem_of_getElem? (i := 1090) (by decide +kernel)⟩
theorem lw_p62 : lw_okq (⟨"GleanersForGapsModel", "gleans", "(II)I"⟩, 47) := ⟨⟨by decide +kernel, by decide +kernel⟩, List.mem_of_getElem? (i := 772) (by decide +kernel), List.mem_of_getElem? (i := 1097) (by decide +kernel), List.mem_of_getElem? (i := 1098) (by decide +kernel)⟩
theorem lw_p63 : lw_okq (⟨"GleanersForGapsModel", "closes", "(III)V"⟩, 47) := ⟨⟨by decide +kernel, by decide +kernel⟩, List.mem_of_getElem? (i := 772) (by decide +kernel), List.mem_of_getElem? (i := 1101) (by decide +kernel), List.mem_of_getElem? (i := 1102) (by decide +kernel)⟩
def lw_privs_4 : List (MethodName × Nat) := [(⟨"GleanersForGapsModel", "both", "()I"⟩, 47), (⟨"GleanersForGapsModel", "not", "()I"⟩, 47), (⟨"GleanersForGapsModel", "opens", "()Z"⟩, 47), (⟨"GleanersForGapsModel", "added", "()I"⟩, 47), (⟨"GleanersForGapsModel", "term", "()I"⟩, 47), (⟨"GleanersForGapsModel", "atom", "()I"⟩, 47), (⟨"GleanersForGapsModel", "isSign", "(I)Z"⟩, 47), (⟨"GleanersForGapsModel", "name", "()I"⟩, 47), (⟨"GleanersForGapsModel", "runsOf", "(I)I"⟩, 47), (⟨"GleanersForGapsModel", "isGap", "(II)Z"⟩, 47), (⟨"GleanersForGapsModel", "greatestOf", "(I)I"⟩, 47), (⟨"GleanersForGapsModel", "shakenOf", "(I)I"⟩, 47), (⟨"GleanersForGapsModel", "lays", "(III)V"⟩, 47), (⟨"GleanersForGapsModel", "takesOf", "(IIII)I"⟩, 47), (⟨"GleanersForGapsModel", "gleans", "(II)I"⟩, 47), (⟨"GleanersForGapsModel", "closes", "(III)V"⟩, 47)]
theorem lw_r4 : ∀ q ∈ lw_privs_4, lw_okq q := List.forall_mem_cons.mpr ⟨lw_p48, List.forall_mem_cons.mpr ⟨lw_p49, List.forall_mem_cons.mpr ⟨lw_p50, List.forall_mem_cons.mpr ⟨lw_p51, List.forall_mem_cons.mpr ⟨lw_p52, List.forall_mem_cons.mpr ⟨lw_p53, List.forall_mem_cons.mpr ⟨lw_p54, List.forall_mem_cons.mpr ⟨lw_p55, List.forall_mem_cons.mpr ⟨lw_p56, List.forall_mem_cons.mpr ⟨lw_p57, List.forall_mem_cons.mpr ⟨lw_p58, List.forall_mem_cons.mpr ⟨lw_p59, List.forall_mem_cons.mpr ⟨lw_p60, List.forall_mem_cons.mpr ⟨lw_p61, List.forall_mem_cons.mpr ⟨lw_p62, List.forall_mem_cons.mpr ⟨lw_p63, fun _ h => absurd h List.not_mem_nil⟩⟩⟩⟩⟩⟩⟩⟩⟩⟩⟩⟩⟩⟩⟩⟩
theorem lw_p64 : lw_okq (⟨"GleanersForGapsModel", "isOrder", "(I)Z"⟩, 47) := ⟨⟨by decide +kernel, by decide +kernel⟩, List.mem_of_getElem? (i := 772) (by decide +kernel), List.mem_of_getElem? (i := 1109) (by decide +kernel), List.mem_of_getElem? (i := 1110) (by decide +kernel)⟩
theorem lw_p65 : lw_okq (⟨"GleanersForGapsModel", "passes", "()V"⟩, 47) := ⟨⟨by decide +kernel, by decide +kernel⟩, List.mem_of_getElem? (i := 772) (by decide +kernel), List.mem_of_getElem? (i := 1117) (by decide +kernel), List.mem_of_getElem? (i := 1118) (by decide +kernel)⟩
theorem lw_p66 : lw_okq (⟨"GleanersForGapsModel", "gapsAll", "()I"⟩, 47) := ⟨⟨by decide +kernel, by decide +kernel⟩, List.mem_of_getElem? (i := 772) (by decide +kernel), List.mem_of_getElem? (i := 1121) (by decide +kernel), List.mem_of_getElem? (i := 1122) (by decide +kernel)⟩
theorem lw_p67 : lw_okq (⟨"GleanersForGapsModel", "triesOf", "(III)I"⟩, 47) := ⟨⟨by decide +kernel, by decide +kernel⟩, List.mem_of_getElem? (i := 772) (by decide +kernel), List.mem_of_getElem? (i := 1129) (by decide +kernel), List.mem_of_getElem? (i := 1130) (by decide +kernel)⟩
theorem lw_p68 : lw_okq (⟨"GleanersForGapsModel", "laysAside", "()V"⟩, 47) := ⟨⟨by decide +kernel, by decide +kernel⟩, List.mem_of_getElem? (i := 772) (by decide +kernel), List.mem_of_getElem? (i := 1133) (by decide +kernel), List.mem_of_getElem? (i := 1134) (by decide +kernel)⟩
theorem lw_p69 : lw_okq (⟨"GleanersForGapsModel", "laysBack", "()V"⟩, 47) := ⟨⟨by decide +kernel, by decide +kernel⟩, List.mem_of_getElem? (i := 772) (by decide +kernel), List.mem_of_getElem? (i := 1137) (by decide +kernel), List.mem_of_getElem? (i := 1138) (by decide +kernel)⟩
theorem lw_p70 : lw_okq (⟨"GleanersForGapsModel", "gleanNights", "(II)V"⟩, 47) := ⟨⟨by decide +kernel, by decide +kernel⟩, List.mem_of_getElem? (i := 772) (by decide +kernel), List.mem_of_getElem? (i := 1146) (by decide +kernel), List.mem_of_getElem? (i := 1147) (by decide +kernel)⟩
theorem lw_p71 : lw_okq (⟨"GleanersForGapsModel", "orders", "(IIIII)V"⟩, 47) := ⟨⟨by decide +kernel, by decide +kernel⟩, List.mem_of_getElem? (i := 772) (by decide +kernel), List.mem_of_getElem? (i := 1154) (by decide +kernel), List.mem_of_getElem? (i := 1155) (by decide +kernel)⟩
theorem lw_p72 : lw_okq (⟨"GleanersForGapsModel", "bareOf", "(I)I"⟩, 47) := ⟨⟨by decide +kernel, by decide +kernel⟩, List.mem_of_getElem? (i := 772) (by decide +kernel), List.mem_of_getElem? (i := 1163) (by decide +kernel), List.mem_of_getElem? (i := 1164) (by decide +kernel)⟩
theorem lw_p73 : lw_okq (⟨"GleanersForGapsModel", "aloneOf", "(II)I"⟩, 47) := ⟨⟨by decide +kernel, by decide +kernel⟩, List.mem_of_getElem? (i := 772) (by decide +kernel), List.mem_of_getElem? (i := 1167) (by decide +kernel), List.mem_of_getElem? (i := 1168) (by decide +kernel)⟩
theorem lw_p74 : lw_okq (⟨"GleanersForGapsModel", "firstOther", "(III)I"⟩, 47) := ⟨⟨by decide +kernel, by decide +kernel⟩, List.mem_of_getElem? (i := 772) (by decide +kernel), List.mem_of_getElem? (i := 1195) (by decide +kernel), List.mem_of_getElem? (i := 1196) (by decide +kernel)⟩
theorem lw_p75 : lw_okq (⟨"GleanersForGapsModel", "likeSet", "(II)I"⟩, 47) := ⟨⟨by decide +kernel, by decide +kernel⟩, List.mem_of_getElem? (i := 772) (by decide +kernel), List.mem_of_getElem? (i := 1199) (by decide +kernel), List.mem_of_getElem? (i := 1200) (by decide +kernel)⟩
theorem lw_p76 : lw_okq (⟨"GleanersForGapsModel", "rowSet", "(II)I"⟩, 47) := ⟨⟨by decide +kernel, by decide +kernel⟩, List.mem_of_getElem? (i := 772) (by decide +kernel), List.mem_of_getElem? (i := 1203) (by decide +kernel), List.mem_of_getElem? (i := 1204) (by decide +kernel)⟩
theorem lw_p77 : lw_okq (⟨"GleanersForGapsModel", "takenDrawn", "(II)I"⟩, 47) := ⟨⟨by decide +kernel, by decide +kernel⟩, List.mem_of_getElem? (i := 772) (by decide +kernel), List.mem_of_getElem? (i := 1220) (by decide +kernel), List.mem_of_getElem? (i := 1221) (by decide +kernel)⟩
def lw_privs_5 : List (MethodName × Nat) := [(⟨"GleanersForGapsModel", "isOrder", "(I)Z"⟩, 47), (⟨"GleanersForGapsModel", "passes", "()V"⟩, 47), (⟨"GleanersForGapsModel", "gapsAll", "()I"⟩, 47), (⟨"GleanersForGapsModel", "triesOf", "(III)I"⟩, 47), (⟨"GleanersForGapsModel", "laysAside", "()V"⟩, 47), (⟨"GleanersForGapsModel", "laysBack", "()V"⟩, 47), (⟨"GleanersForGapsModel", "gleanNights", "(II)V"⟩, 47), (⟨"GleanersForGapsModel", "orders", "(IIIII)V"⟩, 47), (⟨"GleanersForGapsModel", "bareOf", "(I)I"⟩, 47), (⟨"GleanersForGapsModel", "aloneOf", "(II)I"⟩, 47), (⟨"GleanersForGapsModel", "firstOther", "(III)I"⟩, 47), (⟨"GleanersForGapsModel", "likeSet", "(II)I"⟩, 47), (⟨"GleanersForGapsModel", "rowSet", "(II)I"⟩, 47), (⟨"GleanersForGapsModel", "takenDrawn", "(II)I"⟩, 47)]
theorem lw_r5 : ∀ q ∈ lw_privs_5, lw_okq q := List.forall_mem_cons.mpr ⟨lw_p64, List.forall_mem_cons.mpr ⟨lw_p65, List.forall_mem_cons.mpr ⟨lw_p66, List.forall_mem_cons.mpr ⟨lw_p67, List.forall_mem_cons.mpr ⟨lw_p68, List.forall_mem_cons.mpr ⟨lw_p69, List.forall_mem_cons.mpr ⟨lw_p70, List.forall_mem_cons.mpr ⟨lw_p71, List.forall_mem_cons.mpr ⟨lw_p72, List.forall_mem_cons.mpr ⟨lw_p73, List.forall_mem_cons.mpr ⟨lw_p74, List.forall_mem_cons.mpr ⟨lw_p75, List.forall_mem_cons.mpr ⟨lw_p76, List.forall_mem_cons.mpr ⟨lw_p77, fun _ h => absurd h List.not_mem_nil⟩⟩⟩⟩⟩⟩⟩⟩⟩⟩⟩⟩⟩⟩
def lw_privs : List (MethodName × Nat) := lw_privs_1 ++ (lw_privs_2 ++ (lw_privs_3 ++ (lw_privs_4 ++ (lw_privs_5))))
def lw_tbl : List Cond := k2_sels lw_privs ++ tables_1
theorem lw_privs_ok : ∀ q ∈ lw_privs, lw_okq q := by
  show ∀ q ∈ lw_privs_1 ++ (lw_privs_2 ++ (lw_privs_3 ++ (lw_privs_4 ++ (lw_privs_5)))), lw_okq q
  exact List.forall_mem_append.mpr ⟨lw_r1, List.forall_mem_append.mpr ⟨lw_r2, List.forall_mem_append.mpr ⟨lw_r3, List.forall_mem_append.mpr ⟨lw_r4, lw_r5⟩⟩⟩⟩
-- ===== end of PART A; then your names; then what follows =====
def zCl : List String := ["GleanersForGaps$Gleaning", "GleanersForGaps$Order", "GleanersForGaps$Rule", "GleanersForGaps$Sheet", "GleanersForGaps$State", "GleanersForGaps$Tape", "GleanersForGaps$Text", "GleanersForGaps", "GleanersForGapsModel", "java/lang/Integer", "java/lang/Math", "java/lang/String", "java/lang/StringLatin1", "java/util/Arrays", "jdk/internal/util/Preconditions", "GleanersForGapsLaw"]
def zTl : List (List (String × String × String × Bool)) := [
  [("GleanersForGaps$Gleaning", "rule", "LGleanersForGaps$Rule;", true), ("GleanersForGaps$Gleaning", "takenOfRun", "[I", true), ("GleanersForGaps$Gleaning", "runs", "I", false)],
  [("GleanersForGaps$Order", "at", "[I", true), ("GleanersForGaps$Order", "size", "I", false)],
  [("GleanersForGaps$Rule", "texts", "[LGleanersForGaps$Text;", true), ("GleanersForGaps$Rule", "name", "[I", true), ("GleanersForGaps$Rule", "stack", "[I", true), ("GleanersForGaps$Rule", "count", "I", false)],
  [("GleanersForGaps$Sheet", "item", "[I", true), ("GleanersForGaps$Sheet", "sort", "I", false), ("GleanersForGaps$Sheet", "size", "I", false)],
  [("GleanersForGaps$State", "length", "[I", true), ("GleanersForGaps$State", "stalks", "[I", true), ("GleanersForGaps$State", "kind", "[I", true), ("GleanersForGaps$State", "number", "[I", true), ("GleanersForGaps$State", "apron", "[I", true), ("GleanersForGaps$State", "crew", "I", false), ("GleanersForGaps$State", "night", "I", false), ("GleanersForGaps$State", "rule", "I", false)],
  [("GleanersForGaps$Tape", "bytes", "[I", true), ("GleanersForGaps$Tape", "size", "I", false), ("GleanersForGaps$Tape", "draft", "LGleanersForGaps$Text;", true), ("GleanersForGaps$Tape", "token", "I", false), ("GleanersForGaps$Tape", "value", "I", false), ("GleanersForGaps$Tape", "place", "I", false), ("GleanersForGaps$Tape", "behind", "I", false), ("GleanersForGaps$Tape", "open", "I", false), ("GleanersForGaps$Tape", "fault", "I", false)],
  [("GleanersForGaps$Text", "code", "[I", true), ("GleanersForGaps$Text", "end", "[I", true), ("GleanersForGaps$Text", "size", "I", false)],
  [("GleanersForGaps", "now", "LGleanersForGaps$State;", true), ("GleanersForGaps", "thought", "LGleanersForGaps$State;", true), ("GleanersForGaps", "image", "LGleanersForGaps$State;", true), ("GleanersForGaps", "gleaning", "LGleanersForGaps$Gleaning;", true), ("GleanersForGaps", "rule", "LGleanersForGaps$Rule;", true), ("GleanersForGaps", "turns", "LGleanersForGaps$Order;", true), ("GleanersForGaps", "tape", "LGleanersForGaps$Tape;", true), ("GleanersForGaps", "sheets", "[LGleanersForGaps$Sheet;", true), ("GleanersForGaps", "imageKept", "Z", false)],
  [("GleanersForGapsModel", "thrown", "I", false), ("GleanersForGapsModel", "texts", "[I", true), ("GleanersForGapsModel", "textSize", "[I", true), ("GleanersForGapsModel", "textCount", "I", false), ("GleanersForGapsModel", "rule", "I", false), ("GleanersForGapsModel", "tape", "[I", true), ("GleanersForGapsModel", "taped", "I", false), ("GleanersForGapsModel", "nightNow", "I", false), ("GleanersForGapsModel", "bits", "[I", true), ("GleanersForGapsModel", "length", "[I", true), ("GleanersForGapsModel", "kinds", "[I", true), ("GleanersForGapsModel", "rows", "[I", true), ("GleanersForGapsModel", "many", "I", false), ("GleanersForGapsModel", "ofGap", "I", false), ("GleanersForGapsModel", "ofNth", "I", false), ("GleanersForGapsModel", "ofNumber", "I", false), ("GleanersForGapsModel", "ofNight", "I", false), ("GleanersForGapsModel", "ofApron", "I", false), ("GleanersForGapsModel", "ofRow", "I", false), ("GleanersForGapsModel", "from", "I", false), ("GleanersForGapsModel", "size", "I", false), ("GleanersForGapsModel", "here", "I", false), ("GleanersForGapsModel", "token", "I", false), ("GleanersForGapsModel", "tokenAt", "I", false), ("GleanersForGapsModel", "tokenWorth", "J", false), ("GleanersForGapsModel", "open", "I", false), ("GleanersForGapsModel", "bad", "Z", false), ("GleanersForGapsModel", "fault", "I", false), ("GleanersForGapsModel", "begins", "[I", true), ("GleanersForGapsModel", "sizes", "[I", true), ("GleanersForGapsModel", "takes1", "[I", true), ("GleanersForGapsModel", "digitOf", "[I", true), ("GleanersForGapsModel", "keptNow", "[I", true), ("GleanersForGapsModel", "shakenNow", "[I", true), ("GleanersForGapsModel", "was", "[I", true), ("GleanersForGapsModel", "bestDigits", "I", false), ("GleanersForGapsModel", "bestOf", "I", false), ("GleanersForGapsModel", "bitsKept", "[I", true), ("GleanersForGapsModel", "lengthKept", "[I", true), ("GleanersForGapsModel", "rowsKept", "[I", true), ("GleanersForGapsModel", "manyKept", "I", false), ("GleanersForGapsModel", "nightKept", "I", false), ("GleanersForGapsModel", "ruleKept", "I", false), ("GleanersForGapsModel", "isThere", "[Z", true), ("GleanersForGapsModel", "sorts", "[I", true), ("GleanersForGapsModel", "sheetSize", "[I", true), ("GleanersForGapsModel", "items", "[I", true)]]
def zYl : List (List FieldType) := [
  [(.object "GleanersForGaps$Rule"), (.array .int), .int],
  [(.array .int), .int],
  [(.array (.object "GleanersForGaps$Text")), (.array .int), (.array .int), .int],
  [(.array .int), .int, .int],
  [(.array .int), (.array .int), (.array .int), (.array .int), (.array .int), .int, .int, .int],
  [(.array .int), .int, (.object "GleanersForGaps$Text"), .int, .int, .int, .int, .int, .int],
  [(.array .int), (.array .int), .int],
  [(.object "GleanersForGaps$State"), (.object "GleanersForGaps$State"), (.object "GleanersForGaps$State"), (.object "GleanersForGaps$Gleaning"), (.object "GleanersForGaps$Rule"), (.object "GleanersForGaps$Order"), (.object "GleanersForGaps$Tape"), (.array (.object "GleanersForGaps$Sheet")), .boolean],
  [.int, (.array .int), (.array .int), .int, .int, (.array .int), .int, .int, (.array .int), (.array .int), (.array .int), (.array .int), .int, .int, .int, .int, .int, .int, .int, .int, .int, .int, .int, .int, .long, .int, .boolean, .int, (.array .int), (.array .int), (.array .int), (.array .int), (.array .int), (.array .int), (.array .int), .int, .int, (.array .int), (.array .int), (.array .int), .int, .int, .int, (.array .boolean), (.array .int), (.array .int), (.array .int)]]
def zLl : List (List Nat) := [[217, 219, 221], [234, 236], [202, 204, 206, 208], [290, 292, 294], [137, 139, 141, 143, 145, 147, 149, 151], [258, 260, 262, 264, 266, 268, 270, 272, 274], [179, 181, 183], [306, 308, 310, 312, 314, 316, 318, 320, 322], [905, 907, 909, 911, 913, 915, 917, 919, 921, 923, 925, 927, 929, 931, 933, 935, 937, 939, 941, 943, 945, 947, 949, 951, 953, 955, 957, 959, 961, 963, 965, 967, 969, 971, 973, 975, 977, 979, 981, 983, 985, 987, 989, 991, 993, 995, 997]]
def zIl : List (Nat × Nat) := [(156, 81), (225, 84), (162, 82), (279, 86), (105, 80), (240, 85), (169, 83), (97, 79), (850, 87)]
abbrev zE : Type := Nat × MethodName × ByteArray × Nat × Option FieldType × Bool × Nat × List Nat × List Nat
def zml_0 : List zE := [
  (7, ⟨"GleanersForGaps", "<init>", "()V"⟩, prog_1_method_1_code, 2, none, false, 1, [], [100, 79, 99]),
  (4, ⟨"GleanersForGaps$State", "<init>", "()V"⟩, prog_6_method_1_code, 1, none, false, 1, [], [108, 80, 107]),
  (0, ⟨"GleanersForGaps$Gleaning", "<init>", "()V"⟩, prog_2_method_1_code, 1, none, false, 1, [], [159, 81, 158]),
  (2, ⟨"GleanersForGaps$Rule", "<init>", "()V"⟩, prog_4_method_1_code, 2, none, false, 1, [], [165, 82, 164]),
  (6, ⟨"GleanersForGaps$Text", "<init>", "()V"⟩, prog_8_method_1_code, 1, none, false, 1, [], [172, 83, 171]),
  (6, ⟨"GleanersForGaps$Text", "adds", "(I)V"⟩, prog_8_method_3_code, 2, none, false, 2, [], [189, 83, 187, 188]),
  (6, ⟨"GleanersForGaps$Text", "endsPart", "(I)V"⟩, prog_8_method_4_code, 2, none, false, 2, [], [193, 83, 191, 192]),
  (7, ⟨"GleanersForGaps", "isWithin", "(III)Z"⟩, prog_1_method_50_code, 3, (some .boolean), true, 3, [], [196, 79, 195]),
  (1, ⟨"GleanersForGaps$Order", "<init>", "()V"⟩, prog_3_method_1_code, 1, none, false, 1, [], [228, 84, 227]),
  (5, ⟨"GleanersForGaps$Tape", "<init>", "()V"⟩, prog_7_method_1_code, 1, none, false, 1, [], [243, 85, 242]),
  (3, ⟨"GleanersForGaps$Sheet", "<init>", "()V"⟩, prog_5_method_1_code, 1, none, false, 1, [], [282, 86, 281]),
  (7, ⟨"GleanersForGaps", "lay", "(III)I"⟩, prog_1_method_2_code, 4, (some .int), false, 4, [], [328, 79, 326, 327]),
  (4, ⟨"GleanersForGaps$State", "hasRow", "(I)Z"⟩, prog_6_method_3_code, 2, (some .boolean), false, 2, [], [332, 80, 330, 331]),
  (4, ⟨"GleanersForGaps$State", "left", "(I)I"⟩, prog_6_method_7_code, 2, (some .int), false, 2, [], [338, 80, 336, 337]),
  (4, ⟨"GleanersForGaps$State", "gapBits", "(I)I"⟩, prog_6_method_6_code, 2, (some .int), false, 2, [], [342, 80, 341, 0]),
  (9, ⟨"java/lang/Integer", "bitCount", "(I)I"⟩, prog_11_method_49_code, 1, (some .int), true, 1, [], [345, 88, 344]),
  (7, ⟨"GleanersForGaps", "set", "(III)I"⟩, prog_1_method_3_code, 4, (some .int), false, 4, [], [352, 79, 350, 351]),
  (7, ⟨"GleanersForGaps", "nightBecomes", "(I)I"⟩, prog_1_method_4_code, 3, (some .int), false, 2, [], [356, 79, 355, 1]),
  (7, ⟨"GleanersForGaps", "becomes", "([III)I"⟩, prog_1_method_5_code, 5, (some .int), false, 4, [], [360, 79, 359, 2]),
  (4, ⟨"GleanersForGaps$State", "hasGleaner", "(I)Z"⟩, prog_6_method_4_code, 2, (some .boolean), false, 2, [], [364, 80, 362, 363]),
  (7, ⟨"GleanersForGaps", "gleaner", "(II)I"⟩, prog_1_method_6_code, 3, (some .int), false, 3, [], [368, 79, 366, 367]),
  (4, ⟨"GleanersForGaps$State", "comes", "(II)I"⟩, prog_6_method_5_code, 4, (some .int), false, 3, [], [372, 80, 370, 371]),
  (7, ⟨"GleanersForGaps", "told", "(II)I"⟩, prog_1_method_7_code, 3, (some .int), false, 3, [], [376, 79, 374, 375]),
  (7, ⟨"GleanersForGaps", "toldOfGleaner", "(II)I"⟩, prog_1_method_8_code, 3, (some .int), false, 3, [], [380, 79, 379, 3]),
  (0, ⟨"GleanersForGaps$Gleaning", "kept", "(LGleanersForGaps$State;I)I"⟩, prog_2_method_4_code, 5, (some .int), false, 3, [], [384, 81, 382, 383]),
  (2, ⟨"GleanersForGaps$Rule", "keepsTold", "(LGleanersForGaps$State;I)I"⟩, prog_4_method_4_code, 3, (some .int), false, 3, [], [388, 82, 386, 387]),
  (2, ⟨"GleanersForGaps$Rule", "namesGleaner", "(LGleanersForGaps$State;I)V"⟩, prog_4_method_6_code, 3, none, false, 3, [], [392, 82, 391, 4]),
  (2, ⟨"GleanersForGaps$Rule", "worth", "(II)I"⟩, prog_4_method_7_code, 9, (some .int), false, 3, [], [396, 82, 395, 5]),
  (2, ⟨"GleanersForGaps$Rule", "ofOne", "(II)I"⟩, prog_4_method_8_code, 2, (some .int), true, 2, [], [399, 82, 398]),
  (2, ⟨"GleanersForGaps$Rule", "ofTwo", "(III)I"⟩, prog_4_method_9_code, 3, (some .int), true, 3, [], [402, 82, 401]),
  (7, ⟨"GleanersForGaps", "bounded", "(III)I"⟩, prog_1_method_51_code, 3, (some .int), true, 3, [], [405, 79, 404]),
  (7, ⟨"GleanersForGaps", "toldOfRow", "(II)I"⟩, prog_1_method_9_code, 3, (some .int), false, 3, [], [410, 79, 409, 6]),
  (4, ⟨"GleanersForGaps$State", "runs", "(I)I"⟩, prog_6_method_9_code, 4, (some .int), false, 2, [], [414, 80, 412, 413]),
  (4, ⟨"GleanersForGaps$State", "greatestSize", "(I)I"⟩, prog_6_method_11_code, 5, (some .int), false, 2, [], [418, 80, 416, 417]),
  (4, ⟨"GleanersForGaps$State", "sizeOfRun", "(II)I"⟩, prog_6_method_10_code, 9, (some .int), false, 3, [], [423, 80, 421, 422]),
  (2, ⟨"GleanersForGaps$Rule", "shakesTold", "(LGleanersForGaps$State;I)I"⟩, prog_4_method_5_code, 3, (some .int), false, 3, [], [430, 82, 428, 429]),
  (7, ⟨"GleanersForGaps", "run", "(II)I"⟩, prog_1_method_10_code, 3, (some .int), false, 3, [], [435, 79, 433, 434]),
  (7, ⟨"GleanersForGaps", "asks", "(II)I"⟩, prog_1_method_11_code, 3, (some .int), false, 3, [], [440, 79, 438, 439]),
  (2, ⟨"GleanersForGaps$Rule", "takesTold", "(LGleanersForGaps$State;IIII)I"⟩, prog_4_method_3_code, 6, (some .int), false, 6, [], [444, 82, 442, 443]),
  (0, ⟨"GleanersForGaps$Gleaning", "wanted", "(LGleanersForGaps$State;III)I"⟩, prog_2_method_2_code, 6, (some .int), false, 5, [], [448, 81, 446, 447])]
def zml_1 : List zE := [
  (0, ⟨"GleanersForGaps$Gleaning", "asWidow", "(II)I"⟩, prog_2_method_3_code, 2, (some .int), true, 2, [], [451, 81, 450]),
  (7, ⟨"GleanersForGaps", "feed", "(I)I"⟩, prog_1_method_12_code, 2, (some .int), false, 2, [], [455, 79, 453, 454]),
  (5, ⟨"GleanersForGaps$Tape", "grows", "(I)Z"⟩, prog_7_method_2_code, 2, (some .boolean), false, 2, [], [459, 85, 457, 458]),
  (7, ⟨"GleanersForGaps", "text", "()I"⟩, prog_1_method_13_code, 2, (some .int), false, 1, [], [463, 79, 461, 462]),
  (5, ⟨"GleanersForGaps$Tape", "readWhole", "()I"⟩, prog_7_method_3_code, 2, (some .int), false, 1, [], [467, 85, 465, 466]),
  (6, ⟨"GleanersForGaps$Text", "startsAnew", "()V"⟩, prog_8_method_2_code, 1, none, false, 1, [], [471, 83, 469, 470]),
  (5, ⟨"GleanersForGaps$Tape", "advance", "()V"⟩, prog_7_method_13_code, 1, none, false, 1, [], [475, 85, 474, 7]),
  (5, ⟨"GleanersForGaps$Tape", "isLetter", "(I)Z"⟩, prog_7_method_17_code, 1, (some .boolean), true, 1, [], [478, 85, 477]),
  (5, ⟨"GleanersForGaps$Tape", "readWord", "()V"⟩, prog_7_method_14_code, 2, none, false, 1, [], [482, 85, 481, 8]),
  (5, ⟨"GleanersForGaps$Tape", "word", "(I)Ljava/lang/String;"⟩, prog_7_method_20_code, 1, (some (.object "java/lang/String")), true, 1, [], [485, 85, 484]),
  (5, ⟨"GleanersForGaps$Tape", "stands", "(Ljava/lang/String;)Z"⟩, prog_7_method_15_code, 3, (some .boolean), false, 2, [], [501, 85, 500, 9]),
  (11, ⟨"java/lang/String", "length", "()I"⟩, prog_13_method_54_code, 1, (some .int), false, 1, [], [505, 90, 503, 504]),
  (11, ⟨"java/lang/String", "coder", "()B"⟩, prog_13_method_152_code, 1, (some .byte), false, 1, [], [509, 90, 507, 508]),
  (11, ⟨"java/lang/String", "charAt", "(I)C"⟩, prog_13_method_56_code, 2, (some .char), false, 2, [], [515, 90, 513, 514]),
  (11, ⟨"java/lang/String", "isLatin1", "()Z"⟩, prog_13_method_154_code, 1, (some .boolean), false, 1, [], [519, 90, 517, 518]),
  (12, ⟨"java/lang/StringLatin1", "charAt", "([BI)C"⟩, prog_14_method_2_code, 2, (some .char), true, 2, [], [522, 91, 521]),
  (11, ⟨"java/lang/String", "checkIndex", "(II)V"⟩, prog_13_method_155_code, 2, none, true, 2, [], [525, 90, 524]),
  (14, ⟨"jdk/internal/util/Preconditions", "checkIndex", "(IILjava/util/function/BiFunction;)I"⟩, prog_18_method_11_code, 3, (some .int), true, 3, [], [530, 92, 529]),
  (5, ⟨"GleanersForGaps$Tape", "isDigit", "(I)Z"⟩, prog_7_method_18_code, 1, (some .boolean), true, 1, [], [552, 85, 551]),
  (5, ⟨"GleanersForGaps$Tape", "readNumber", "()V"⟩, prog_7_method_16_code, 1, none, false, 1, [], [556, 85, 555, 10]),
  (5, ⟨"GleanersForGaps$Tape", "isSign", "(I)Z"⟩, prog_7_method_19_code, 1, (some .boolean), true, 1, [], [559, 85, 558]),
  (5, ⟨"GleanersForGaps$Tape", "expect", "(I)V"⟩, prog_7_method_11_code, 2, none, false, 2, [], [563, 85, 562, 11]),
  (5, ⟨"GleanersForGaps$Tape", "fail", "()V"⟩, prog_7_method_12_code, 1, none, false, 1, [], [567, 85, 566, 12]),
  (5, ⟨"GleanersForGaps$Tape", "readEither", "()V"⟩, prog_7_method_4_code, 2, none, false, 1, [], [571, 85, 570, 13]),
  (5, ⟨"GleanersForGaps$Tape", "readBoth", "()V"⟩, prog_7_method_5_code, 2, none, false, 1, [], [575, 85, 574, 14]),
  (5, ⟨"GleanersForGaps$Tape", "readDenied", "()V"⟩, prog_7_method_6_code, 2, none, false, 1, [], [579, 85, 578, 15]),
  (5, ⟨"GleanersForGaps$Tape", "opens", "()Z"⟩, prog_7_method_10_code, 1, (some .boolean), false, 1, [], [583, 85, 582, 16]),
  (5, ⟨"GleanersForGaps$Tape", "readSum", "()V"⟩, prog_7_method_7_code, 3, none, false, 1, [], [588, 85, 587, 17]),
  (5, ⟨"GleanersForGaps$Tape", "readTerm", "()V"⟩, prog_7_method_8_code, 2, none, false, 1, [], [592, 85, 591, 18]),
  (5, ⟨"GleanersForGaps$Tape", "readOne", "()V"⟩, prog_7_method_9_code, 1, none, false, 1, [], [596, 85, 595, 19]),
  (2, ⟨"GleanersForGaps$Rule", "keepsText", "(LGleanersForGaps$Text;)I"⟩, prog_4_method_2_code, 2, (some .int), false, 2, [], [601, 82, 599, 600]),
  (6, ⟨"GleanersForGaps$Text", "becomes", "(LGleanersForGaps$Text;)V"⟩, prog_8_method_5_code, 2, none, false, 2, [], [605, 83, 603, 604]),
  (7, ⟨"GleanersForGaps", "force", "(I)I"⟩, prog_1_method_14_code, 3, (some .int), false, 2, [], [613, 79, 611, 612]),
  (7, ⟨"GleanersForGaps", "glean", "(II)I"⟩, prog_1_method_15_code, 3, (some .int), false, 3, [], [617, 79, 615, 616]),
  (0, ⟨"GleanersForGaps$Gleaning", "goAlong", "(LGleanersForGaps$State;II)I"⟩, prog_2_method_5_code, 14, (some .int), false, 4, [], [621, 81, 619, 620]),
  (0, ⟨"GleanersForGaps$Gleaning", "noteTaken", "(LGleanersForGaps$State;III)V"⟩, prog_2_method_6_code, 5, none, false, 5, [], [628, 81, 627, 20]),
  (7, ⟨"GleanersForGaps", "go", "(II)I"⟩, prog_1_method_16_code, 3, (some .int), false, 3, [], [632, 79, 630, 631]),
  (1, ⟨"GleanersForGaps$Order", "isReadFrom", "(II)Z"⟩, prog_3_method_3_code, 7, (some .boolean), false, 3, [], [636, 84, 634, 635]),
  (0, ⟨"GleanersForGaps$Gleaning", "allGo", "(LGleanersForGaps$State;ILGleanersForGaps$Order;I)I"⟩, prog_2_method_7_code, 9, (some .int), false, 5, [], [642, 81, 640, 641]),
  (7, ⟨"GleanersForGaps", "night", "()I"⟩, prog_1_method_17_code, 1, (some .int), false, 1, [], [647, 79, 645, 646])]
def zml_2 : List zE := [
  (0, ⟨"GleanersForGaps$Gleaning", "passNight", "(LGleanersForGaps$State;)V"⟩, prog_2_method_8_code, 4, none, false, 2, [], [651, 81, 649, 650]),
  (4, ⟨"GleanersForGaps$State", "leftOfAll", "()I"⟩, prog_6_method_8_code, 3, (some .int), false, 1, [], [660, 80, 658, 659]),
  (7, ⟨"GleanersForGaps", "tries", "(III)I"⟩, prog_1_method_18_code, 5, (some .int), false, 4, [], [665, 79, 663, 664]),
  (4, ⟨"GleanersForGaps$State", "becomes", "(LGleanersForGaps$State;)V"⟩, prog_6_method_2_code, 2, none, false, 2, [], [669, 80, 667, 668]),
  (7, ⟨"GleanersForGaps", "nights", "(IIII)I"⟩, prog_1_method_19_code, 6, (some .int), false, 5, [], [674, 79, 672, 673]),
  (7, ⟨"GleanersForGaps", "dayAndNight", "(I)V"⟩, prog_1_method_20_code, 2, none, false, 2, [], [678, 79, 677, 21]),
  (1, ⟨"GleanersForGaps$Order", "startsFirst", "(I)V"⟩, prog_3_method_2_code, 3, none, false, 2, [], [682, 84, 680, 681]),
  (7, ⟨"GleanersForGaps", "first", "(III)I"⟩, prog_1_method_21_code, 9, (some .int), false, 4, [], [686, 79, 684, 685]),
  (1, ⟨"GleanersForGaps$Order", "digits", "()I"⟩, prog_3_method_4_code, 3, (some .int), false, 1, [], [690, 84, 688, 689]),
  (1, ⟨"GleanersForGaps$Order", "advances", "()Z"⟩, prog_3_method_5_code, 5, (some .boolean), false, 1, [], [694, 84, 692, 693]),
  (1, ⟨"GleanersForGaps$Order", "swap", "(II)V"⟩, prog_3_method_6_code, 4, none, false, 3, [], [698, 84, 697, 22]),
  (7, ⟨"GleanersForGaps", "best", "(II)I"⟩, prog_1_method_22_code, 3, (some .int), false, 3, [], [702, 79, 700, 701]),
  (7, ⟨"GleanersForGaps", "leastLeft", "(IZ)I"⟩, prog_1_method_23_code, 8, (some .int), false, 3, [], [706, 79, 705, 23]),
  (7, ⟨"GleanersForGaps", "alone", "(IZ)I"⟩, prog_1_method_24_code, 7, (some .int), false, 3, [], [710, 79, 709, 24]),
  (7, ⟨"GleanersForGaps", "bare", "(I)I"⟩, prog_1_method_25_code, 3, (some .int), false, 2, [], [714, 79, 713, 25]),
  (7, ⟨"GleanersForGaps", "rowFor", "(II)I"⟩, prog_1_method_26_code, 7, (some .int), false, 3, [], [718, 79, 716, 717]),
  (7, ⟨"GleanersForGaps", "longest", "()I"⟩, prog_1_method_27_code, 7, (some .int), false, 1, [], [722, 79, 720, 721]),
  (7, ⟨"GleanersForGaps", "close", "(I)J"⟩, prog_1_method_28_code, 4, (some .long), false, 2, [], [726, 79, 724, 725]),
  (7, ⟨"GleanersForGaps", "partOfFraction", "(III)J"⟩, prog_1_method_54_code, 4, (some .long), true, 3, [], [730, 79, 729]),
  (7, ⟨"GleanersForGaps", "greatestDivisor", "(II)I"⟩, prog_1_method_55_code, 6, (some .int), true, 2, [], [733, 79, 732]),
  (7, ⟨"GleanersForGaps", "tells", "(IIII)I"⟩, prog_1_method_29_code, 6, (some .int), false, 5, [], [737, 79, 735, 736]),
  (7, ⟨"GleanersForGaps", "isSheet", "(I)Z"⟩, prog_1_method_49_code, 2, (some .boolean), false, 2, [], [741, 79, 740, 26]),
  (3, ⟨"GleanersForGaps$Sheet", "isMissing", "()Z"⟩, prog_5_method_2_code, 1, (some .boolean), false, 1, [], [745, 86, 743, 744]),
  (7, ⟨"GleanersForGaps", "firstOtherwise", "(LGleanersForGaps$Sheet;II)I"⟩, prog_1_method_30_code, 5, (some .int), false, 4, [], [749, 79, 748, 27]),
  (7, ⟨"GleanersForGaps", "kindsSo", "(LGleanersForGaps$Sheet;II)I"⟩, prog_1_method_31_code, 6, (some .int), false, 4, [], [753, 79, 752, 28]),
  (7, ⟨"GleanersForGaps", "bitIf", "(ZI)I"⟩, prog_1_method_52_code, 2, (some .int), true, 2, [], [756, 79, 755]),
  (7, ⟨"GleanersForGaps", "numbersSo", "(LGleanersForGaps$Sheet;II)I"⟩, prog_1_method_32_code, 6, (some .int), false, 4, [], [760, 79, 759, 29]),
  (7, ⟨"GleanersForGaps", "apronsSo", "(LGleanersForGaps$Sheet;IIZ)I"⟩, prog_1_method_33_code, 8, (some .int), false, 5, [], [764, 79, 763, 30]),
  (7, ⟨"GleanersForGaps", "textsSo", "(LGleanersForGaps$Sheet;II)I"⟩, prog_1_method_34_code, 6, (some .int), false, 4, [], [768, 79, 767, 31]),
  (7, ⟨"GleanersForGaps", "gleanersSo", "(LGleanersForGaps$Sheet;I)I"⟩, prog_1_method_35_code, 5, (some .int), false, 3, [], [772, 79, 771, 32]),
  (7, ⟨"GleanersForGaps", "rowsSo", "(LGleanersForGaps$Sheet;I)I"⟩, prog_1_method_36_code, 5, (some .int), false, 3, [], [776, 79, 775, 33]),
  (7, ⟨"GleanersForGaps", "film", "(III)I"⟩, prog_1_method_37_code, 6, (some .int), false, 4, [], [780, 79, 778, 779]),
  (3, ⟨"GleanersForGaps$Sheet", "becomes", "(II)V"⟩, prog_5_method_3_code, 3, none, false, 3, [], [784, 86, 782, 783]),
  (13, ⟨"java/util/Arrays", "fill", "([II)V"⟩, prog_17_method_103_code, 4, none, true, 2, [], [788, 95, 787]),
  (3, ⟨"GleanersForGaps$Sheet", "puts", "(II)Z"⟩, prog_5_method_5_code, 3, (some .boolean), false, 3, [], [792, 86, 790, 791]),
  (3, ⟨"GleanersForGaps$Sheet", "hasItems", "(II)Z"⟩, prog_5_method_4_code, 3, (some .boolean), false, 3, [], [796, 86, 794, 795]),
  (7, ⟨"GleanersForGaps", "drawn", "(II)I"⟩, prog_1_method_38_code, 3, (some .int), false, 3, [], [800, 79, 798, 799]),
  (7, ⟨"GleanersForGaps", "takenOfDrawn", "(II)I"⟩, prog_1_method_39_code, 6, (some .int), false, 3, [], [804, 79, 803, 34]),
  (7, ⟨"GleanersForGaps", "chance", "(IIIII)J"⟩, prog_1_method_40_code, 8, (some .long), false, 6, [], [809, 79, 807, 808]),
  (7, ⟨"GleanersForGaps", "image", "()I"⟩, prog_1_method_41_code, 1, (some .int), false, 1, [], [813, 79, 811, 812])]
def zml_3 : List zE := [
  (7, ⟨"GleanersForGaps", "back", "()I"⟩, prog_1_method_42_code, 1, (some .int), false, 1, [], [817, 79, 815, 816]),
  (7, ⟨"GleanersForGaps", "count", "(I)I"⟩, prog_1_method_43_code, 2, (some .int), false, 2, [], [821, 79, 819, 820]),
  (7, ⟨"GleanersForGaps", "sheet", "(III)I"⟩, prog_1_method_44_code, 4, (some .int), false, 4, [], [825, 79, 823, 824]),
  (7, ⟨"GleanersForGaps", "cell", "(III)I"⟩, prog_1_method_45_code, 5, (some .int), false, 4, [], [829, 79, 827, 828]),
  (7, ⟨"GleanersForGaps", "copy", "(IIIII)I"⟩, prog_1_method_46_code, 8, (some .int), false, 6, [], [833, 79, 831, 832]),
  (7, ⟨"GleanersForGaps", "gleaners", "(IIII)I"⟩, prog_1_method_47_code, 9, (some .int), false, 5, [], [839, 79, 837, 838]),
  (7, ⟨"GleanersForGaps", "taken", "(II)I"⟩, prog_1_method_48_code, 3, (some .int), false, 3, [], [843, 79, 841, 842]),
  (7, ⟨"GleanersForGaps", "isUnder", "(II)Z"⟩, prog_1_method_53_code, 4, (some .boolean), true, 2, [], [846, 79, 845]),
  (8, ⟨"GleanersForGapsModel", "<init>", "()V"⟩, prog_10_method_4_code, 1, none, false, 1, [], [853, 87, 852]),
  (8, ⟨"GleanersForGapsModel", "spell", "(IIIIIIIII)V"⟩, prog_10_method_5_code, 10, none, false, 10, [], [858, 87, 857, 35]),
  (8, ⟨"GleanersForGapsModel", "lay", "(III)I"⟩, prog_10_method_8_code, 4, (some .int), false, 4, [], [1004, 87, 1002, 1003]),
  (8, ⟨"GleanersForGapsModel", "isRow", "(I)Z"⟩, prog_10_method_7_code, 1, (some .boolean), true, 1, [], [1007, 87, 1006]),
  (8, ⟨"GleanersForGapsModel", "in", "(JJJ)Z"⟩, prog_10_method_2_code, 6, (some .boolean), true, 3, [0, 2, 4], [1011, 87, 1010]),
  (8, ⟨"GleanersForGapsModel", "leftOf", "(I)I"⟩, prog_10_method_10_code, 2, (some .int), false, 2, [], [1016, 87, 1015, 36]),
  (8, ⟨"GleanersForGapsModel", "bitsOf", "(I)I"⟩, prog_10_method_9_code, 3, (some .int), true, 1, [], [1019, 87, 1018]),
  (8, ⟨"GleanersForGapsModel", "set", "(III)I"⟩, prog_10_method_12_code, 5, (some .int), false, 4, [], [1023, 87, 1021, 1022]),
  (8, ⟨"GleanersForGapsModel", "isOne", "(I)Z"⟩, prog_10_method_6_code, 2, (some .boolean), false, 2, [], [1028, 87, 1027, 37]),
  (8, ⟨"GleanersForGapsModel", "mostOf", "(I)I"⟩, prog_10_method_11_code, 1, (some .int), true, 1, [], [1031, 87, 1030]),
  (8, ⟨"GleanersForGapsModel", "told", "(II)I"⟩, prog_10_method_15_code, 3, (some .int), false, 3, [], [1035, 87, 1033, 1034]),
  (8, ⟨"GleanersForGapsModel", "keepsOf", "(I)I"⟩, prog_10_method_37_code, 6, (some .int), false, 2, [], [1040, 87, 1039, 38]),
  (8, ⟨"GleanersForGapsModel", "says", "(IIIIII)I"⟩, prog_10_method_35_code, 7, (some .int), false, 7, [], [1044, 87, 1043, 39]),
  (8, ⟨"GleanersForGapsModel", "read", "(II)I"⟩, prog_10_method_32_code, 6, (some .int), false, 3, [], [1048, 87, 1047, 40]),
  (8, ⟨"GleanersForGapsModel", "next", "()V"⟩, prog_10_method_18_code, 3, none, false, 1, [], [1052, 87, 1051, 41]),
  (8, ⟨"GleanersForGapsModel", "byteAt", "(I)I"⟩, prog_10_method_17_code, 2, (some .int), false, 2, [], [1056, 87, 1055, 42]),
  (8, ⟨"GleanersForGapsModel", "isWord", "(IIIIIIII)Z"⟩, prog_10_method_21_code, 9, (some .boolean), false, 9, [], [1064, 87, 1063, 43]),
  (8, ⟨"GleanersForGapsModel", "isLetter", "(II)Z"⟩, prog_10_method_20_code, 3, (some .boolean), false, 3, [], [1068, 87, 1067, 44]),
  (8, ⟨"GleanersForGapsModel", "part", "(Z)I"⟩, prog_10_method_31_code, 3, (some .int), false, 2, [], [1072, 87, 1071, 45]),
  (8, ⟨"GleanersForGapsModel", "fail", "()V"⟩, prog_10_method_19_code, 1, none, false, 1, [], [1076, 87, 1075, 46]),
  (8, ⟨"GleanersForGapsModel", "either", "()I"⟩, prog_10_method_30_code, 3, (some .int), false, 1, [], [1080, 87, 1079, 47]),
  (8, ⟨"GleanersForGapsModel", "both", "()I"⟩, prog_10_method_29_code, 3, (some .int), false, 1, [], [1084, 87, 1083, 48]),
  (8, ⟨"GleanersForGapsModel", "not", "()I"⟩, prog_10_method_28_code, 4, (some .int), false, 1, [], [1088, 87, 1087, 49]),
  (8, ⟨"GleanersForGapsModel", "opens", "()Z"⟩, prog_10_method_23_code, 1, (some .boolean), false, 1, [], [1092, 87, 1091, 50]),
  (8, ⟨"GleanersForGapsModel", "added", "()I"⟩, prog_10_method_27_code, 4, (some .int), false, 1, [], [1096, 87, 1095, 51]),
  (8, ⟨"GleanersForGapsModel", "term", "()I"⟩, prog_10_method_26_code, 2, (some .int), false, 1, [], [1100, 87, 1099, 52]),
  (8, ⟨"GleanersForGapsModel", "atom", "()I"⟩, prog_10_method_25_code, 2, (some .int), false, 1, [], [1104, 87, 1103, 53]),
  (8, ⟨"GleanersForGapsModel", "isSign", "(I)Z"⟩, prog_10_method_22_code, 2, (some .boolean), false, 2, [], [1108, 87, 1107, 54]),
  (8, ⟨"GleanersForGapsModel", "name", "()I"⟩, prog_10_method_24_code, 1, (some .int), false, 1, [], [1112, 87, 1111, 55]),
  (8, ⟨"GleanersForGapsModel", "within", "(III)I"⟩, prog_10_method_3_code, 3, (some .int), true, 3, [], [1117, 87, 1116]),
  (8, ⟨"GleanersForGapsModel", "runsOf", "(I)I"⟩, prog_10_method_40_code, 4, (some .int), false, 2, [], [1121, 87, 1120, 56]),
  (8, ⟨"GleanersForGapsModel", "isGap", "(II)Z"⟩, prog_10_method_39_code, 3, (some .boolean), false, 3, [], [1125, 87, 1124, 57])]
def zml_4 : List zE := [
  (8, ⟨"GleanersForGapsModel", "greatestOf", "(I)I"⟩, prog_10_method_41_code, 5, (some .int), false, 2, [], [1129, 87, 1128, 58]),
  (8, ⟨"GleanersForGapsModel", "shakenOf", "(I)I"⟩, prog_10_method_38_code, 2, (some .int), false, 2, [], [1133, 87, 1132, 59]),
  (8, ⟨"GleanersForGapsModel", "lays", "(III)V"⟩, prog_10_method_13_code, 4, none, false, 4, [], [1137, 87, 1136, 60]),
  (8, ⟨"GleanersForGapsModel", "gleaner", "(II)I"⟩, prog_10_method_14_code, 3, (some .int), false, 3, [], [1141, 87, 1139, 1140]),
  (8, ⟨"GleanersForGapsModel", "feed", "(I)I"⟩, prog_10_method_16_code, 2, (some .int), false, 2, [], [1148, 87, 1146, 1147]),
  (8, ⟨"GleanersForGapsModel", "text", "()I"⟩, prog_10_method_33_code, 2, (some .int), false, 1, [], [1153, 87, 1151, 1152]),
  (8, ⟨"GleanersForGapsModel", "force", "(I)I"⟩, prog_10_method_34_code, 3, (some .int), false, 2, [], [1157, 87, 1155, 1156]),
  (8, ⟨"GleanersForGapsModel", "run", "(II)I"⟩, prog_10_method_42_code, 3, (some .int), false, 3, [], [1161, 87, 1159, 1160]),
  (8, ⟨"GleanersForGapsModel", "asks", "(II)I"⟩, prog_10_method_43_code, 3, (some .int), false, 3, [], [1165, 87, 1163, 1164]),
  (8, ⟨"GleanersForGapsModel", "takesOf", "(IIII)I"⟩, prog_10_method_36_code, 9, (some .int), false, 5, [], [1169, 87, 1168, 61]),
  (8, ⟨"GleanersForGapsModel", "glean", "(II)I"⟩, prog_10_method_46_code, 3, (some .int), false, 3, [], [1173, 87, 1171, 1172]),
  (8, ⟨"GleanersForGapsModel", "gleans", "(II)I"⟩, prog_10_method_45_code, 8, (some .int), false, 3, [], [1177, 87, 1176, 62]),
  (8, ⟨"GleanersForGapsModel", "closes", "(III)V"⟩, prog_10_method_44_code, 5, none, false, 4, [], [1181, 87, 1180, 63]),
  (8, ⟨"GleanersForGapsModel", "go", "(II)I"⟩, prog_10_method_48_code, 4, (some .int), false, 3, [], [1185, 87, 1183, 1184]),
  (8, ⟨"GleanersForGapsModel", "isOrder", "(I)Z"⟩, prog_10_method_47_code, 5, (some .boolean), false, 2, [], [1189, 87, 1188, 64]),
  (8, ⟨"GleanersForGapsModel", "night", "()I"⟩, prog_10_method_51_code, 1, (some .int), false, 1, [], [1193, 87, 1191, 1192]),
  (8, ⟨"GleanersForGapsModel", "passes", "()V"⟩, prog_10_method_50_code, 2, none, false, 1, [], [1197, 87, 1196, 65]),
  (8, ⟨"GleanersForGapsModel", "gapsAll", "()I"⟩, prog_10_method_49_code, 1, (some .int), false, 1, [], [1201, 87, 1200, 66]),
  (8, ⟨"GleanersForGapsModel", "tries", "(III)I"⟩, prog_10_method_55_code, 4, (some .int), false, 4, [], [1205, 87, 1203, 1204]),
  (8, ⟨"GleanersForGapsModel", "triesOf", "(III)I"⟩, prog_10_method_54_code, 6, (some .int), false, 4, [], [1209, 87, 1208, 67]),
  (8, ⟨"GleanersForGapsModel", "laysAside", "()V"⟩, prog_10_method_52_code, 2, none, false, 1, [], [1213, 87, 1212, 68]),
  (8, ⟨"GleanersForGapsModel", "laysBack", "()V"⟩, prog_10_method_53_code, 2, none, false, 1, [], [1217, 87, 1216, 69]),
  (8, ⟨"GleanersForGapsModel", "nights", "(IIII)I"⟩, prog_10_method_57_code, 6, (some .int), false, 5, [], [1221, 87, 1219, 1220]),
  (8, ⟨"GleanersForGapsModel", "gleanNights", "(II)V"⟩, prog_10_method_56_code, 5, none, false, 3, [], [1226, 87, 1225, 70]),
  (8, ⟨"GleanersForGapsModel", "first", "(III)I"⟩, prog_10_method_59_code, 4, (some .int), false, 4, [], [1230, 87, 1228, 1229]),
  (8, ⟨"GleanersForGapsModel", "orders", "(IIIII)V"⟩, prog_10_method_58_code, 11, none, false, 6, [], [1234, 87, 1233, 71]),
  (8, ⟨"GleanersForGapsModel", "best", "(II)I"⟩, prog_10_method_62_code, 3, (some .int), false, 3, [], [1238, 87, 1236, 1237]),
  (8, ⟨"GleanersForGapsModel", "bareOf", "(I)I"⟩, prog_10_method_61_code, 3, (some .int), false, 2, [], [1243, 87, 1242, 72]),
  (8, ⟨"GleanersForGapsModel", "aloneOf", "(II)I"⟩, prog_10_method_60_code, 7, (some .int), false, 3, [], [1247, 87, 1246, 73]),
  (8, ⟨"GleanersForGapsModel", "rowFor", "(II)I"⟩, prog_10_method_63_code, 7, (some .int), false, 3, [], [1251, 87, 1249, 1250]),
  (8, ⟨"GleanersForGapsModel", "longest", "()I"⟩, prog_10_method_64_code, 6, (some .int), false, 1, [], [1255, 87, 1253, 1254]),
  (8, ⟨"GleanersForGapsModel", "close", "(I)J"⟩, prog_10_method_66_code, 3, (some .long), false, 2, [], [1259, 87, 1257, 1258]),
  (8, ⟨"GleanersForGapsModel", "lowest", "(JJI)J"⟩, prog_10_method_65_code, 11, (some .long), true, 3, [0, 2, 5, 7, 9], [1262, 87, 1261]),
  (8, ⟨"GleanersForGapsModel", "tells", "(IIII)I"⟩, prog_10_method_70_code, 12, (some .int), false, 5, [], [1267, 87, 1265, 1266]),
  (8, ⟨"GleanersForGapsModel", "isSheet", "(I)Z"⟩, prog_10_method_78_code, 1, (some .boolean), true, 1, [], [1270, 87, 1269]),
  (8, ⟨"GleanersForGapsModel", "firstOther", "(III)I"⟩, prog_10_method_67_code, 5, (some .int), false, 4, [], [1275, 87, 1274, 74]),
  (8, ⟨"GleanersForGapsModel", "likeSet", "(II)I"⟩, prog_10_method_68_code, 5, (some .int), false, 3, [], [1279, 87, 1278, 75]),
  (8, ⟨"GleanersForGapsModel", "rowSet", "(II)I"⟩, prog_10_method_69_code, 5, (some .int), false, 3, [], [1283, 87, 1282, 76]),
  (8, ⟨"GleanersForGapsModel", "film", "(III)I"⟩, prog_10_method_71_code, 6, (some .int), false, 4, [], [1287, 87, 1285, 1286]),
  (8, ⟨"GleanersForGapsModel", "sheet", "(III)I"⟩, prog_10_method_79_code, 5, (some .int), false, 4, [], [1291, 87, 1289, 1290])]
def zml_5 : List zE := [
  (8, ⟨"GleanersForGapsModel", "drawn", "(II)I"⟩, prog_10_method_73_code, 3, (some .int), false, 3, [], [1296, 87, 1294, 1295]),
  (8, ⟨"GleanersForGapsModel", "takenDrawn", "(II)I"⟩, prog_10_method_72_code, 5, (some .int), false, 3, [], [1300, 87, 1299, 77]),
  (8, ⟨"GleanersForGapsModel", "chance", "(IIIII)J"⟩, prog_10_method_74_code, 9, (some .long), false, 6, [6], [1305, 87, 1303, 1304]),
  (8, ⟨"GleanersForGapsModel", "image", "()I"⟩, prog_10_method_75_code, 2, (some .int), false, 1, [], [1309, 87, 1307, 1308]),
  (8, ⟨"GleanersForGapsModel", "back", "()I"⟩, prog_10_method_76_code, 2, (some .int), false, 1, [], [1313, 87, 1311, 1312]),
  (8, ⟨"GleanersForGapsModel", "count", "(I)I"⟩, prog_10_method_77_code, 2, (some .int), false, 2, [], [1317, 87, 1315, 1316]),
  (8, ⟨"GleanersForGapsModel", "cell", "(III)I"⟩, prog_10_method_80_code, 4, (some .int), false, 4, [], [1322, 87, 1320, 1321]),
  (8, ⟨"GleanersForGapsModel", "copy", "(IIIII)I"⟩, prog_10_method_81_code, 9, (some .int), false, 6, [], [1326, 87, 1324, 1325]),
  (8, ⟨"GleanersForGapsModel", "gleaners", "(IIII)I"⟩, prog_10_method_82_code, 8, (some .int), false, 5, [], [1330, 87, 1328, 1329]),
  (8, ⟨"GleanersForGapsModel", "taken", "(II)I"⟩, prog_10_method_84_code, 4, (some .int), false, 3, [], [1335, 87, 1333, 1334]),
  (8, ⟨"GleanersForGapsModel", "over", "(I)I"⟩, prog_10_method_83_code, 1, (some .int), true, 1, [], [1338, 87, 1337]),
  (15, ⟨"GleanersForGapsLaw", "law", "([I)Z"⟩, code, 4, (some .boolean), true, 1, [], [])]
def zml : List zE := zml_0 ++ (zml_1 ++ (zml_2 ++ (zml_3 ++ (zml_4 ++ (zml_5)))))
def zfl : List (Nat × Nat × Nat × Nat × Nat) := [(4, 9, 4, 0, 110), (7, 63, 4, 0, 111), (0, 45, 4, 0, 112), (4, 15, 4, 1, 113), (7, 67, 4, 1, 114), (0, 48, 4, 1, 115), (4, 18, 4, 2, 116), (0, 27, 4, 2, 117), (7, 104, 4, 2, 118), (4, 21, 4, 3, 119), (0, 22, 4, 3, 120), (7, 77, 4, 3, 121), (2, 64, 4, 3, 122), (4, 24, 4, 4, 123), (0, 38, 4, 4, 124), (7, 84, 4, 4, 125), (2, 67, 4, 4, 126), (4, 33, 4, 5, 127), (0, 84, 4, 5, 128), (7, 160, 4, 5, 129), (4, 37, 4, 6, 130), (7, 87, 4, 6, 131), (2, 61, 4, 6, 132), (0, 96, 4, 6, 133), (4, 40, 4, 7, 134), (2, 44, 4, 7, 135), (7, 154, 4, 7, 136), (6, 9, 6, 0, 174), (2, 70, 6, 0, 175), (6, 15, 6, 1, 176), (2, 73, 6, 1, 177), (6, 18, 6, 2, 178), (2, 11, 2, 0, 197), (2, 17, 2, 1, 198), (2, 21, 2, 2, 199), (2, 32, 2, 3, 200), (7, 139, 2, 3, 201), (0, 12, 0, 0, 211), (7, 29, 0, 0, 212), (0, 18, 0, 1, 213), (7, 246, 0, 1, 214), (0, 51, 0, 2, 215), (7, 241, 0, 2, 216), (1, 9, 1, 0, 230), (0, 77, 1, 0, 231), (1, 19, 1, 1, 232), (0, 72, 1, 1, 233), (5, 9, 5, 0, 247), (5, 22, 5, 1, 248), (7, 136, 5, 1, 249), (5, 18, 5, 2, 250), (7, 146, 5, 2, 251), (5, 54, 5, 3, 252), (5, 76, 5, 4, 253), (5, 82, 5, 5, 254), (5, 35, 5, 6, 255), (5, 29, 5, 7, 256), (5, 32, 5, 8, 257), (3, 9, 3, 0, 284), (7, 243, 3, 0, 285), (3, 15, 3, 1, 286), (7, 267, 3, 1, 287), (3, 23, 3, 2, 288), (7, 216, 3, 2, 289), (7, 10, 7, 0, 297), (7, 16, 7, 1, 298), (7, 19, 7, 2, 299), (7, 25, 7, 3, 300), (7, 33, 7, 4, 301), (7, 37, 7, 5, 302), (7, 44, 7, 6, 303), (7, 50, 7, 7, 304), (7, 263, 7, 8, 305), (8, 13, 8, 1, 859), (8, 17, 8, 2, 860), (8, 85, 8, 3, 861), (8, 129, 8, 4, 862), (8, 20, 8, 5, 863), (8, 152, 8, 6, 864), (8, 126, 8, 7, 865), (8, 23, 8, 8, 866), (8, 26, 8, 9, 867), (8, 29, 8, 10, 868), (8, 32, 8, 11, 869), (8, 88, 8, 12, 870), (8, 209, 8, 13, 871), (8, 212, 8, 14, 872), (8, 215, 8, 15, 873), (8, 218, 8, 16, 874), (8, 221, 8, 17, 875), (8, 224, 8, 18, 876), (8, 158, 8, 19, 877), (8, 155, 8, 20, 878), (8, 161, 8, 21, 879), (8, 170, 8, 22, 880), (8, 167, 8, 23, 881), (8, 181, 8, 24, 882), (8, 196, 8, 25, 883), (8, 185, 8, 26, 884), (8, 189, 8, 27, 885), (8, 35, 8, 28, 886), (8, 38, 8, 29, 887), (8, 41, 8, 30, 888), (8, 44, 8, 31, 889), (8, 47, 8, 32, 890), (8, 50, 8, 33, 891), (8, 53, 8, 34, 892), (8, 312, 8, 35, 893), (8, 315, 8, 36, 894), (8, 56, 8, 37, 895), (8, 59, 8, 38, 896), (8, 62, 8, 39, 897), (8, 65, 8, 40, 898), (8, 357, 8, 41, 899), (8, 360, 8, 42, 900), (8, 68, 8, 43, 901), (8, 72, 8, 44, 902), (8, 75, 8, 45, 903), (8, 78, 8, 46, 904)]
def zsfl : List (Nat × Nat × Nat × Nat) := [(11, 38, 0, 510), (11, 1053, 2, 526), (7, 282, 1, 847)]
def zjfl : List (Nat × Nat × Nat × Nat) := [(11, 9, 0, 1339), (11, 15, 1, 1340)]
def zcl : List (Nat × Nat × Nat × Bool × Nat) := [(15, 9, 0, false, 98), (7, 9, 1, true, 106), (7, 24, 2, true, 157), (0, 11, 3, false, 163), (2, 24, 4, true, 170), (2, 25, 5, false, 186), (2, 29, 6, false, 190), (6, 22, 7, true, 194), (7, 36, 8, true, 226), (7, 43, 9, true, 241), (5, 17, 4, true, 246), (7, 54, 10, true, 280), (15, 13, 11, false, 325), (7, 55, 12, false, 329), (4, 43, 7, true, 333), (7, 59, 7, false, 334), (7, 70, 13, false, 335), (4, 47, 14, false, 339), (4, 51, 15, false, 343), (15, 18, 16, false, 349), (7, 74, 17, false, 353), (7, 80, 18, false, 357), (7, 91, 19, false, 361), (15, 22, 20, false, 365), (7, 94, 21, false, 369), (15, 27, 22, false, 373), (7, 98, 23, false, 377), (7, 107, 24, false, 381), (0, 41, 25, false, 385), (2, 40, 26, false, 389), (2, 49, 27, false, 393), (2, 76, 28, false, 397), (2, 79, 29, false, 400), (2, 53, 30, true, 403), (0, 34, 30, true, 406), (7, 101, 31, false, 407), (7, 111, 32, false, 411), (7, 114, 33, false, 415), (4, 59, 32, false, 419), (4, 62, 34, false, 420), (7, 117, 35, false, 427), (2, 57, 13, false, 431), (15, 31, 36, false, 432), (7, 122, 34, false, 436), (15, 35, 37, false, 437), (7, 125, 38, false, 441), (7, 129, 39, false, 445), (0, 30, 40, false, 449), (15, 39, 41, false, 452), (7, 133, 42, false, 456), (15, 44, 43, false, 460), (7, 142, 44, false, 464), (5, 26, 45, false, 468), (5, 38, 46, false, 472), (5, 85, 47, false, 476), (5, 89, 48, false, 479), (5, 101, 49, false, 483), (5, 105, 50, false, 498), (5, 109, 51, false, 502), (11, 335, 52, false, 506), (5, 115, 53, false, 512), (11, 492, 54, false, 516), (11, 495, 55, false, 520), (12, 9, 56, false, 523), (11, 1059, 57, false, 528), (5, 92, 58, false, 550), (5, 95, 59, false, 553), (5, 98, 60, false, 557), (5, 41, 61, false, 560), (5, 79, 62, false, 564), (5, 45, 63, false, 568), (5, 51, 64, false, 572), (5, 60, 65, false, 576), (5, 63, 66, false, 580), (5, 57, 5, false, 584), (5, 67, 67, false, 585), (5, 70, 68, false, 589), (5, 73, 69, false, 593), (5, 48, 6, false, 597), (7, 150, 70, false, 598), (2, 36, 71, false, 602), (15, 49, 72, false, 610), (15, 53, 73, false, 614), (7, 156, 74, false, 618), (0, 55, 38, false, 622), (0, 59, 39, false, 623), (0, 68, 75, false, 625), (15, 57, 76, false, 629), (7, 163, 77, false, 633), (1, 15, 30, true, 637), (1, 23, 7, true, 638), (7, 167, 78, false, 639), (0, 80, 74, false, 643), (15, 61, 79, false, 644), (7, 171, 80, false, 648), (0, 87, 24, false, 652), (0, 90, 35, false, 653), (7, 175, 81, false, 657), (4, 56, 13, false, 661), (15, 65, 82, false, 662), (7, 178, 83, false, 666), (15, 69, 84, false, 671), (7, 180, 85, false, 675), (7, 184, 86, false, 679), (15, 74, 87, false, 683), (7, 187, 88, false, 687), (7, 190, 89, false, 691), (1, 27, 90, false, 695), (15, 78, 91, false, 699), (7, 194, 92, false, 703), (7, 198, 93, false, 707), (7, 201, 94, false, 711), (15, 82, 95, false, 715), (15, 86, 96, false, 719), (15, 90, 97, false, 723), (7, 206, 98, false, 728), (7, 285, 99, false, 731), (15, 95, 100, false, 734), (7, 210, 101, false, 738), (7, 213, 102, false, 742), (7, 217, 103, false, 746), (7, 221, 104, false, 750), (7, 249, 105, false, 754), (7, 224, 106, false, 757), (7, 227, 107, false, 761), (7, 231, 108, false, 765), (7, 234, 109, false, 769), (7, 238, 110, false, 773), (15, 99, 111, false, 777), (7, 253, 112, false, 781), (3, 19, 30, true, 785), (3, 26, 113, false, 786), (7, 256, 114, false, 789), (3, 32, 115, false, 793), (15, 103, 116, false, 797), (7, 259, 117, false, 801), (15, 107, 118, false, 806), (15, 112, 119, false, 810), (15, 116, 120, false, 814), (15, 120, 121, false, 818), (15, 124, 122, false, 822), (15, 128, 123, false, 826), (15, 132, 124, false, 830), (7, 270, 115, false, 834), (15, 137, 125, false, 836), (15, 141, 126, false, 840), (7, 279, 127, false, 844), (15, 12, 128, false, 851), (8, 81, 129, false, 855), (15, 17, 130, false, 1001), (8, 97, 131, false, 1005), (8, 91, 132, false, 1009), (8, 103, 133, false, 1013), (8, 107, 134, false, 1017), (15, 21, 135, false, 1020), (8, 112, 136, false, 1025), (8, 115, 137, false, 1029), (8, 118, 138, false, 1032), (8, 138, 139, false, 1037), (8, 271, 140, false, 1041), (8, 264, 141, false, 1045), (8, 202, 142, false, 1049), (8, 164, 143, false, 1053), (8, 205, 144, false, 1061), (8, 192, 145, false, 1065), (8, 260, 146, false, 1069), (8, 199, 147, false, 1073), (8, 238, 148, false, 1077), (8, 257, 149, false, 1081), (8, 249, 150, false, 1085), (8, 230, 151, false, 1089), (8, 252, 152, false, 1093), (8, 244, 153, false, 1097), (8, 234, 154, false, 1101), (8, 227, 155, false, 1105), (8, 241, 156, false, 1109), (8, 267, 157, false, 1115), (8, 141, 158, false, 1118), (8, 275, 159, false, 1122), (8, 144, 160, false, 1126), (8, 147, 161, false, 1130), (8, 122, 162, false, 1134), (15, 26, 163, false, 1138), (15, 30, 138, false, 1144), (15, 43, 164, false, 1145), (15, 48, 165, false, 1150), (15, 52, 166, false, 1154), (15, 34, 167, false, 1158), (15, 38, 168, false, 1162), (8, 278, 169, false, 1166), (15, 56, 170, false, 1170), (8, 285, 171, false, 1174), (8, 282, 172, false, 1178), (15, 60, 173, false, 1182), (8, 288, 174, false, 1186), (15, 64, 175, false, 1190), (8, 291, 176, false, 1194), (8, 294, 177, false, 1198), (15, 68, 178, false, 1202), (8, 303, 179, false, 1206), (8, 297, 180, false, 1210), (8, 300, 181, false, 1214), (15, 73, 182, false, 1218), (8, 308, 183, false, 1223), (15, 77, 184, false, 1227), (8, 318, 185, false, 1231), (15, 81, 186, false, 1235), (8, 324, 187, false, 1240), (8, 327, 188, false, 1244), (15, 85, 189, false, 1248), (15, 89, 190, false, 1252), (15, 94, 191, false, 1256), (8, 330, 192, false, 1260), (15, 98, 193, false, 1264), (8, 339, 194, false, 1268), (8, 336, 195, false, 1272), (8, 344, 196, false, 1276), (8, 347, 197, false, 1280), (15, 102, 198, false, 1284), (8, 350, 199, false, 1288), (15, 106, 200, false, 1293), (8, 354, 201, false, 1297), (15, 111, 202, false, 1302), (15, 115, 203, false, 1306), (15, 119, 204, false, 1310), (15, 123, 205, false, 1314), (15, 127, 199, false, 1318), (15, 131, 206, false, 1319), (15, 136, 207, false, 1323), (15, 140, 208, false, 1327), (8, 365, 163, false, 1331), (15, 144, 209, false, 1332), (8, 368, 210, false, 1336)]
def zol : List (Nat × Nat × Nat) := [(7, 1, 101), (4, 3, 109), (0, 3, 160), (2, 3, 166), (6, 3, 173), (1, 3, 229), (5, 3, 244), (3, 3, 283), (8, 7, 854)]
def zal : List (Nat × Nat × Nat) := [(6, 26, 606), (4, 27, 670), (7, 273, 835)]
def zxl : List (Nat × Nat × Nat × Nat) := [(4, 66, 1, 424), (0, 63, 1, 624), (0, 93, 0, 654)]
def zkl : List (Nat × Nat × Nat × Nat) := [(15, 7, 7, 96), (7, 7, 4, 104), (7, 22, 0, 155), (0, 9, 2, 161), (2, 9, 6, 167), (7, 34, 1, 224), (7, 41, 5, 239), (5, 15, 6, 245), (7, 48, 3, 277), (15, 10, 8, 849)]
def znl : List (Nat × Nat × Int32 × Nat) := [(9, 265, 1431655765, 346), (9, 266, 858993459, 347), (9, 267, 252645135, 348), (7, 262, 1103515245, 805), (8, 353, 1103515245, 1301)]
def zjl : List (Nat × Nat × Int64 × Nat) := [(7, 204, (-4611686018427387904), 727), (8, 95, 3, 1008), (8, 101, 24, 1012), (8, 110, 2, 1024), (8, 136, 10, 1036), (8, 173, 97, 1057), (8, 175, 122, 1058), (8, 177, 48, 1059), (8, 179, 57, 1060), (8, 247, 43, 1113), (8, 255, 60, 1114), (8, 132, 5, 1142), (8, 134, 9, 1143), (8, 150, 255, 1149), (8, 306, 20, 1222), (8, 322, 4, 1239), (8, 334, (-4611686018427387904), 1263), (8, 342, 7, 1271), (8, 363, (-1), 1292)]
def zsl : List (Nat × Nat × String × Nat) := [(5, 119, "gap", 486), (5, 121, "nth", 487), (5, 123, "number", 488), (5, 125, "night", 489), (5, 127, "apron", 490), (5, 129, "row", 491), (5, 131, "takes", 492), (5, 133, "keeps", 493), (5, 135, "shakes", 494), (5, 137, "or", 495), (5, 139, "and", 496), (5, 141, "not", 497)]
def zbl : List (List Int32) := [[103, 97, 112], [110, 116, 104], [110, 117, 109, 98, 101, 114], [110, 105, 103, 104, 116], [97, 112, 114, 111, 110], [114, 111, 119], [116, 97, 107, 101, 115], [107, 101, 101, 112, 115], [115, 104, 97, 107, 101, 115], [111, 114], [97, 110, 100], [110, 111, 116]]
end
section
/-! THE SMALL MACHINE: a pure evaluator of the program's bytecode over the program's own tables; its soundness stands in part 03. Values: int, long; ref k: the k-th cell made; float k: String constant k; double 0: KIND_ABOVE, double (1+k): the bytes of String constant k, double 50: the script; retAddr 0: SIOOBE_FORMATTER. -/
def zC (ci : Nat) : String := zCl.getD ci ""
def zT (ci k : Nat) : String × String × String × Bool := (zTl.getD ci []).getD k ("", "", "", false)
def zN (ci : Nat) : Nat := (zTl.getD ci []).length
def zty (ci k : Nat) : FieldType := (zYl.getD ci []).getD k .int
/-- how many cells, how many slots; shapes; lengths; references -/
abbrev zF : Type := Nat × Nat × (Nat → Nat) × (Nat → Nat) × (Nat → Nat → Option Nat)
/-- ints, longs -/
abbrev zG : Type := (Nat → Nat → Int32) × (Nat → Nat → Int64)
abbrev zLs : Type := List (Option Value)
abbrev zCf : Type := Nat × zLs × List Value × zF × zG
/-- the script -/
abbrev zXs : Type := Nat × (Nat → Int32)
def zsh (F : zF) (a : Nat) : Nat := if a < F.1 then F.2.2.1 a else 999
def zln (F : zF) (a : Nat) : Nat := F.2.2.2.1 a
def zrf (F : zF) (a k : Nat) : Option Nat := F.2.2.2.2 a k
def zu {α : Type} (V : Nat → Nat → α) (a k : Nat) (v : α) : Nat → Nat → α := fun b => if b = a then (fun j => if j = k then v else V b j) else V b
def zur {α : Type} (V : Nat → α) (a : Nat) (f : α) : Nat → α := fun b => if b = a then f else V b
def zob {α β : Type} (o : Option α) (f : α → Option β) : Option β := match o with
  | none => none
  | some a => f a
def zm (M : Nat) : Option zE := zml[M]?
def zop (M pc : Nat) : Option (Instr × Nat) := match zm M with
  | none => none
  | some mi => match decode mi.2.2.1 pc with
    | .ok q => some q
    | .error _ => none
def zfld (own idx : Nat) : Option (Nat × Nat × Nat × Nat × Nat) := zfl.find? fun q => q.1 == own && q.2.1 == idx
def zjfd (own idx : Nat) : Option (Nat × Nat × Nat × Nat) := zjfl.find? fun q => q.1 == own && q.2.1 == idx
def zsfd (own idx : Nat) : Option (Nat × Nat × Nat × Nat) := zsfl.find? fun q => q.1 == own && q.2.1 == idx
def zcal (own idx : Nat) : Option (Nat × Nat × Nat × Bool × Nat) := zcl.find? fun q => q.1 == own && q.2.1 == idx
def zoil (own idx : Nat) : Option (Nat × Nat × Nat) := zol.find? fun q => q.1 == own && q.2.1 == idx
def zacl (own idx : Nat) : Option (Nat × Nat × Nat) := zal.find? fun q => q.1 == own && q.2.1 == idx
def zmxl (own idx : Nat) : Option (Nat × Nat × Nat × Nat) := zxl.find? fun q => q.1 == own && q.2.1 == idx
def zkln (own idx : Nat) : Option (Nat × Nat × Nat × Nat) := zkl.find? fun q => q.1 == own && q.2.1 == idx
def znum (own idx : Nat) : Option (Nat × Nat × Int32 × Nat) := znl.find? fun q => q.1 == own && q.2.1 == idx
def zlng (own idx : Nat) : Option (Nat × Nat × Int64 × Nat) := zjl.find? fun q => q.1 == own && q.2.1 == idx
def zstr (own idx : Nat) : Option Nat := zsl.findIdx? fun q => q.1 == own && q.2.1 == idx
/-- arrays that the program doesn't make: of ints (true) or bytes, how long, what -/
def zxt (x : zXs) (k : Nat) : Option (Bool × Nat × (Nat → Int32)) := if k = 0 then some (true, 6, fun j => ([-1, 0, 0, 1, 2, 0] : List Int32).getD j 0) else if k = 50 then (if x.1 ≤ 3072 then some (true, x.1, x.2) else none) else match zbl[k - 1]? with
  | some l => some (false, l.length, fun j => l.getD j 0)
  | none => none
def zisr : Value → Bool
  | .ref _ => true
  | .float _ => true
  | .double _ => true
  | _ => false
def zcat : Value → Nat
  | .long _ => 2
  | _ => 1
def zgt (ls : zLs) (i : Nat) : Option Value := match ls[i]? with
  | some o => o
  | none => none
def zpj (pc : Nat) (off : Int) : Option Nat := if 0 ≤ (pc : Int) + off then some ((pc : Int) + off).toNat else none
def zld (i : Nat) (ok : Value → Bool) (n : Nat) (ls : zLs) (st : List Value) (F : zF) (G : zG) : Option zCf := match zgt ls i with
  | some v => if ok v = true then some (n, ls, v :: st, F, G) else none
  | none => none
def zki : Value → Bool
  | .int _ => true
  | _ => false
def zkl2 : Value → Bool
  | .long _ => true
  | _ => false
/-- storing one slot; the places that hold longs are told ahead -/
def zst1 (i : Nat) (ok : Value → Bool) (LS : List Nat) (n : Nat) (ls : zLs) (st : List Value) (F : zF) (G : zG) : Option zCf := match st with
  | v :: rest => if ok v = true ∧ i < ls.length ∧ (∀ j ∈ LS, j + 1 ≠ i ∧ j ≠ i) then some (n, ls.set i (some v), rest, F, G) else none
  | [] => none
def zst2 (i : Nat) (LS : List Nat) (n : Nat) (ls : zLs) (st : List Value) (F : zF) (G : zG) : Option zCf := match st with
  | .long v :: rest => if i + 1 < ls.length ∧ i ∈ LS ∧ (∀ j ∈ LS, j + 1 ≠ i ∧ j ≠ i + 1) then some (n, (ls.set i (some (.long v))).set (i + 1) none, rest, F, G) else none
  | _ => none
def zint (n : Nat) (v : Int32) (ls : zLs) (st : List Value) (F : zF) (G : zG) : Option zCf := some (n, ls, .int v :: st, F, G)
def zbin (f : Int32 → Int32 → Option Int32) (n : Nat) (ls : zLs) (st : List Value) (F : zF) (G : zG) : Option zCf := match st with
  | .int y :: .int x :: rest => match f x y with
    | some v => some (n, ls, .int v :: rest, F, G)
    | none => none
  | _ => none
def zbin2 (f : Int64 → Int64 → Option Int64) (n : Nat) (ls : zLs) (st : List Value) (F : zF) (G : zG) : Option zCf := match st with
  | .long y :: .long x :: rest => match f x y with
    | some v => some (n, ls, .long v :: rest, F, G)
    | none => none
  | _ => none
def zun (f : Int32 → Value) (n : Nat) (ls : zLs) (st : List Value) (F : zF) (G : zG) : Option zCf := match st with
  | .int x :: rest => some (n, ls, f x :: rest, F, G)
  | _ => none
def zc0 (c : ClassFile.Cond) (x y : Int32) : Bool := match c with
  | .eq => decide (x = y)
  | .ne => !decide (x = y)
  | .lt => decide (x < y)
  | .ge => decide (y ≤ x)
  | .gt => decide (y < x)
  | .le => decide (x ≤ y)
def zbr (t : Bool) (pc : Nat) (off : Int) (ls : zLs) (st : List Value) (F : zF) (G : zG) : Option zCf := match zpj pc off with
  | some tg => if t = true then some (tg, ls, st, F, G) else some (pc + 3, ls, st, F, G)
  | none => none
def zix (i : Int32) (n : Nat) : Bool := decide (¬ (i < 0 ∨ n ≤ i.toNatClampNeg))
def zgf (ci k : Nat) (n : Nat) (ls : zLs) (st : List Value) (F : zF) (G : zG) : Option zCf := match st with
  | .ref a :: rest => if zsh F a = ci ∧ k < zN ci ∧ ci < 9 then match zty ci k with
    | .int => some (n, ls, .int (G.1 a k) :: rest, F, G)
    | .boolean => some (n, ls, .int (G.1 a k) :: rest, F, G)
    | .long => some (n, ls, .long (G.2 a k) :: rest, F, G)
    | .object _ => match zrf F a k with
      | some b => some (n, ls, .ref b :: rest, F, G)
      | none => none
    | .array _ => match zrf F a k with
      | some b => some (n, ls, .ref b :: rest, F, G)
      | none => none
    | _ => none else none
  | _ => none
def zgj (k : Nat) (n : Nat) (ls : zLs) (st : List Value) (F : zF) (G : zG) : Option zCf := match st with
  | .float s :: rest => if s.toNat < 12 then if k = 0 then some (n, ls, .double (UInt64.ofNat (1 + s.toNat)) :: rest, F, G) else some (n, ls, .int 0 :: rest, F, G) else none
  | _ => none
def zputr (F : zF) (a k b : Nat) : zF := (F.1, F.2.1, F.2.2.1, F.2.2.2.1, zu F.2.2.2.2 a k (some b))
def zpf (own ci k : Nat) (isI : Bool) (n : Nat) (ls : zLs) (st : List Value) (F : zF) (G : zG) : Option zCf := match st with
  | .int v :: .ref a :: rest => if zsh F a = ci ∧ k < zN ci ∧ ci < 9 ∧ (zT ci k).2.2.2 = false then match zty ci k with
    | .int => some (n, ls, rest, F, (zu G.1 a k v, G.2))
    | .boolean => if narrow .boolean (.int v) = .int v then some (n, ls, rest, F, (zu G.1 a k v, G.2)) else none
    | _ => none else none
  | .long v :: .ref a :: rest => if zsh F a = ci ∧ k < zN ci ∧ ci < 9 ∧ (zT ci k).2.2.2 = false then match zty ci k with
    | .long => some (n, ls, rest, F, (G.1, zu G.2 a k v))
    | _ => none else none
  | .ref b :: .ref a :: rest => if zsh F a = ci ∧ k < zN ci ∧ ci < 9 ∧ (zT ci k).2.2.2 = true ∧ isI = true ∧ own = ci then match zty ci k with
    | .object _ => some (n, ls, rest, zputr F a k b, G)
    | .array _ => some (n, ls, rest, zputr F a k b, G)
    | _ => none else none
  | _ => none
def znewF (F : zF) (sh len : Nat) : zF := (F.1 + 1, F.2.1 + len, zur F.2.2.1 F.1 sh, zur F.2.2.2.1 F.1 len, zur F.2.2.2.2 F.1 (fun _ => none))
def znewG (F : zF) (G : zG) : zG := (zur G.1 F.1 (fun _ => 0), zur G.2 F.1 (fun _ => 0))
def zcpy (V : Nat → Nat → Int32) (a b sp dp n : Nat) : Nat → Nat → Int32 := zur V b (va_cpy (V a) (V b) sp dp n)
def zacp (F : zF) (G : zG) (st : List Value) : Option (List Value × zG) := match st with
  | .int n :: .int dp :: .ref b :: .int sp :: .ref a :: rest => if zsh F a = 100 ∧ zsh F b = 100 ∧ ¬ sp < 0 ∧ ¬ dp < 0 ∧ ¬ n < 0 ∧ sp.toNatClampNeg + n.toNatClampNeg ≤ zln F a ∧ dp.toNatClampNeg + n.toNatClampNeg ≤ zln F b ∧ (rest.map zcat).sum ≤ 8 then some (rest, (zcpy G.1 a b sp.toNatClampNeg dp.toNatClampNeg n.toNatClampNeg, G.2)) else none
  | _ => none
def zoi (F : zF) (st : List Value) : Option (List Value) := match st with
  | .ref a :: rest => if zsh F a < 9 ∧ (rest.map zcat).sum ≤ 8 then some rest else none
  | _ => none
/-- what goes on in the same frame -/
def zsi (x : zXs) (own : Nat) (LS : List Nat) (isI : Bool) (op : Instr) (len pc : Nat) (ls : zLs) (st : List Value) (F : zF) (G : zG) : Option zCf := match op with
  | .iconst n => if len = 1 then zint (pc + 1) (Int32.ofInt n) ls st F G else none
  | .bipush n => if len = 2 then zint (pc + 2) (Int8.ofInt n).toInt32 ls st F G else none
  | .sipush n => if len = 3 then zint (pc + 3) (Int16.ofInt n).toInt32 ls st F G else none
  | .lconst n => if len = 1 then some (pc + 1, ls, .long (Int64.ofNat (n : Nat)) :: st, F, G) else none
  | .ldc idx => if len = 2 then match znum own idx with
    | some q => zint (pc + 2) q.2.2.1 ls st F G
    | none => match zstr own idx with
      | some k => some (pc + 2, ls, .float (UInt32.ofNat k) :: st, F, G)
      | none => none else none
  | .ldc_w idx => if len = 3 then match znum own idx with
    | some q => zint (pc + 3) q.2.2.1 ls st F G
    | none => none else none
  | .ldc2_w idx => if len = 3 then match zlng own idx with
    | some q => some (pc + 3, ls, .long q.2.2.1 :: st, F, G)
    | none => none else none
  | .iload_n k => if len = 1 then zld (k : Nat) zki (pc + 1) ls st F G else none
  | .iload i => if len = 2 then zld i zki (pc + 2) ls st F G else none
  | .lload_n k => if len = 1 then zld (k : Nat) zkl2 (pc + 1) ls st F G else none
  | .lload i => if len = 2 then zld i zkl2 (pc + 2) ls st F G else none
  | .aload_n k => if len = 1 then zld (k : Nat) zisr (pc + 1) ls st F G else none
  | .aload i => if len = 2 then zld i zisr (pc + 2) ls st F G else none
  | .istore_n k => if len = 1 then zst1 (k : Nat) zki LS (pc + 1) ls st F G else none
  | .istore i => if len = 2 then zst1 i zki LS (pc + 2) ls st F G else none
  | .astore_n k => if len = 1 then zst1 (k : Nat) zisr LS (pc + 1) ls st F G else none
  | .astore i => if len = 2 then zst1 i zisr LS (pc + 2) ls st F G else none
  | .lstore_n k => if len = 1 then zst2 (k : Nat) LS (pc + 1) ls st F G else none
  | .lstore i => if len = 2 then zst2 i LS (pc + 2) ls st F G else none
  | .iinc i n => if len = 3 then match zgt ls i with
    | some (.int v) => if i < ls.length ∧ (∀ j ∈ LS, j + 1 ≠ i ∧ j ≠ i) then some (pc + 3, ls.set i (some (.int (v + Int32.ofInt n))), st, F, G) else none
    | _ => none else none
  | .iadd => if len = 1 then zbin (fun x y => some (x + y)) (pc + 1) ls st F G else none
  | .isub => if len = 1 then zbin (fun x y => some (x - y)) (pc + 1) ls st F G else none
  | .imul => if len = 1 then zbin (fun x y => some (x * y)) (pc + 1) ls st F G else none
  | .iand => if len = 1 then zbin (fun x y => some (x &&& y)) (pc + 1) ls st F G else none
  | .ior => if len = 1 then zbin (fun x y => some (x ||| y)) (pc + 1) ls st F G else none
  | .ixor => if len = 1 then zbin (fun x y => some (x ^^^ y)) (pc + 1) ls st F G else none
  | .ishl => if len = 1 then zbin (fun x y => some (x <<< (y &&& 31))) (pc + 1) ls st F G else none
  | .ishr => if len = 1 then zbin (fun x y => some (x >>> (y &&& 31))) (pc + 1) ls st F G else none
  | .iushr => if len = 1 then zbin (fun x y => some (x.toUInt32 >>> (y.toUInt32 &&& Int32.toUInt32 31)).toInt32) (pc + 1) ls st F G else none
  | .idiv => if len = 1 then zbin (fun x y => if y = 0 then none else some (x / y)) (pc + 1) ls st F G else none
  | .irem => if len = 1 then zbin (fun x y => if y = 0 then none else some (x - x / y * y)) (pc + 1) ls st F G else none
  | .ineg => if len = 1 then zun (fun x => .int (-x)) (pc + 1) ls st F G else none
  | .i2l => if len = 1 then zun (fun x => .long x.toInt64) (pc + 1) ls st F G else none
  | .i2b => if len = 1 then zun (fun x => .int x.toInt8.toInt32) (pc + 1) ls st F G else none
  | .i2s => if len = 1 then zun (fun x => .int x.toInt16.toInt32) (pc + 1) ls st F G else none
  | .i2c => if len = 1 then zun (fun x => .int (x.toUInt32 % 65536).toInt32) (pc + 1) ls st F G else none
  | .l2i => if len = 1 then match st with
    | .long v :: rest => some (pc + 1, ls, .int v.toInt32 :: rest, F, G)
    | _ => none else none
  | .ladd => if len = 1 then zbin2 (fun x y => some (x + y)) (pc + 1) ls st F G else none
  | .lsub => if len = 1 then zbin2 (fun x y => some (x - y)) (pc + 1) ls st F G else none
  | .lmul => if len = 1 then zbin2 (fun x y => some (x * y)) (pc + 1) ls st F G else none
  | .ldiv => if len = 1 then zbin2 (fun x y => if y = 0 then none else some (x / y)) (pc + 1) ls st F G else none
  | .lrem => if len = 1 then zbin2 (fun x y => if y = 0 then none else some (x - x / y * y)) (pc + 1) ls st F G else none
  | .lcmp => if len = 1 then match st with
    | .long y :: .long v :: rest => some (pc + 1, ls, .int (lg_cmp v y) :: rest, F, G)
    | _ => none else none
  | .dup => if len = 1 then match st with
    | v :: rest => if zcat v = 1 then some (pc + 1, ls, v :: v :: rest, F, G) else none
    | _ => none else none
  | .pop => if len = 1 then match st with
    | v :: rest => if zcat v = 1 then some (pc + 1, ls, rest, F, G) else none
    | _ => none else none
  | .dup2 => if len = 1 then match st with
    | v :: w :: rest => if zcat v = 1 ∧ zcat w = 1 then some (pc + 1, ls, v :: w :: v :: w :: rest, F, G) else none
    | _ => none else none
  | .ifCond c off => if len = 3 then match st with
    | .int v :: rest => zbr (zc0 c v 0) pc off ls rest F G
    | _ => none else none
  | .if_icmp c off => if len = 3 then match st with
    | .int y :: .int v :: rest => zbr (zc0 c v y) pc off ls rest F G
    | _ => none else none
  | .goto off => if len = 3 then match zpj pc off with
    | some tg => some (tg, ls, st, F, G)
    | none => none else none
  | .tableswitch d lo hi offs => match st with
    | .int v :: rest => if v.toInt < lo ∨ hi < v.toInt then match zpj pc d with
        | some tg => some (tg, ls, rest, F, G)
        | none => none
      else match offs[(v.toInt - lo).toNat]? with
        | some off => match zpj pc off with
          | some tg => some (tg, ls, rest, F, G)
          | none => none
        | none => none
    | _ => none
  | .lookupswitch d ps => match st with
    | .int v :: rest => if (ps.toList.zip (ps.toList.drop 1)).all (fun (a, next) => a.1 < next.1) = true then match zpj pc (Op.lookupswitch.offset ps.toList d v.toInt) with
        | some tg => some (tg, ls, rest, F, G)
        | none => none else none
    | _ => none
  | .getfield idx => if len = 3 then match zfld own idx with
    | some q => zgf q.2.2.1 q.2.2.2.1 (pc + 3) ls st F G
    | none => match zjfd own idx with
      | some q => zgj q.2.2.1 (pc + 3) ls st F G
      | none => none else none
  | .putfield idx => if len = 3 then match zfld own idx with
    | some q => zpf own q.2.2.1 q.2.2.2.1 isI (pc + 3) ls st F G
    | none => none else none
  | .getstatic idx => if len = 3 then match zsfd own idx with
    | some q => some (pc + 3, ls, (if q.2.2.1 = 0 then .int 1 else if q.2.2.1 = 1 then .double 0 else .retAddr 0) :: st, F, G)
    | none => none else none
  | .arraylength => if len = 1 then match st with
    | .ref a :: rest => if 100 ≤ zsh F a ∧ zsh F a < 104 then some (pc + 1, ls, .int (Int32.ofNat (zln F a)) :: rest, F, G) else none
    | .double k :: rest => match zxt x k.toNat with
      | some q => some (pc + 1, ls, .int (Int32.ofNat q.2.1) :: rest, F, G)
      | none => none
    | _ => none else none
  | .iaload => if len = 1 then match st with
    | .int i :: .ref a :: rest => if zsh F a = 100 ∧ zix i (zln F a) = true then some (pc + 1, ls, .int (G.1 a i.toNatClampNeg) :: rest, F, G) else none
    | .int i :: .double k :: rest => match zxt x k.toNat with
      | some q => if q.1 = true ∧ zix i q.2.1 = true then some (pc + 1, ls, .int (q.2.2 i.toNatClampNeg) :: rest, F, G) else none
      | none => none
    | _ => none else none
  | .baload => if len = 1 then match st with
    | .int i :: .ref a :: rest => if zsh F a = 101 ∧ zix i (zln F a) = true then some (pc + 1, ls, .int (G.1 a i.toNatClampNeg) :: rest, F, G) else none
    | .int i :: .double k :: rest => match zxt x k.toNat with
      | some q => if q.1 = false ∧ zix i q.2.1 = true then some (pc + 1, ls, .int (q.2.2 i.toNatClampNeg) :: rest, F, G) else none
      | none => none
    | _ => none else none
  | .aaload => if len = 1 then match st with
    | .int i :: .ref a :: rest => if (zsh F a = 102 ∨ zsh F a = 103) ∧ zix i (zln F a) = true then match zrf F a i.toNatClampNeg with
      | some b => some (pc + 1, ls, .ref b :: rest, F, G)
      | none => none else none
    | _ => none else none
  | .iastore => if len = 1 then match st with
    | .int v :: .int i :: .ref a :: rest => if zsh F a = 100 ∧ zix i (zln F a) = true then some (pc + 1, ls, rest, F, (zu G.1 a i.toNatClampNeg v, G.2)) else none
    | _ => none else none
  | .bastore => if len = 1 then match st with
    | .int v :: .int i :: .ref a :: rest => if zsh F a = 101 ∧ zix i (zln F a) = true then some (pc + 1, ls, rest, F, (zu G.1 a i.toNatClampNeg (vp_nar .boolean v), G.2)) else none
    | _ => none else none
  | .aastore => if len = 1 then match st with
    | .ref b :: .int i :: .ref a :: rest => if ((zsh F a = 102 ∧ zsh F b = 6) ∨ (zsh F a = 103 ∧ zsh F b = 3)) ∧ zix i (zln F a) = true then some (pc + 1, ls, rest, zputr F a i.toNatClampNeg b, G) else none
    | _ => none else none
  | .newarray t => if len = 2 then match st with
    | .int v :: rest => if ¬ v < 0 ∧ v.toNatClampNeg ≤ 100000 ∧ (t = .int ∨ t = .boolean) then some (pc + 2, ls, .ref F.1 :: rest, znewF F (if t = .int then 100 else 101) v.toNatClampNeg, znewG F G) else none
    | _ => none else none
  | .anewarray idx => if len = 3 then match st with
    | .int v :: rest => match zkln own idx with
      | some q => if ¬ v < 0 ∧ v.toNatClampNeg ≤ 100000 ∧ (q.2.2.1 = 6 ∨ q.2.2.1 = 3) then some (pc + 3, ls, .ref F.1 :: rest, znewF F (if q.2.2.1 = 6 then 102 else 103) v.toNatClampNeg, znewG F G) else none
      | none => none
    | _ => none else none
  | .invokestatic idx => if len = 3 then match zmxl own idx with
    | some q => match st with
      | .int y :: .int v :: rest => if (rest.map zcat).sum ≤ 8 then if q.2.2.1 = 1 then some (pc + 3, ls, .int (if v < y then y else v) :: rest, F, G) else some (pc + 3, ls, .int (if y < v then y else v) :: rest, F, G) else none
      | _ => none
    | none => match zacl own idx with
      | some _ => match zacp F G st with
        | some q => some (pc + 3, ls, q.1, F, q.2)
        | none => none
      | none => none else none
  | .invokespecial idx => if len = 3 then match zoil own idx with
    | some _ => match zoi F st with
      | some rest => some (pc + 3, ls, rest, F, G)
      | none => none
    | none => none else none
  | .new idx => if len = 3 then match zkln own idx with
    | some q => if q.2.2.1 < 9 then some (pc + 3, ls, .ref F.1 :: st, znewF F q.2.2.1 (zN q.2.2.1), znewG F G) else none
    | none => none else none
  | _ => none
/-- a call of a method of the table -/
def zck (own : Nat) (op : Instr) : Option (Nat × Nat × Nat × Bool × Nat) := match op with
  | .invokestatic idx => zcal own idx
  | .invokevirtual idx => zcal own idx
  | .invokespecial idx => zcal own idx
  | _ => none
/-- which way it is called: 0 static, 1 virtual, 2 special -/
def zway (op : Instr) : Nat := match op with
  | .invokestatic _ => 0
  | .invokevirtual _ => 1
  | _ => 2
def zent (maxL : Nat) (as : List Value) : zLs := (as.flatMap fun v => if zcat v = 2 then [some v, none] else [some v]) ++ List.replicate (maxL - (as.flatMap fun v => if zcat v = 2 then [some v, none] else [some v]).length) none
def zlok (LS : List Nat) : Nat → zLs → Bool
  | _, [] => true
  | i, o :: ls => (match o with
    | some v => zcat v != 2 || LS.contains i
    | none => true) && zlok LS (i + 1) ls
def zok1 (F : zF) (mi : zE) (as : List Value) : Bool := match as with
  | .ref a :: _ => zsh F a == mi.1 && decide (mi.1 < 9)
  | .float k :: _ => mi.1 == 11 && decide (k.toNat < 12)
  | _ => false
def zrt (mi : zE) (op : Instr) (len : Nat) (st : List Value) : Option (Option Value) := if len = 1 then match op with
    | .ireturn => match st with
      | [.int v] => match mi.2.2.2.2.1 with
        | some ty => if narrow ty (.int v) = .int v ∧ (ty = .int ∨ ty = .boolean ∨ ty = .char ∨ ty = .byte) then some (some (.int v)) else none
        | none => none
      | _ => none
    | .lreturn => match st with
      | [.long v] => if mi.2.2.2.2.1 = some .long then some (some (.long v)) else none
      | _ => none
    | .areturn => match st with
      | [v] => if zisr v = true then match mi.2.2.2.2.1 with
        | some (.object _) => some (some v)
        | _ => none else none
      | _ => none
    | .return_ => match st with
      | [] => if mi.2.2.2.2.1 = none then some none else none
      | _ => none
    | _ => none
  else none
/-- what a call finds: the method, its arguments, what stays on the stack -/
def zca (F : zF) (m : Nat) (way : Nat) (st : List Value) : Option (zE × List Value × List Value) := match zm m with
  | none => none
  | some mi => if mi.2.2.2.2.2.2.1 ≤ st.length ∧ ((st.drop mi.2.2.2.2.2.2.1).map zcat).sum ≤ 8 ∧ (mi.2.2.2.2.2.1 = true ↔ way = 0) ∧ (mi.2.1.name = "<init>" ↔ way = 2) ∧ (way = 0 ∨ zok1 F mi (st.take mi.2.2.2.2.2.2.1).reverse = true) ∧ (zent mi.2.2.2.1 (st.take mi.2.2.2.2.2.2.1).reverse).length = mi.2.2.2.1 ∧ zlok mi.2.2.2.2.2.2.2.1 0 (zent mi.2.2.2.1 (st.take mi.2.2.2.2.2.2.1).reverse) = true ∧ m + 1 < zml.length then some (mi, (st.take mi.2.2.2.2.2.2.1).reverse, st.drop mi.2.2.2.2.2.2.1) else none
/-- the evaluator: fuel, depth -/
def zev (x : zXs) : Nat → Nat → Nat → Nat → zLs → List Value → zF → zG → Option (Option Value × zF × zG)
  | 0, _, _, _, _, _, _, _ => none
  | n + 1, d, M, pc, ls, st, F, G => match zm M with
    | none => none
    | some mi => match zop M pc with
      | none => none
      | some (op, len) => match zck mi.1 op with
        | some q => match d with
          | 0 => none
          | d + 1 => if len = 3 then match zca F q.2.2.1 (zway op) st with
            | some (mj, as, rest) => match zev x n d q.2.2.1 0 (zent mj.2.2.2.1 as) [] F G with
              | some (r, F1, G1) => zev x n (d + 1) M (pc + 3) ls (r.toList ++ rest) F1 G1
              | none => none
            | none => none else none
        | none => match zrt mi op len st with
          | some r => some (r, F, G)
          | none => match zsi x mi.1 mi.2.2.2.2.2.2.2.1 (mi.2.1.name == "<init>") op len pc ls st F G with
            | some (pc1, ls1, st1, F1, G1) => zev x n d M pc1 ls1 st1 F1 G1
            | none => none
end
section
/-! What the tables say, word by word. -/
def ztb : List Cond := lw_tbl.filter goodWord
def zin (i : Nat) (w : Cond) : Bool := decide (lw_tbl[i]? = some w) && goodWord w
theorem zin_mem {i : Nat} {w : Cond} (h : zin i w = true) : w ∈ ztb := by
  unfold zin at h
  rw [Bool.and_eq_true, decide_eq_true_eq] at h
  exact List.mem_filter.mpr ⟨List.mem_of_getElem? h.1, h.2⟩
theorem ztb_good {w : Cond} (h : w ∈ ztb) : w ∈ lw_tbl ∧ ((w.onTables && w.keeps) = true ∨ ∃ ty, w = .arrayClass ty) := ⟨(List.mem_filter.mp h).1, good_of_word (List.mem_filter.mp h).2⟩
theorem z_find {α : Type} {l : List α} {p q : α → Bool} (hl : l.all q = true) {a : α} (h : l.find? p = some a) : q a = true ∧ p a = true ∧ a ∈ l :=
  ⟨List.all_eq_true.mp hl a (List.mem_of_find?_eq_some h), List.find?_some h, List.mem_of_find?_eq_some h⟩
-- fields
theorem zfl_all : zfl.all (fun q => zin q.2.2.2.2 (.fieldLink (zC q.1) q.2.1 (zT q.2.2.1 q.2.2.2.1).1 (zT q.2.2.1 q.2.2.2.1).2.1 (zT q.2.2.1 q.2.2.2.1).2.2.1) && (decide (q.2.2.1 < 9) && decide (q.2.2.2.1 < zN q.2.2.1))) = true := by decide +kernel
theorem z_fld {own idx : Nat} {q : Nat × Nat × Nat × Nat × Nat} (h : zfld own idx = some q) : Cond.fieldLink (zC own) idx (zT q.2.2.1 q.2.2.2.1).1 (zT q.2.2.1 q.2.2.2.1).2.1 (zT q.2.2.1 q.2.2.2.1).2.2.1 ∈ ztb ∧ q.2.2.1 < 9 ∧ q.2.2.2.1 < zN q.2.2.1 := by
  obtain ⟨h1, h2, -⟩ := z_find zfl_all h
  simp only [Bool.and_eq_true, beq_iff_eq, decide_eq_true_eq] at h1 h2
  obtain ⟨rfl, rfl⟩ := h2
  exact ⟨zin_mem h1.1, h1.2.1, h1.2.2⟩
theorem zjfl_all : zjfl.all (fun q => q.2.2.1 == 0 && zin q.2.2.2 (.fieldLink (zC q.1) q.2.1 "java/lang/String" "value" "[B") || q.2.2.1 == 1 && zin q.2.2.2 (.fieldLink (zC q.1) q.2.1 "java/lang/String" "coder" "B")) = true := by decide +kernel
theorem z_jfd {own idx : Nat} {q : Nat × Nat × Nat × Nat} (h : zjfd own idx = some q) : (q.2.2.1 = 0 ∧ Cond.fieldLink (zC own) idx "java/lang/String" "value" "[B" ∈ ztb) ∨ (q.2.2.1 = 1 ∧ Cond.fieldLink (zC own) idx "java/lang/String" "coder" "B" ∈ ztb) := by
  obtain ⟨h1, h2, -⟩ := z_find zjfl_all h
  simp only [Bool.and_eq_true, Bool.or_eq_true, beq_iff_eq] at h1 h2
  obtain ⟨rfl, rfl⟩ := h2
  rcases h1 with h1 | h1
  · exact Or.inl ⟨h1.1, zin_mem h1.2⟩
  · exact Or.inr ⟨h1.1, zin_mem h1.2⟩
theorem zsfl_all : zsfl.all (fun q => q.2.2.1 == 0 && zin q.2.2.2 (.fieldLink (zC q.1) q.2.1 "java/lang/String" "COMPACT_STRINGS" "Z") || (q.2.2.1 == 1 && zin q.2.2.2 (.fieldLink (zC q.1) q.2.1 "GleanersForGaps" "KIND_ABOVE" "[I") || q.2.2.1 == 2 && zin q.2.2.2 (.fieldLink (zC q.1) q.2.1 "jdk/internal/util/Preconditions" "SIOOBE_FORMATTER" "Ljava/util/function/BiFunction;"))) = true := by decide +kernel
theorem z_sfd {own idx : Nat} {q : Nat × Nat × Nat × Nat} (h : zsfd own idx = some q) : (q.2.2.1 = 0 ∧ Cond.fieldLink (zC own) idx "java/lang/String" "COMPACT_STRINGS" "Z" ∈ ztb) ∨ (q.2.2.1 = 1 ∧ Cond.fieldLink (zC own) idx "GleanersForGaps" "KIND_ABOVE" "[I" ∈ ztb) ∨ (q.2.2.1 = 2 ∧ Cond.fieldLink (zC own) idx "jdk/internal/util/Preconditions" "SIOOBE_FORMATTER" "Ljava/util/function/BiFunction;" ∈ ztb) := by
  obtain ⟨h1, h2, -⟩ := z_find zsfl_all h
  simp only [Bool.and_eq_true, Bool.or_eq_true, beq_iff_eq] at h1 h2
  obtain ⟨rfl, rfl⟩ := h2
  rcases h1 with h1 | h1 | h1
  · exact Or.inl ⟨h1.1, zin_mem h1.2⟩
  · exact Or.inr (Or.inl ⟨h1.1, zin_mem h1.2⟩)
  · exact Or.inr (Or.inr ⟨h1.1, zin_mem h1.2⟩)
-- numbers, texts
theorem znl_all : znl.all (fun q => zin q.2.2.2 (.constant (zC q.1) q.2.1 q.2.2.1)) = true := by decide +kernel
theorem z_num {own idx : Nat} {q : Nat × Nat × Int32 × Nat} (h : znum own idx = some q) : Cond.constant (zC own) idx q.2.2.1 ∈ ztb := by
  obtain ⟨h1, h2, -⟩ := z_find znl_all h
  simp only [Bool.and_eq_true, beq_iff_eq] at h2
  obtain ⟨rfl, rfl⟩ := h2
  exact zin_mem h1
theorem zjl_all : zjl.all (fun q => zin q.2.2.2 (.constantLong (zC q.1) q.2.1 q.2.2.1)) = true := by decide +kernel
theorem z_lng {own idx : Nat} {q : Nat × Nat × Int64 × Nat} (h : zlng own idx = some q) : Cond.constantLong (zC own) idx q.2.2.1 ∈ ztb := by
  obtain ⟨h1, h2, -⟩ := z_find zjl_all h
  simp only [Bool.and_eq_true, beq_iff_eq] at h2
  obtain ⟨rfl, rfl⟩ := h2
  exact zin_mem h1
theorem zsl_len : zsl.length = 12 ∧ zbl.length = 12 := by decide +kernel
theorem z_str {own idx k : Nat} (h : zstr own idx = some k) : ∃ q, zsl[k]? = some q ∧ q.1 = own ∧ q.2.1 = idx ∧ k < 12 := by
  obtain ⟨hk, h1, -⟩ := List.findIdx?_eq_some_iff_getElem.mp h
  simp only [Bool.and_eq_true, beq_iff_eq] at h1
  exact ⟨zsl[k], List.getElem?_eq_getElem hk, h1.1, h1.2, by have := zsl_len.1; omega⟩
theorem zsl_all : zsl.all (fun q => decide (lw_tbl[q.2.2.2]? = some (.stringRef (zC q.1) q.2.1 q.2.2.1))) = true := by decide +kernel
-- fields of the classes
def zclw (ci : Nat) : vw_C := (zC ci, zT ci, zN ci)
abbrev zcs : List vw_C := (List.range 9).map zclw
theorem zcs_at {ci : Nat} (h : ci < 9) : zcs[ci]? = some (zclw ci) := by simp [zcs, h]
theorem zlay_all : ∀ ci, ci < 9 → ∀ k, k < zN ci → zin ((zLl.getD ci []).getD k 0) (u_lay (zC ci) (zT ci) k) = true := by decide +kernel
theorem z_uws {ci : Nat} (h : ci < 9) : ∀ w ∈ u_ws (zC ci) (zT ci) (zN ci), w ∈ ztb := by
  intro w hw
  obtain ⟨k, hk, rfl⟩ := List.mem_map.mp hw
  exact zin_mem (zlay_all ci h k (List.mem_range.mp hk))
theorem zty_ok : ∀ ci, ci < 9 → ∀ k, k < zN ci → parseFieldDescriptor (zT ci k).2.2.1 = some (zty ci k) := by decide +kernel
theorem znm_ok : ∀ ci, ci < 9 → ∀ a, a < zN ci → ∀ b, b < zN ci → a ≠ b → (zT ci a).2.1 ≠ (zT ci b).2.1 := by decide +kernel
theorem zdec_ok : ∀ ci, ci < 9 → ∀ k, k < zN ci → (zT ci k).1 = zC ci := by decide +kernel
theorem ztyk_ok : ∀ ci, ci < 9 → ∀ k, k < zN ci → (zty ci k = .int ∨ zty ci k = .boolean ∨ zty ci k = .long ∨ (zty ci k).isReference = true) := by decide +kernel
theorem zins_all : ∀ ci, ci < 9 → zin ((zIl.getD ci (0, 0)).1) (.instantiable (zC ci) (zN ci)) = true ∧ zin ((zIl.getD ci (0, 0)).2) (.initialized (zC ci)) = true := by decide +kernel
theorem z_ins {ci : Nat} (h : ci < 9) : Cond.instantiable (zC ci) (zN ci) ∈ ztb ∧ Cond.initialized (zC ci) ∈ ztb := ⟨zin_mem (zins_all ci h).1, zin_mem (zins_all ci h).2⟩
theorem zkl_all : zkl.all (fun q => zin q.2.2.2 (.classLink (zC q.1) q.2.1 (zC q.2.2.1))) = true := by decide +kernel
theorem z_kln {own idx : Nat} {q : Nat × Nat × Nat × Nat} (h : zkln own idx = some q) : Cond.classLink (zC own) idx (zC q.2.2.1) ∈ ztb := by
  obtain ⟨h1, h2, -⟩ := z_find zkl_all h
  simp only [Bool.and_eq_true, beq_iff_eq] at h2
  obtain ⟨rfl, rfl⟩ := h2
  exact zin_mem h1
theorem z_arr : Cond.arrayClass .int ∈ ztb ∧ Cond.arrayClass .boolean ∈ ztb ∧ Cond.arrayOver (.object "GleanersForGaps$Text") ∈ lw_tbl ∧ Cond.arrayOver (.object "GleanersForGaps$Sheet") ∈ lw_tbl := ⟨zin_mem (i := 154) (by decide +kernel), zin_mem (i := 1000) (by decide +kernel), List.mem_of_getElem? (i := 168) (by decide +kernel), List.mem_of_getElem? (i := 278) (by decide +kernel)⟩
theorem z_oiw : Cond.instanceMethod objectInit ∈ ztb ∧ Cond.code objectInit ⟨#[0xb1]⟩ 1 none ∈ ztb := ⟨zin_mem (i := 102) (by decide +kernel), zin_mem (i := 103) (by decide +kernel)⟩
theorem zol_all : zol.all (fun q => zin q.2.2 (.methodLink (zC q.1) q.2.1 objectInit)) = true := by decide +kernel
theorem z_oil {own idx : Nat} {q : Nat × Nat × Nat} (h : zoil own idx = some q) : Cond.methodLink (zC own) idx objectInit ∈ ztb := by
  obtain ⟨h1, h2, -⟩ := z_find zol_all h
  simp only [Bool.and_eq_true, beq_iff_eq] at h2
  obtain ⟨rfl, rfl⟩ := h2
  exact zin_mem h1
theorem z_acw : Cond.native arraycopyName ∈ ztb ∧ Cond.static arraycopyName ∈ ztb ∧ Cond.initialized "java/lang/System" ∈ ztb := ⟨zin_mem (i := 608) (by decide +kernel), zin_mem (i := 607) (by decide +kernel), zin_mem (i := 94) (by decide +kernel)⟩
theorem zal_all : zal.all (fun q => zin q.2.2 (.methodLink (zC q.1) q.2.1 arraycopyName)) = true := by decide +kernel
theorem z_acl {own idx : Nat} {q : Nat × Nat × Nat} (h : zacl own idx = some q) : Cond.methodLink (zC own) idx arraycopyName ∈ ztb := by
  obtain ⟨h1, h2, -⟩ := z_find zal_all h
  simp only [Bool.and_eq_true, beq_iff_eq] at h2
  obtain ⟨rfl, rfl⟩ := h2
  exact zin_mem h1
theorem zxl_all : zxl.all (fun q => q.2.2.1 == 1 && zin q.2.2.2 (.methodLink (zC q.1) q.2.1 Lib.Math.max.name) || q.2.2.1 == 0 && zin q.2.2.2 (.methodLink (zC q.1) q.2.1 Lib.Math.min.name)) = true := by decide +kernel
theorem z_mxl {own idx : Nat} {q : Nat × Nat × Nat × Nat} (h : zmxl own idx = some q) : (q.2.2.1 = 1 ∧ Cond.methodLink (zC own) idx Lib.Math.max.name ∈ ztb) ∨ (q.2.2.1 = 0 ∧ Cond.methodLink (zC own) idx Lib.Math.min.name ∈ ztb) := by
  obtain ⟨h1, h2, -⟩ := z_find zxl_all h
  simp only [Bool.and_eq_true, Bool.or_eq_true, beq_iff_eq] at h1 h2
  obtain ⟨rfl, rfl⟩ := h2
  rcases h1 with h1 | h1
  · exact Or.inl ⟨h1.1, zin_mem h1.2⟩
  · exact Or.inr ⟨h1.1, zin_mem h1.2⟩
theorem z_mxw : (Cond.static Lib.Math.max.name ∈ ztb ∧ Cond.code Lib.Math.max.name Lib.Math.max.code 2 (some .int) ∈ ztb) ∧ (Cond.static Lib.Math.min.name ∈ ztb ∧ Cond.code Lib.Math.min.name Lib.Math.min.code 2 (some .int) ∈ ztb) ∧ Cond.initialized "java/lang/Math" ∈ ztb := ⟨⟨zin_mem (i := 425) (by decide +kernel), zin_mem (i := 426) (by decide +kernel)⟩, ⟨zin_mem (i := 655) (by decide +kernel), zin_mem (i := 656) (by decide +kernel)⟩, zin_mem (i := 89) (by decide +kernel)⟩
-- methods
def zgood (mi : zE) : Bool := zin (mi.2.2.2.2.2.2.2.2.getD 0 0) (.code mi.2.1 mi.2.2.1 mi.2.2.2.1 mi.2.2.2.2.1) && (zin (mi.2.2.2.2.2.2.2.2.getD 1 0) (.initialized mi.2.1.cls) && ((if mi.2.2.2.2.2.1 = true then zin (mi.2.2.2.2.2.2.2.2.getD 2 0) (.static mi.2.1) else zin (mi.2.2.2.2.2.2.2.2.getD 2 0) (.instanceMethod mi.2.1) && (mi.2.1.name == "<init>" || zin (mi.2.2.2.2.2.2.2.2.getD 3 0) (.selects mi.2.1.cls mi.2.1 mi.2.1))) && (plainName mi.2.1.cls && (decide (mi.2.1.cls ≠ "java/lang/invoke/MethodHandle") && (decide (mi.2.1.cls ≠ "java/lang/invoke/VarHandle") && (decide ((parseMethodDescriptor mi.2.1.desc).map (fun d => d.parameters.length + (if mi.2.2.2.2.2.1 = true then 0 else 1)) = some mi.2.2.2.2.2.2.1) && (decide (mi.2.1.cls = zC mi.1) && (decide (mi.2.2.2.1 ≤ 40) && (mi.2.1.name != "<init>" || decide (mi.2.2.2.2.1 = none))))))))))
theorem zml_a0 : ((zml.drop 0).take 24).all zgood = true := by decide +kernel
theorem zml_a24 : ((zml.drop 24).take 24).all zgood = true := by decide +kernel
theorem zml_a48 : ((zml.drop 48).take 24).all zgood = true := by decide +kernel
theorem zml_a72 : ((zml.drop 72).take 24).all zgood = true := by decide +kernel
theorem zml_a96 : ((zml.drop 96).take 24).all zgood = true := by decide +kernel
theorem zml_a120 : ((zml.drop 120).take 24).all zgood = true := by decide +kernel
theorem zml_a144 : ((zml.drop 144).take 24).all zgood = true := by decide +kernel
theorem zml_a168 : ((zml.drop 168).take 24).all zgood = true := by decide +kernel
theorem zml_a192 : ((zml.drop 192).take 19).all zgood = true := by decide +kernel
theorem z_chunk {l : List zE} (k c : Nat) (h : ((l.drop k).take c).all zgood = true) {m : Nat} {mi : zE} (hm : l[m]? = some mi) (h1 : k ≤ m) (h2 : m < k + c) : zgood mi = true := by
  refine List.all_eq_true.mp h mi (List.mem_of_getElem? (i := m - k) ?_)
  rw [List.getElem?_take, if_pos (by omega), List.getElem?_drop, Nat.add_sub_cancel' h1]
  exact hm
theorem zml_len : zml.length = 212 := by decide +kernel
theorem z_mi {m : Nat} {mi : zE} (h : zm m = some mi) (hm : m + 1 < zml.length) : zgood mi = true := by
  rw [zml_len] at hm
  rcases Nat.lt_or_ge m 24 with q | q
  · exact z_chunk 0 24 zml_a0 h (by omega) (by omega)
  rcases Nat.lt_or_ge m 48 with q | q
  · exact z_chunk 24 24 zml_a24 h (by omega) (by omega)
  rcases Nat.lt_or_ge m 72 with q | q
  · exact z_chunk 48 24 zml_a48 h (by omega) (by omega)
  rcases Nat.lt_or_ge m 96 with q | q
  · exact z_chunk 72 24 zml_a72 h (by omega) (by omega)
  rcases Nat.lt_or_ge m 120 with q | q
  · exact z_chunk 96 24 zml_a96 h (by omega) (by omega)
  rcases Nat.lt_or_ge m 144 with q | q
  · exact z_chunk 120 24 zml_a120 h (by omega) (by omega)
  rcases Nat.lt_or_ge m 168 with q | q
  · exact z_chunk 144 24 zml_a144 h (by omega) (by omega)
  rcases Nat.lt_or_ge m 192 with q | q
  · exact z_chunk 168 24 zml_a168 h (by omega) (by omega)
  exact z_chunk 192 19 zml_a192 h (by omega) (by omega)
theorem zgood_of {mi : zE} (h : zgood mi = true) : (Cond.code mi.2.1 mi.2.2.1 mi.2.2.2.1 mi.2.2.2.2.1 ∈ ztb ∧ Cond.initialized mi.2.1.cls ∈ ztb) ∧ (mi.2.2.2.2.2.1 = true → Cond.static mi.2.1 ∈ ztb) ∧ (mi.2.2.2.2.2.1 = false → Cond.instanceMethod mi.2.1 ∈ ztb ∧ (mi.2.1.name ≠ "<init>" → Cond.selects mi.2.1.cls mi.2.1 mi.2.1 ∈ ztb)) ∧ plainName mi.2.1.cls = true ∧ (mi.2.1.cls ≠ "java/lang/invoke/MethodHandle" ∧ mi.2.1.cls ≠ "java/lang/invoke/VarHandle") ∧ (parseMethodDescriptor mi.2.1.desc).map (fun d => d.parameters.length + (if mi.2.2.2.2.2.1 = true then 0 else 1)) = some mi.2.2.2.2.2.2.1 ∧ mi.2.1.cls = zC mi.1 ∧ mi.2.2.2.1 ≤ 40 ∧ (mi.2.1.name = "<init>" → mi.2.2.2.2.1 = none) := by
  unfold zgood at h
  simp only [Bool.and_eq_true, decide_eq_true_eq] at h
  obtain ⟨h1, h2, h3, h4, h5, h6, h7, h8, h9, h10⟩ := h
  refine ⟨⟨zin_mem h1, zin_mem h2⟩, fun hs => ?_, fun hs => ?_, h4, ⟨h5, h6⟩, h7, h8, h9, fun hn => ?_⟩
  · rw [if_pos hs] at h3
    exact zin_mem h3
  · rw [if_neg (by rw [hs]; decide), Bool.and_eq_true] at h3
    refine ⟨zin_mem h3.1, fun hn => ?_⟩
    have h4 := h3.2
    rw [Bool.or_eq_true, beq_iff_eq] at h4
    rcases h4 with h4 | h4
    · exact absurd h4 hn
    · exact zin_mem h4
  · simp only [Bool.or_eq_true, bne_iff_ne, ne_eq, decide_eq_true_eq] at h10
    rcases h10 with h10 | h10
    · exact absurd hn h10
    · exact h10
-- calls
def znst (q : Nat × Nat × Nat × Bool × Nat) : Cond := .methodLinkNest (zC q.1) q.2.1 ((zml.getD q.2.2.1 (0, ⟨"", "", ""⟩, ⟨#[]⟩, 0, none, false, 0, [], [])).2.1) "GleanersForGaps"
theorem zcl_all : zcl.all (fun q => match zm q.2.2.1 with
  | none => false
  | some mi => if q.2.2.2.1 = true then decide (lw_tbl[q.2.2.2.2]? = some (.methodLinkNest (zC q.1) q.2.1 mi.2.1 "GleanersForGaps")) else zin q.2.2.2.2 (.methodLink (zC q.1) q.2.1 mi.2.1)) = true := by decide +kernel
theorem z_call {own idx : Nat} {q : Nat × Nat × Nat × Bool × Nat} {mi : zE} (h : zcal own idx = some q) (hm : zm q.2.2.1 = some mi) : (q.2.2.2.1 = true ∧ Cond.methodLinkNest (zC own) idx mi.2.1 "GleanersForGaps" ∈ lw_tbl) ∨ (q.2.2.2.1 = false ∧ Cond.methodLink (zC own) idx mi.2.1 ∈ ztb) := by
  obtain ⟨h1, h2, -⟩ := z_find zcl_all h
  simp only [Bool.and_eq_true, beq_iff_eq] at h2
  obtain ⟨rfl, rfl⟩ := h2
  rw [hm] at h1
  dsimp only at h1
  cases hq : q.2.2.2.1
  · rw [hq, if_neg (by decide)] at h1
    exact Or.inr ⟨rfl, zin_mem h1⟩
  · rw [hq, if_pos rfl, decide_eq_true_eq] at h1
    exact Or.inl ⟨rfl, List.mem_of_getElem? h1⟩
end
section
/-! How the small machine's state stands in the machine's heap. -/
abbrev zX : Type := (Nat × (Nat → Nat) × (Nat → Nat) × Value) × va_G × (Nat → ClassId) × Heap × zXs
def zB (c : zX) : Nat := c.1.1
def zaK (c : zX) : Nat → Nat := c.1.2.1
def zaV (c : zX) : Nat → Nat := c.1.2.2.1
def zfm (c : zX) : Value := c.1.2.2.2
def zD (c : zX) : va_G := c.2.1
def zcA (c : zX) : Nat → ClassId := c.2.2.1
def zH0 (c : zX) : Heap := c.2.2.2.1
def zxs (c : zX) : zXs := c.2.2.2.2
def ztr (c : zX) : Value → Value
  | .ref a => .ref (zB c + a)
  | .float k => .ref (zaK c k.toNat)
  | .double k => .ref (zaV c k.toNat)
  | .retAddr _ => zfm c
  | v => v
def zrv (c : zX) (o : Option Nat) : Value := va_rf (o.map fun b => zB c + b)
def zfv (c : zX) (F : zF) (G : zG) (ci a k : Nat) : Value := match zty ci k with
  | .int => .int (G.1 a k)
  | .boolean => .int (G.1 a k)
  | .long => .long (G.2 a k)
  | _ => zrv c (zrf F a k)
def zfs (c : zX) (F : zF) (G : zG) (ci a : Nat) : List Value := (List.range (zN ci)).map (zfv c F G ci a)
def zrl (c : zX) (F : zF) (a : Nat) : Nat → Option Nat := fun j => (zrf F a j).map fun b => zB c + b
abbrev zA (c : zX) : Nat → Prop := fun q => zB c ≤ q
def zelt (t : Nat) : FieldType := match t with
  | 0 => .int
  | 1 => .boolean
  | 2 => .object "GleanersForGaps$Text"
  | _ => .object "GleanersForGaps$Sheet"
def ztys (c : zX) : List (ClassId × FieldType) := [(zcA c 0, .int), (zcA c 1, .boolean), (zcA c 2, .object "GleanersForGaps$Text"), (zcA c 3, .object "GleanersForGaps$Sheet")]
theorem ztys_at {c : zX} {t : Nat} (h : t < 4) : (ztys c)[t]? = some (zcA c t, zelt t) := by
  match t, h with
  | 0, _ => rfl
  | 1, _ => rfl
  | 2, _ => rfl
  | 3, _ => rfl
def zI (c : zX) (F : zF) (G : zG) (H : Heap) : Prop :=
  H.size = zB c + F.1 ∧ (∀ q : Nat, q < zB c → H[q]? = (zH0 c)[q]?) ∧
  (∀ a ci : Nat, zsh F a = ci → ci < 9 → va_at (zD c) zcs (zB c + a, .inr (ci, zfs c F G ci a)) H) ∧
  (∀ a t : Nat, zsh F a = 100 + t → t < 2 → va_at (zD c) zcs (zB c + a, .inl (zcA c t, zln F a, .inl (G.1 a))) H) ∧
  (∀ a t : Nat, zsh F a = 100 + t → 2 ≤ t → t < 4 → va_at (zD c) zcs (zB c + a, .inl (zcA c t, zln F a, .inr (.inr (.inr (.inr (zrl c F a)))))) H)
def zKK (c : zX) (U : State) : Prop :=
  va_K (zD c) zcs (ztys c) U ∧ (∀ own idx y, Cond.methodLinkNest own idx y "GleanersForGaps" ∈ lw_tbl → va_Nw (.methodLinkNest own idx y "GleanersForGaps") U) ∧
  (va_AO "GleanersForGaps$Text" U ∧ va_AO "GleanersForGaps$Sheet" U) ∧
  (va_Z "java/lang/String" "COMPACT_STRINGS" "Z" (.int 1) (zA c) U (zH0 c) ∧ va_Z "GleanersForGaps" "KIND_ABOVE" "[I" (.ref (zaV c 0)) (zA c) U (zH0 c) ∧ va_Z "jdk/internal/util/Preconditions" "SIOOBE_FORMATTER" "Ljava/util/function/BiFunction;" (zfm c) (zA c) U (zH0 c)) ∧
  (va_T .int (zaV c 0) 6 (fun j => .int (([-1, 0, 0, 1, 2, 0] : List Int32).getD j 0)) (zA c) U (zH0 c) ∧ va_T .int (zaV c 50) (zxs c).1 (fun j => .int ((zxs c).2 j)) (zA c) U (zH0 c)) ∧
  vk_S 12 (zbl.map List.length) zbl (zaK c) (fun k => zaV c (1 + k)) (zA c) U (zH0 c) ∧
  (∀ (k : Nat) (q : Nat × Nat × String × Nat), zsl[k]? = some q → vk_R (zC q.1) q.2.1 q.2.2.1 (zaK c k) U)
def zCx (c : zX) : Prop := (zH0 c).size = zB c ∧ (zfm c = .null ∨ ∃ a, zfm c = .ref a)
theorem zKK_warm {c : zX} {s U : State} (h : zKK c s) (hW : s.WarmedH U.vm) : zKK c U := by
  obtain ⟨h1, h2, ⟨h3, h4⟩, ⟨h5, h6, h7⟩, ⟨h8, h9⟩, h10, h11⟩ := h
  have hA := hW.alike
  exact ⟨h1.moved hA, fun own idx y hw => (h2 own idx y hw).warmM hW, ⟨h3.moved hA, h4.moved hA⟩, ⟨h5.moved hA, h6.moved hA, h7.moved hA⟩, ⟨h8.moved hA, h9.moved hA⟩, h10.moved hA, fun k q hq => (h11 k q hq).warm hW⟩
theorem zKK_vm {c : zX} {s U : State} (h : zKK c s) (hv : U.vm = s.vm) : zKK c U := by
  obtain ⟨h1, h2, ⟨h3, h4⟩, ⟨h5, h6, h7⟩, ⟨h8, h9⟩, h10, h11⟩ := h
  have hA : s.vm.Alike U.vm := by rw [hv]; exact Vm.Alike.refl _
  exact ⟨h1.moved hA, fun own idx y hw => va_Nw.same rfl hv.symm (h2 own idx y hw), ⟨h3.moved hA, h4.moved hA⟩, ⟨h5.moved hA, h6.moved hA, h7.moved hA⟩, ⟨h8.moved hA, h9.moved hA⟩, h10.moved hA, fun k q hq => (h11 k q hq).same hv⟩
theorem zcs_of {ci : Nat} {q : vw_C} (h : zcs[ci]? = some q) : ci < 9 ∧ q = zclw ci := by
  have hl : ci < 9 := by
    have := (List.getElem?_eq_some_iff.mp h).1
    simpa [zcs] using this
  rw [zcs_at hl] at h
  exact ⟨hl, (Option.some.inj h).symm⟩
theorem zfs_len {c : zX} {F : zF} {G : zG} {ci a : Nat} : (zfs c F G ci a).length = zN ci := by simp [zfs]
theorem zfs_at {c : zX} {F : zF} {G : zG} {ci a k : Nat} (h : k < zN ci) : (zfs c F G ci a)[k]? = some (zfv c F G ci a k) := by simp [zfs, h]
theorem zfs_congr {c : zX} {F F' : zF} {G G' : zG} {ci a : Nat} (h : ∀ k, k < zN ci → zfv c F' G' ci a k = zfv c F G ci a k) : zfs c F' G' ci a = zfs c F G ci a := by
  unfold zfs
  exact List.map_congr_left fun k hk => h k (List.mem_range.mp hk)
theorem zfv_congr {c : zX} {F F' : zF} {G G' : zG} {ci a k : Nat} (h1 : G'.1 a k = G.1 a k) (h2 : G'.2 a k = G.2 a k) (h3 : zrf F' a k = zrf F a k) : zfv c F' G' ci a k = zfv c F G ci a k := by
  unfold zfv
  rw [h1, h2, h3]
theorem zfs_set {c : zX} {F F' : zF} {G G' : zG} {ci a k : Nat} {v : Value} (hk : k < zN ci) (h1 : zfv c F' G' ci a k = v) (h2 : ∀ j, j ≠ k → zfv c F' G' ci a j = zfv c F G ci a j) : zfs c F' G' ci a = (zfs c F G ci a).set k v := by
  refine List.ext_getElem? fun j => ?_
  by_cases hj : j = k
  · subst hj
    rw [zfs_at hk, List.getElem?_set_self (by rw [zfs_len]; exact hk), h1]
  · rw [List.getElem?_set_ne (Ne.symm hj)]
    by_cases hl : j < zN ci
    · rw [zfs_at hl, zfs_at hl, h2 j hj]
    · rw [List.getElem?_eq_none (by rw [zfs_len]; omega), List.getElem?_eq_none (by rw [zfs_len]; omega)]
/-- one cell changes -/
theorem zI_upd {c : zX} {F F' : zF} {G G' : zG} {H H' : Heap} {a : Nat} (hI : zI c F G H) (hz : H'.size = H.size) (oq : ∀ q : Nat, q ≠ zB c + a → H'[q]? = H[q]?)
    (e1 : F'.1 = F.1) (e2 : ∀ b, zsh F' b = zsh F b) (e3 : ∀ b, zln F' b = zln F b) (e4 : ∀ b, b ≠ a → F'.2.2.2.2 b = F.2.2.2.2 b) (e5 : ∀ b, b ≠ a → G'.1 b = G.1 b) (e6 : ∀ b, b ≠ a → G'.2 b = G.2 b)
    (n1 : ∀ ci : Nat, zsh F a = ci → ci < 9 → va_at (zD c) zcs (zB c + a, .inr (ci, zfs c F' G' ci a)) H')
    (n2 : ∀ t : Nat, zsh F a = 100 + t → t < 2 → va_at (zD c) zcs (zB c + a, .inl (zcA c t, zln F a, .inl (G'.1 a))) H')
    (n3 : ∀ t : Nat, zsh F a = 100 + t → 2 ≤ t → t < 4 → va_at (zD c) zcs (zB c + a, .inl (zcA c t, zln F a, .inr (.inr (.inr (.inr (zrl c F' a)))))) H') : zI c F' G' H' := by
  obtain ⟨i1, i2, i3, i4, i5⟩ := hI
  refine ⟨by rw [hz, i1, e1], fun q hq => ?_, fun b ci hb hc => ?_, fun b t hb ht => ?_, fun b t hb h2 h4 => ?_⟩
  · rw [oq q (by omega)]
    exact i2 q hq
  · rw [e2] at hb
    by_cases hba : b = a
    · subst hba
      exact n1 ci hb hc
    · have h := (i3 b ci hb hc).kept (oq (zB c + b) (by omega))
      rwa [← zfs_congr (F' := F') (G' := G') (fun k _ => zfv_congr (by rw [e5 b hba]) (by rw [e6 b hba]) (by unfold zrf; rw [e4 b hba]))] at h
  · rw [e2] at hb
    by_cases hba : b = a
    · subst hba
      rw [e3]
      exact n2 t hb ht
    · have h := (i4 b t hb ht).kept (oq (zB c + b) (by omega))
      rw [e3, e5 b hba]
      exact h
  · rw [e2] at hb
    by_cases hba : b = a
    · subst hba
      rw [e3]
      exact n3 t hb h2 h4
    · have h := (i5 b t hb h2 h4).kept (oq (zB c + b) (by omega))
      have e : zrl c F' b = zrl c F b := by funext j; unfold zrl zrf; rw [e4 b hba]
      rw [e3, e]
      exact h
theorem zur_s {α : Type} {V : Nat → α} {a : Nat} {f : α} : zur V a f a = f := by simp [zur]
theorem zur_n {α : Type} {V : Nat → α} {a b : Nat} {f : α} (h : b ≠ a) : zur V a f b = V b := by simp [zur, h]
theorem zu_n {α : Type} {V : Nat → Nat → α} {a k b : Nat} {v : α} (h : b ≠ a) : zu V a k v b = V b := by simp [zu, h]
theorem zu_s {α : Type} {V : Nat → Nat → α} {a k : Nat} {v : α} : zu V a k v a k = v := by simp [zu]
theorem zu_o {α : Type} {V : Nat → Nat → α} {a k j : Nat} {v : α} (h : j ≠ k) : zu V a k v a j = V a j := by simp [zu, h]
theorem zsh_lt {F : zF} {a ci : Nat} (h : zsh F a = ci) (hc : ci ≠ 999) : a < F.1 := by
  unfold zsh at h
  split at h
  · assumption
  · exact absurd h.symm hc
theorem zsh_new {F : zF} {sh len b : Nat} : zsh (znewF F sh len) b = if b = F.1 then sh else zsh F b := by
  unfold zsh znewF zur
  by_cases hb : b = F.1
  · subst hb
    simp
  · by_cases hl : b < F.1
    · have h2 : b < F.1 + 1 := by omega
      simp [hb, hl, h2]
    · have h2 : ¬ b < F.1 + 1 := by omega
      simp [hb, hl, h2]
/-- a new cell -/
theorem zI_new {c : zX} {F : zF} {G : zG} {H H' : Heap} {sh len : Nat} (hI : zI c F G H) (hz : H'.size = H.size + 1) (oq : ∀ q : Nat, q < H.size → H'[q]? = H[q]?)
    (n1 : sh < 9 → va_at (zD c) zcs (zB c + F.1, .inr (sh, zfs c (znewF F sh len) (znewG F G) sh F.1)) H')
    (n2 : ∀ t : Nat, sh = 100 + t → t < 2 → va_at (zD c) zcs (zB c + F.1, .inl (zcA c t, len, .inl (fun _ => 0))) H')
    (n3 : ∀ t : Nat, sh = 100 + t → 2 ≤ t → t < 4 → va_at (zD c) zcs (zB c + F.1, .inl (zcA c t, len, .inr (.inr (.inr (.inr (fun _ => none)))))) H') : zI c (znewF F sh len) (znewG F G) H' := by
  obtain ⟨i1, i2, i3, i4, i5⟩ := hI
  refine ⟨by rw [hz, i1]; rfl, fun q hq => ?_, fun b ci hb hc => ?_, fun b t hb ht => ?_, fun b t hb h2 h4 => ?_⟩
  · rw [oq q (by omega)]
    exact i2 q hq
  · rw [zsh_new] at hb
    by_cases hba : b = F.1
    · rw [if_pos hba] at hb
      subst hba; subst hb
      exact n1 hc
    · rw [if_neg hba] at hb
      have hl := zsh_lt hb (by omega)
      have h := (i3 b ci hb hc).kept (oq (zB c + b) (by omega))
      rwa [← zfs_congr (F' := znewF F sh len) (G' := znewG F G) (fun k _ => zfv_congr (by show zur G.1 F.1 _ b k = _; rw [zur_n hba]) (by show zur G.2 F.1 _ b k = _; rw [zur_n hba]) (by show zur F.2.2.2.2 F.1 _ b k = _; rw [zur_n hba]; rfl))] at h
  · rw [zsh_new] at hb
    by_cases hba : b = F.1
    · rw [if_pos hba] at hb
      subst hba
      have h := n2 t hb ht
      rw [show zln (znewF F sh len) F.1 = len from zur_s, show (znewG F G).1 F.1 = fun _ => 0 from zur_s]
      exact h
    · rw [if_neg hba] at hb
      have hl := zsh_lt hb (by omega)
      have h := (i4 b t hb ht).kept (oq (zB c + b) (by omega))
      rw [show zln (znewF F sh len) b = zln F b from zur_n hba, show (znewG F G).1 b = G.1 b from zur_n hba]
      exact h
  · rw [zsh_new] at hb
    by_cases hba : b = F.1
    · rw [if_pos hba] at hb
      subst hba
      have h := n3 t hb h2 h4
      rw [show zln (znewF F sh len) F.1 = len from zur_s, show zrl c (znewF F sh len) F.1 = fun _ => none from by funext j; unfold zrl zrf znewF; dsimp only; rw [zur_s]; rfl]
      exact h
    · rw [if_neg hba] at hb
      have hl := zsh_lt hb (by omega)
      have h := (i5 b t hb h2 h4).kept (oq (zB c + b) (by omega))
      rw [show zln (znewF F sh len) b = zln F b from zur_n hba, show zrl c (znewF F sh len) b = zrl c F b from by funext j; unfold zrl zrf znewF; dsimp only; rw [zur_n hba]]
      exact h
theorem zupd_eq {V : Nat → Nat → Int32} {a k : Nat} {v : Int32} : zu V a k v a = upd (V a) k v := by funext j; simp [zu, upd]
/-- the locals -/
def zL (c : zX) (LS : List Nat) (nL : Nat) (mls : Array Slot) (ls : zLs) : Prop := mls.size = nL ∧ ls.length = nL ∧ lv_wf mls ∧ (∀ i v, zgt ls i = some v → mls[i]? = some (.val (ztr c v))) ∧ ∀ j x, zgt ls j = some (.long x) → j ∈ LS
theorem zgt_lt {ls : zLs} {i : Nat} {v : Value} (h : zgt ls i = some v) : i < ls.length := by
  unfold zgt at h
  split at h
  · rename_i o ho
    exact (List.getElem?_eq_some_iff.mp ho).1
  · cases h
theorem zgt_set {ls : zLs} {i j : Nat} {o : Option Value} : zgt (ls.set i o) j = if j = i then (if i < ls.length then o else none) else zgt ls j := by
  unfold zgt
  by_cases hj : j = i
  · subst hj
    by_cases hl : j < ls.length
    · rw [List.getElem?_set_self hl]
      simp [hl]
    · rw [List.getElem?_eq_none (by rw [List.length_set]; omega)]
      simp [hl]
  · rw [List.getElem?_set_ne (Ne.symm hj)]
    simp [hj]
/-- the listed locals, as the kit's rows want them -/
def zas (c : zX) (ls : zLs) : List (Nat × Value) := (List.range ls.length).filterMap fun i => (zgt ls i).map fun v => (i, ztr c v)
theorem zas_mem {c : zX} {ls : zLs} {q : Nat × Value} : q ∈ zas c ls ↔ ∃ v, zgt ls q.1 = some v ∧ q.2 = ztr c v := by
  unfold zas
  rw [List.mem_filterMap]
  constructor
  · rintro ⟨i, -, hi⟩
    cases hg : zgt ls i with
    | none => rw [hg] at hi; cases hi
    | some v =>
      rw [hg] at hi
      cases hi
      exact ⟨v, hg, rfl⟩
  · rintro ⟨v, hg, hv⟩
    refine ⟨q.1, List.mem_range.mpr (zgt_lt hg), ?_⟩
    rw [hg]
    show some (q.1, ztr c v) = some q
    rw [← hv]
theorem zL_has {c : zX} {LS : List Nat} {nL : Nat} {mls : Array Slot} {ls : zLs} (h : zL c LS nL mls ls) : lv_has mls nL (zas c ls) := by
  refine ⟨h.1, h.2.2.1, fun q hq => ?_⟩
  obtain ⟨v, hg, hv⟩ := zas_mem.mp hq
  rw [hv]
  exact h.2.2.2.1 _ _ hg
theorem zcat_tr {c : zX} (hc : zCx c) {v : Value} (h : ∀ r, v ≠ .retAddr r → True) : (ztr c v).category = zcat v := by
  cases v with
  | retAddr r =>
    show (zfm c).category = 1
    rcases hc.2 with e | ⟨a, e⟩ <;> rw [e] <;> rfl
  | _ => rfl
theorem zcats {c : zX} (hc : zCx c) (st : List Value) : ((st.map (ztr c)).map fun v => v.category).sum = (st.map zcat).sum := by
  rw [List.map_map]
  congr 1
  exact List.map_congr_left fun v _ => zcat_tr hc (fun _ _ => trivial)
theorem ztr_isr {c : zX} {v : Value} (h : zisr v = true) : ∃ a, ztr c v = .ref a := by
  cases v <;> first | exact ⟨_, rfl⟩ | cases h
theorem ztr_long {c : zX} (hc : zCx c) {v : Value} (h : (ztr c v).category = 2) : ∃ x, v = .long x := by
  rw [zcat_tr hc (fun _ _ => trivial)] at h
  cases v <;> first | exact ⟨_, rfl⟩ | (simp [zcat] at h)
/-- behind a store of one slot -/
theorem zL_st1 {c : zX} (hc : zCx c) {LS : List Nat} {nL i : Nat} {mls mls' : Array Slot} {ls : zLs} {v : Value} (h : zL c LS nL mls ls) (hi : i < ls.length) (hv : ∀ x, v ≠ .long x) (hLS : ∀ j ∈ LS, j + 1 ≠ i ∧ j ≠ i)
    (h' : lv_has mls' nL ((i, ztr c v) :: (zas c ls).filter (fun q => !(q.1 == i) && !(q.1 + 1 == i && q.2.category == 2)))) : zL c LS nL mls' (ls.set i (some v)) := by
  refine ⟨h'.1, by rw [List.length_set]; exact h.2.1, h'.2.1, fun j w hw => ?_, fun j x hx => ?_⟩
  · rw [zgt_set] at hw
    by_cases hj : j = i
    · rw [if_pos hj, if_pos hi] at hw
      cases hw
      subst hj
      exact h'.2.2 (j, ztr c v) List.mem_cons_self
    · rw [if_neg hj] at hw
      refine h'.2.2 (j, ztr c w) (List.mem_cons_of_mem _ (List.mem_filter.mpr ⟨zas_mem.mpr ⟨w, hw, rfl⟩, ?_⟩))
      have h1 : (j == i) = false := by simpa using hj
      simp only [h1, Bool.not_false, Bool.true_and, Bool.not_eq_true', Bool.and_eq_false_iff, beq_eq_false_iff_ne]
      by_cases h2 : j + 1 = i
      · refine Or.inr fun h3 => ?_
        obtain ⟨x, rfl⟩ := ztr_long hc h3
        exact (hLS j (h.2.2.2.2 j x hw)).1 h2
      · exact Or.inl h2
  · rw [zgt_set] at hx
    by_cases hj : j = i
    · rw [if_pos hj, if_pos hi] at hx
      exact absurd (Option.some.inj hx) (hv x)
    · rw [if_neg hj] at hx
      exact h.2.2.2.2 j x hx
theorem zL_st2 {c : zX} (hc : zCx c) {LS : List Nat} {nL i : Nat} {mls mls' : Array Slot} {ls : zLs} {x : Int64} (h : zL c LS nL mls ls) (hi : i + 1 < ls.length) (hm : i ∈ LS) (hLS : ∀ j ∈ LS, j + 1 ≠ i ∧ j ≠ i + 1)
    (h' : lv_has mls' nL ((i, .long x) :: (zas c ls).filter (fun q => !(q.1 == i) && (!(q.1 == i + 1) && !(q.1 + 1 == i && q.2.category == 2))))) : zL c LS nL mls' ((ls.set i (some (.long x))).set (i + 1) none) := by
  refine ⟨h'.1, by rw [List.length_set, List.length_set]; exact h.2.1, h'.2.1, fun j w hw => ?_, fun j y hx => ?_⟩
  · rw [zgt_set] at hw
    by_cases hj : j = i + 1
    · rw [if_pos hj] at hw
      split at hw <;> cases hw
    · rw [if_neg hj, zgt_set] at hw
      by_cases hj2 : j = i
      · rw [if_pos hj2, if_pos (by omega)] at hw
        cases hw
        subst hj2
        exact h'.2.2 (j, .long x) List.mem_cons_self
      · rw [if_neg hj2] at hw
        refine h'.2.2 (j, ztr c w) (List.mem_cons_of_mem _ (List.mem_filter.mpr ⟨zas_mem.mpr ⟨w, hw, rfl⟩, ?_⟩))
        have h1 : (j == i) = false := by simpa using hj2
        have h1' : (j == i + 1) = false := by simpa using hj
        simp only [h1, h1', Bool.not_false, Bool.true_and, Bool.not_eq_true', Bool.and_eq_false_iff, beq_eq_false_iff_ne]
        by_cases h2 : j + 1 = i
        · refine Or.inr fun h3 => ?_
          obtain ⟨y, rfl⟩ := ztr_long hc h3
          exact (hLS j (h.2.2.2.2 j y hw)).1 h2
        · exact Or.inl h2
  · rw [zgt_set] at hx
    by_cases hj : j = i + 1
    · rw [if_pos hj] at hx
      split at hx <;> cases hx
    · rw [if_neg hj, zgt_set] at hx
      by_cases hj2 : j = i
      · rw [hj2]; exact hm
      · rw [if_neg hj2] at hx
        exact h.2.2.2.2 j y hx
end
section
/-! Each instruction of the small machine is the machine's. -/
def zFr (c : zX) (p : Program) (R : Room) (s : State) (m : MethodId) (args : Array Value) (meth : Method) (cd : Code) (mi : zE) (d : Nat) : Prop :=
  p.tables.exec = Jvm.exec ∧ cd.code = mi.2.2.1 ∧ cd.maxLocals = mi.2.2.2.1 ∧ s.vm.findClass (zC mi.1) = some m.cls ∧ (∀ w ∈ ztb, w.before args s = true) ∧ zKK c s ∧ zCx c ∧ (mi.2.1.name = "<init>" → meth.name = "<init>") ∧ (∀ q : Nat, q < zB c → s.heap[q]? = (zH0 c)[q]?) ∧ zB c ≤ s.heap.size ∧ d + 1 ≤ R.frames ∧ 64 * (d + 1) ≤ R.locals
abbrev zGo (c : zX) (p : Program) (l : Launch) (e : Env) (R : Room) (s : State) (m : MethodId) (args : Array Value) (below : List Frame) (meth : Method) (cd : Code) (Q : State → Prop) (LS : List Nat) (nL n0 s0 : Nat) (q : zCf) : Prop :=
  ∀ (H1 : Heap) (locs1 : List Loc) (mls1 : Array Slot) (cells1 slots1 : Nat), zI c q.2.2.2.1 q.2.2.2.2 H1 → (∀ x ∈ locs1, zB c ≤ x.base) → zL c LS nL mls1 q.2.1 → cells1 + n0 = q.2.2.2.1.1 → slots1 + s0 = q.2.2.2.1.2.1 → W p l e R s m args below meth cd H1 locs1 cells1 slots1 Q (F0 m q.1 mls1 (q.2.2.1.map (ztr c)))
theorem zld_inv {i n : Nat} {ok : Value → Bool} {ls : zLs} {st : List Value} {F : zF} {G : zG} {q : zCf} (h : zld i ok n ls st F G = some q) : ∃ v, zgt ls i = some v ∧ ok v = true ∧ q = (n, ls, v :: st, F, G) := by
  unfold zld at h
  split at h
  · rename_i v hv
    split at h
    · rename_i ho
      exact ⟨v, hv, ho, (Option.some.inj h).symm⟩
    · cases h
  · cases h
theorem zki_inv {v : Value} (h : zki v = true) : ∃ x, v = .int x := by
  cases v <;> first | exact ⟨_, rfl⟩ | cases h
theorem zkl_inv {v : Value} (h : zkl2 v = true) : ∃ x, v = .long x := by
  cases v <;> first | exact ⟨_, rfl⟩ | cases h
theorem zisr_nl {v : Value} (h : zisr v = true) : ∀ x, v ≠ .long x := by
  intro x e
  subst e
  cases h
theorem zst1_inv {i n : Nat} {ok : Value → Bool} {LS : List Nat} {ls : zLs} {st : List Value} {F : zF} {G : zG} {q : zCf} (h : zst1 i ok LS n ls st F G = some q) : ∃ v rest, st = v :: rest ∧ ok v = true ∧ i < ls.length ∧ (∀ j ∈ LS, j + 1 ≠ i ∧ j ≠ i) ∧ q = (n, ls.set i (some v), rest, F, G) := by
  unfold zst1 at h
  split at h
  · rename_i v rest
    split at h
    · rename_i ho
      exact ⟨v, rest, rfl, ho.1, ho.2.1, ho.2.2, (Option.some.inj h).symm⟩
    · cases h
  · cases h
theorem zst2_inv {i n : Nat} {LS : List Nat} {ls : zLs} {st : List Value} {F : zF} {G : zG} {q : zCf} (h : zst2 i LS n ls st F G = some q) : ∃ x rest, st = .long x :: rest ∧ i + 1 < ls.length ∧ i ∈ LS ∧ (∀ j ∈ LS, j + 1 ≠ i ∧ j ≠ i + 1) ∧ q = (n, (ls.set i (some (.long x))).set (i + 1) none, rest, F, G) := by
  unfold zst2 at h
  split at h
  · rename_i x rest
    split at h
    · rename_i ho
      exact ⟨x, rest, rfl, ho.1, ho.2.1, ho.2.2, (Option.some.inj h).symm⟩
    · cases h
  · cases h
theorem zbin_inv {f : Int32 → Int32 → Option Int32} {n : Nat} {ls : zLs} {st : List Value} {F : zF} {G : zG} {q : zCf} (h : zbin f n ls st F G = some q) : ∃ x y rest v, st = .int y :: .int x :: rest ∧ f x y = some v ∧ q = (n, ls, .int v :: rest, F, G) := by
  unfold zbin at h
  split at h
  · rename_i y x rest
    split at h
    · rename_i v hv
      exact ⟨x, y, rest, v, rfl, hv, (Option.some.inj h).symm⟩
    · cases h
  · cases h
theorem zbin2_inv {f : Int64 → Int64 → Option Int64} {n : Nat} {ls : zLs} {st : List Value} {F : zF} {G : zG} {q : zCf} (h : zbin2 f n ls st F G = some q) : ∃ x y rest v, st = .long y :: .long x :: rest ∧ f x y = some v ∧ q = (n, ls, .long v :: rest, F, G) := by
  unfold zbin2 at h
  split at h
  · rename_i y x rest
    split at h
    · rename_i v hv
      exact ⟨x, y, rest, v, rfl, hv, (Option.some.inj h).symm⟩
    · cases h
  · cases h
theorem zun_inv {f : Int32 → Value} {n : Nat} {ls : zLs} {st : List Value} {F : zF} {G : zG} {q : zCf} (h : zun f n ls st F G = some q) : ∃ x rest, st = .int x :: rest ∧ q = (n, ls, f x :: rest, F, G) := by
  unfold zun at h
  split at h
  · rename_i x rest
    exact ⟨x, rest, rfl, (Option.some.inj h).symm⟩
  · cases h
theorem zpj_inv {pc tg : Nat} {off : Int} (h : zpj pc off = some tg) : (pc : Int) + off = (tg : Int) := by
  unfold zpj at h
  split at h
  · rename_i h0
    cases h
    omega
  · cases h
theorem zbr_inv {t : Bool} {pc : Nat} {off : Int} {ls : zLs} {st : List Value} {F : zF} {G : zG} {q : zCf} (h : zbr t pc off ls st F G = some q) : ∃ tg : Nat, (pc : Int) + off = (tg : Int) ∧ ((t = true ∧ q = (tg, ls, st, F, G)) ∨ (t = false ∧ q = (pc + 3, ls, st, F, G))) := by
  unfold zbr at h
  split at h
  · rename_i tg ht
    refine ⟨tg, zpj_inv ht, ?_⟩
    split at h
    · rename_i h1
      exact Or.inl ⟨h1, (Option.some.inj h).symm⟩
    · rename_i h1
      exact Or.inr ⟨by simpa using h1, (Option.some.inj h).symm⟩
  · cases h
theorem zix_in {i : Int32} {n : Nat} (h : zix i n = true) : vp_in i n := by
  have h1 : ¬ (i < 0 ∨ n ≤ i.toNatClampNeg) := of_decide_eq_true h
  exact h1
section ZS
variable {c : zX} {p : Program} {l : Launch} {e : Env} {R : Room} {s : State} {m : MethodId} {args : Array Value} {below : List Frame} {meth : Method} {cd : Code} {H : Heap} {locs : List Loc} {cells slots : Nat} {Q : State → Prop} {mi : zE} {d n0 s0 : Nat} {LS : List Nat} {mls : Array Slot}
theorem z_S {F : zF} {G : zG} (hI : zI c F G H) (hlow : ∀ q : Nat, q < zB c → s.heap[q]? = (zH0 c)[q]?) (hss : s.heap.size ≤ H.size) (hlo : ∀ x ∈ locs, zB c ≤ x.base) : va_S (zA c) s.heap H locs :=
  ⟨hss, fun q _ h2 => by
    have hq : q < zB c := Nat.not_le.mp h2
    rw [hI.2.1 q hq, hlow q hq], hlo⟩
theorem z_kept {s : State} (hlow : ∀ q : Nat, q < zB c → s.heap[q]? = (zH0 c)[q]?) : ∀ a : Nat, a < (zH0 c).size → ¬ (zA c) a → s.heap[a]? = (zH0 c)[a]? := fun a _ h => hlow a (Nat.not_le.mp h)
theorem z_P1 {q : Nat × va_E} (h : va_at (zD c) zcs q H) : va_P (zD c) zcs [q] H := fun k x hk => by
  cases k with
  | zero => cases hk; exact h
  | succ k => simp at hk
theorem z_fitb (v : Int32) : fits .boolean (narrow .boolean (.int v)) = true := by
  simp only [narrow, fits]
  obtain ⟨j, hj, e⟩ := pk_andE v (m := 1) 1 (by decide)
  rw [e]
  rcases (show j = 0 ∨ j = 1 by omega) with rfl | rfl <;> decide
theorem z_xt {s : State} {k : Nat} {y : Bool × Nat × (Nat → Int32)} (hKK : zKK c s) (hlow : ∀ q : Nat, q < zB c → s.heap[q]? = (zH0 c)[q]?) (hy : zxt (zxs c) k = some y) : ∃ (_ : Unit) (f : Nat → Value) (cell : Cell), s.heap[zaV c k]? = some cell ∧ s.isArrayOf cell (if y.1 = true then .int else .byte) ∧ cell.vm ≠ .unknown ∧ y.2.1 ≤ cell.slots.size ∧ cell.slots.size.toInt32 = Int32.ofNat y.2.1 ∧ (∀ j : Nat, j < y.2.1 → cell.slots[j]? = some (.int (y.2.2 j))) ∧ ¬ (zA c) (zaV c k) := by
  unfold zxt at hy
  split at hy
  · rename_i h0
    cases hy
    subst h0
    obtain ⟨cell, h1, h2, h3, h4, h5, h6, h7⟩ := hKK.2.2.2.2.1.1.kept (z_kept hlow)
    exact ⟨(), fun _ => .null, cell, h1, h2, h3, h4, h5, h6, h7⟩
  · split at hy
    · rename_i h0
      split at hy
      · cases hy
        subst h0
        obtain ⟨cell, h1, h2, h3, h4, h5, h6, h7⟩ := hKK.2.2.2.2.1.2.kept (z_kept hlow)
        exact ⟨(), fun _ => .null, cell, h1, h2, h3, h4, h5, h6, h7⟩
      · cases hy
    · rename_i hk0 _
      split at hy
      · rename_i lst hl
        cases hy
        have hlt : k - 1 < 12 := by have := (List.getElem?_eq_some_iff.mp hl).1; rw [zsl_len.2] at this; exact this
        obtain ⟨cell, h1, h2, h3, h4, h5, h6, h7⟩ := ((hKK.2.2.2.2.2.1.kept (z_kept hlow)).1 (k - 1) hlt).2.2.2
        have hk : 1 + (k - 1) = k := by omega
        dsimp only at h1 h7
        rw [hk] at h1 h7
        have e1 : (zbl.map List.length).getD (k - 1) 0 = lst.length := by rw [List.getD_eq_getElem?_getD, List.getElem?_map, hl]; rfl
        have e2 : zbl.getD (k - 1) [] = lst := by rw [List.getD_eq_getElem?_getD, hl]; rfl
        rw [e1] at h4 h5 h6
        rw [e2] at h6
        exact ⟨(), fun _ => .null, cell, h1, h2, h3, h4, h5, h6, h7⟩
      · cases hy

theorem z_gf {pc : Nat} {ls : zLs} {st : List Value} {F : zF} {G : zG} {q : zCf} (hx : p.tables.exec = Jvm.exec) (hb : cd.code = mi.2.2.1) {idx ci kf : Nat} (hown : s.vm.findClass (zC mi.1) = some m.cls) (hts : ∀ w ∈ ztb, w.before args s = true) (hKK : zKK c s) (hw : Cond.fieldLink (zC mi.1) idx (zT ci kf).1 (zT ci kf).2.1 (zT ci kf).2.2.1 ∈ ztb ∧ ci < 9 ∧ kf < zN ci) (hI : zI c F G H) (hd : decode mi.2.2.1 pc = .ok (.getfield idx, 3)) (hs : zgf ci kf (pc + 3) ls st F G = some q) (k : zGo c p l e R s m args below meth cd Q LS mi.2.2.2.1 n0 s0 q) (hlo : ∀ x ∈ locs, zB c ≤ x.base) (hL : zL c LS mi.2.2.2.1 mls ls) (hc1 : cells + n0 = F.1) (hc2 : slots + s0 = F.2.1) : W p l e R s m args below meth cd H locs cells slots Q (F0 m pc mls (st.map (ztr c))) := by
  unfold zgf at hs
  split at hs
  · rename_i a rest
    split at hs
    · rename_i hh
      have hat := hI.2.2.1 a ci hh.1 hh.2.2
      have hgo : ∀ v, zfv c F G ci a kf = v → W p l e R s m args below meth cd H locs cells slots Q (F0 m (pc + 3) mls (v :: rest.map (ztr c))) → W p l e R s m args below meth cd H locs cells slots Q (F0 m pc mls ((Value.ref a :: rest).map (ztr c))) := by
        intro v hv h6
        exact va_get (D := zD c) (cl := zcs) (ci := ci) (C := zC ci) (T := zT ci) (N := zN ci) (q0 := 0) (k := kf) hx hb hts (z_uws hh.2.2) hown hKK.1 (z_P1 hat) rfl (zcs_at hh.2.2) hh.2.1 (hts _ hw.1) (fun _ h => by rw [zdec_ok ci hh.2.2 kf hh.2.1] at h ⊢; exact h) (v := v) (by rw [← hv]; exact zfs_at hh.2.1) hd h6
      split at hs
      · rename_i e1
        cases hs
        exact hgo _ (by unfold zfv; rw [e1]; rfl) (k _ _ _ _ _ hI hlo hL hc1 hc2)
      · rename_i e1
        cases hs
        exact hgo _ (by unfold zfv; rw [e1]; rfl) (k _ _ _ _ _ hI hlo hL hc1 hc2)
      · rename_i e1
        cases hs
        exact hgo _ (by unfold zfv; rw [e1]; rfl) (k _ _ _ _ _ hI hlo hL hc1 hc2)
      · rename_i e1
        split at hs
        · rename_i b hb1
          cases hs
          exact hgo _ (by unfold zfv; rw [e1]; dsimp only; rw [hb1]; rfl) (k _ _ _ _ _ hI hlo hL hc1 hc2)
        · cases hs
      · rename_i e1
        split at hs
        · rename_i b hb1
          cases hs
          exact hgo _ (by unfold zfv; rw [e1]; dsimp only; rw [hb1]; rfl) (k _ _ _ _ _ hI hlo hL hc1 hc2)
        · cases hs
      · cases hs
    · cases hs
  · cases hs
theorem z_gj {pc : Nat} {ls : zLs} {st : List Value} {F : zF} {G : zG} {q : zCf} (hx : p.tables.exec = Jvm.exec) (hb : cd.code = mi.2.2.1) {idx kf : Nat} (hown : s.vm.findClass (zC mi.1) = some m.cls) (hts : ∀ w ∈ ztb, w.before args s = true) (hKK : zKK c s) (hlow : ∀ q : Nat, q < zB c → s.heap[q]? = (zH0 c)[q]?) (hSS : va_S (zA c) s.heap H locs) (hw : (kf = 0 ∧ Cond.fieldLink (zC mi.1) idx "java/lang/String" "value" "[B" ∈ ztb) ∨ (kf = 1 ∧ Cond.fieldLink (zC mi.1) idx "java/lang/String" "coder" "B" ∈ ztb)) (hI : zI c F G H) (hd : decode mi.2.2.1 pc = .ok (.getfield idx, 3)) (hs : zgj kf (pc + 3) ls st F G = some q) (k : zGo c p l e R s m args below meth cd Q LS mi.2.2.2.1 n0 s0 q) (hlo : ∀ x ∈ locs, zB c ≤ x.base) (hL : zL c LS mi.2.2.2.1 mls ls) (hc1 : cells + n0 = F.1) (hc2 : slots + s0 = F.2.1) : W p l e R s m args below meth cd H locs cells slots Q (F0 m pc mls (st.map (ztr c))) := by
  unfold zgj at hs
  split at hs
  · rename_i u rest
    split at hs
    · rename_i hu
      have hE := ((hKK.2.2.2.2.2.1).kept (z_kept hlow)).1 u.toNat hu
      rcases hw with ⟨h1, h2⟩ | ⟨h1, h2⟩
      · rw [if_pos h1] at hs
        cases hs
        refine vk_getf hx hb hE.2.2.1 hSS hown (hts _ h2) (fun _ h => h) hd ?_
        have e5 : (UInt64.ofNat (1 + u.toNat)).toNat = 1 + u.toNat := (by decide +kernel : ∀ k, k < 13 → (UInt64.ofNat k).toNat = k) (1 + u.toNat) (by omega)
        have h6 := k _ _ _ _ _ hI hlo hL hc1 hc2
        have e6 : ztr c (.double (UInt64.ofNat (1 + u.toNat))) = .ref (zaV c (1 + u.toNat)) := by show Value.ref (zaV c (UInt64.ofNat (1 + u.toNat)).toNat) = _; rw [e5]
        simp only [List.map_cons, e6] at h6
        exact h6
      · rw [if_neg (by omega)] at hs
        cases hs
        exact vk_getf hx hb hE.2.1 hSS hown (hts _ h2) (fun _ h => h) hd (k _ _ _ _ _ hI hlo hL hc1 hc2)
    · cases hs
  · cases hs
theorem z_put {a ci kf : Nat} {idx pc : Nat} {F : zF} {G : zG} {v : Value} {rest : List Value} (hx : p.tables.exec = Jvm.exec) (hb : cd.code = mi.2.2.1) (hown : s.vm.findClass (zC mi.1) = some m.cls) (hts : ∀ w ∈ ztb, w.before args s = true) (hKK : zKK c s) (hw : Cond.fieldLink (zC mi.1) idx (zT ci kf).1 (zT ci kf).2.1 (zT ci kf).2.2.1 ∈ ztb ∧ ci < 9 ∧ kf < zN ci) (hI : zI c F G H) (ha : zsh F a = ci) (hn : narrow (zty ci kf) v = v) (hfit : fits (zty ci kf) v = true) (hfin : (zT ci kf).2.2.2 = false ∨ (meth.name = "<init>" ∧ mi.1 = ci))
    (hd : decode mi.2.2.1 pc = .ok (.putfield idx, 3)) (kk : ∀ (H1 : Heap) (loc : Loc), H1.size = H.size → (∀ q : Nat, q ≠ zB c + a → H1[q]? = H[q]?) → va_at (zD c) zcs (zB c + a, .inr (ci, (zfs c F G ci a).set kf v)) H1 → loc.base = zB c + a → W p l e R s m args below meth cd H1 (locs ++ [loc]) cells slots Q (F0 m (pc + 3) mls rest)) : W p l e R s m args below meth cd H locs cells slots Q (F0 m pc mls (v :: .ref (zB c + a) :: rest)) := by
  obtain ⟨hw1, hc9, hk⟩ := hw
  have hap := va_apart (own := zC mi.1) (D := zD c) (cl := zcs) (s := s) (args := args) hts (z_uws hc9) (zty ci) (zty_ok ci hc9) (znm_ok ci hc9) hKK.1 (zcs_at hc9)
  obtain ⟨r, h1, cell, q1, q2, q3, q4⟩ := hI.2.2.1 a ci ha hc9
  have hr : r = (zC ci, zT ci, zN ci) := Option.some.inj (h1.symm.trans (zcs_at hc9))
  subst hr
  obtain ⟨hS, hfc, kC, hkC, hkind⟩ := hKK.1.1 ci _ (zcs_at hc9)
  obtain ⟨cf, kf1, fi, f, hi, hsl⟩ := hS kf hk
  have hlay := hts _ (z_uws hc9 _ (u_in_lay hk))
  have hst := (u_facts hfc hkC (u_lays hts (z_uws hc9) hk) hi).1
  have hlk := hts _ hw1
  have hi' := hi
  rw [zdec_ok ci hc9 kf hk] at hlk
  have hi2 : s.fieldFound? (zC ci) (zT ci kf).2.1 (zT ci kf).2.2.1 = some (cf, kf1, fi, f) := by rw [← zdec_ok ci hc9 kf hk]; exact hi
  have end_ : ∀ H' : Heap, H'[zB c + a]? = some (cell.setSlot f.slot v) → H'.size = H.size → (∀ q : Nat, q ≠ zB c + a → H'[q]? = H[q]?) → W p l e R s m args below meth cd H' (locs ++ [⟨zB c + a, f.slot⟩]) cells slots Q (F0 m (pc + 3) mls rest) := by
    intro H' e1 e2 e3
    rw [hsl] at e1
    exact kk H' _ e2 e3 ⟨_, zcs_at hc9, t_OB.to (V := updV (vp_V (zfs c F G ci a)) kf v) ⟨_, e1, q2, q3, t_set q4 hap hk v⟩ (fun j _ => vp_updV_set (by rw [zfs_len]; exact hk) v j)⟩ rfl
  by_cases hff : (zT ci kf).2.2.2 = true
  · rcases hfin with hf | ⟨hf1, hf2⟩
    · rw [hf] at hff; cases hff
    · unfold u_lay at hlay
      rw [if_pos hff] at hlay
      have hcf : m.cls = cf := by
        obtain ⟨_, _, c', _, _, _, -, -, hf', -, -, -, hown2, -⟩ := Cond.laysFinal_spec hlay
        have e1 : c' = cf := by have := hi.symm.trans hf'; simp at this; exact this.1.symm
        rw [zdec_ok ci hc9 kf hk, ← hf2] at hown2
        rw [← e1]; exact Option.some.inj (hown.symm.trans hown2)
      have h6 := u_fits hfc hkC hkind (Or.inr hlay) hi (zty_ok ci hc9 kf hk) hn hfit
      exact W.putFinK hx hb hown hlk hi2 hst hcf hf1 (by rw [q2]; exact h6) q1 q3 (by rw [hsl]; exact k2_hasslot (q4 kf hk)) rfl rfl hd end_
  · unfold u_lay at hlay
    rw [if_neg hff] at hlay
    have h6 := u_store hfc hkC hkind hlay hi (zty_ok ci hc9 kf hk) hn hfit
    exact W.putK hx hb (f := f) ⟨hown, hlk, ⟨_, _, _, hi2⟩, hst⟩ (by rw [q2]; exact h6) q1 q3 (by rw [hsl]; exact k2_hasslot (q4 kf hk)) rfl rfl hd end_
theorem z_lo {a : Nat} {loc : Loc} (hlo : ∀ x ∈ locs, zB c ≤ x.base) (h : loc.base = zB c + a) : ∀ x ∈ locs ++ [loc], zB c ≤ x.base := by
  intro x hx
  rcases List.mem_append.mp hx with h1 | h1
  · exact hlo x h1
  · rw [List.mem_singleton.mp h1, h]; omega
theorem z_pf {pc : Nat} {ls : zLs} {st : List Value} {F : zF} {G : zG} {q : zCf} (hx : p.tables.exec = Jvm.exec) (hb : cd.code = mi.2.2.1) {idx ci kf : Nat} (hown : s.vm.findClass (zC mi.1) = some m.cls) (hts : ∀ w ∈ ztb, w.before args s = true) (hKK : zKK c s) (hnm : mi.2.1.name = "<init>" → meth.name = "<init>") (hw : Cond.fieldLink (zC mi.1) idx (zT ci kf).1 (zT ci kf).2.1 (zT ci kf).2.2.1 ∈ ztb ∧ ci < 9 ∧ kf < zN ci) (hI : zI c F G H) (hd : decode mi.2.2.1 pc = .ok (.putfield idx, 3)) (hs : zpf mi.1 ci kf (mi.2.1.name == "<init>") (pc + 3) ls st F G = some q) (k : zGo c p l e R s m args below meth cd Q LS mi.2.2.2.1 n0 s0 q) (hlo : ∀ x ∈ locs, zB c ≤ x.base) (hL : zL c LS mi.2.2.2.1 mls ls) (hc1 : cells + n0 = F.1) (hc2 : slots + s0 = F.2.1) : W p l e R s m args below meth cd H locs cells slots Q (F0 m pc mls (st.map (ztr c))) := by
  unfold zpf at hs
  split at hs
  · rename_i v a rest
    split at hs
    · rename_i hh
      obtain ⟨ha, hk, hc9, hf⟩ := hh
      have hi1 : ∀ (H1 : Heap), H1.size = H.size → (∀ q : Nat, q ≠ zB c + a → H1[q]? = H[q]?) → va_at (zD c) zcs (zB c + a, .inr (ci, (zfs c F G ci a).set kf (.int v))) H1 → (zty ci kf = .int ∨ zty ci kf = .boolean) → zI c F (zu G.1 a kf v, G.2) H1 := by
        intro H1 z1 o1 at1 hty
        refine zI_upd hI z1 o1 rfl (fun _ => rfl) (fun _ => rfl) (fun _ _ => rfl) (fun b h => zu_n h) (fun _ _ => rfl) (fun ci2 h2 h9 => ?_) (fun t h2 h3 => ?_) (fun t h2 h3 h4 => ?_)
        · have : ci2 = ci := by rw [← h2, ← ha]
          subst this
          rw [zfs_set (F := F) (F' := F) (G := G) (G' := (zu G.1 a kf v, G.2)) (v := .int v) hk (by unfold zfv; rcases hty with e | e <;> rw [e] <;> show Value.int (zu G.1 a kf v a kf) = _ <;> rw [zu_s]) (fun j hj => zfv_congr (show zu G.1 a kf v a j = G.1 a j from zu_o hj) rfl rfl)]
          exact at1
        · omega
        · omega
      split at hs
      · rename_i e1
        cases hs
        exact z_put hx hb hown hts hKK hw hI ha (by rw [e1]; rfl) (by rw [e1]; rfl) (Or.inl hf) hd (fun H1 loc z1 o1 at1 hl => k _ _ _ _ _ (hi1 H1 z1 o1 at1 (Or.inl e1)) (z_lo hlo hl) hL hc1 hc2)
      · rename_i e1
        split at hs
        · rename_i hnr
          cases hs
          exact z_put hx hb hown hts hKK hw hI ha (by rw [e1]; exact hnr) (by rw [e1, ← hnr]; exact z_fitb v) (Or.inl hf) hd (fun H1 loc z1 o1 at1 hl => k _ _ _ _ _ (hi1 H1 z1 o1 at1 (Or.inr e1)) (z_lo hlo hl) hL hc1 hc2)
        · cases hs
      · cases hs
    · cases hs
  · rename_i v a rest
    split at hs
    · rename_i hh
      obtain ⟨ha, hk, hc9, hf⟩ := hh
      split at hs
      · rename_i e1
        cases hs
        refine z_put hx hb hown hts hKK hw hI ha (by rw [e1]; rfl) (by rw [e1]; rfl) (Or.inl hf) hd (fun H1 loc z1 o1 at1 hl => k _ _ _ _ _ ?_ (z_lo hlo hl) hL hc1 hc2)
        refine zI_upd hI z1 o1 rfl (fun _ => rfl) (fun _ => rfl) (fun _ _ => rfl) (fun _ _ => rfl) (fun b h => zu_n h) (fun ci2 h2 h9 => ?_) (fun t h2 h3 => ?_) (fun t h2 h3 h4 => ?_)
        · have : ci2 = ci := by rw [← h2, ← ha]
          subst this
          show va_at (zD c) zcs (zB c + a, .inr (ci2, zfs c F (G.1, zu G.2 a kf v) ci2 a)) H1
          rw [zfs_set (F := F) (F' := F) (G := G) (G' := (G.1, zu G.2 a kf v)) (v := .long v) hk (by unfold zfv; rw [e1]; show Value.long (zu G.2 a kf v a kf) = _; rw [zu_s]) (fun j hj => zfv_congr rfl (show zu G.2 a kf v a j = G.2 a j from zu_o hj) rfl)]
          exact at1
        · omega
        · omega
      · cases hs
    · cases hs
  · rename_i b a rest
    split at hs
    · rename_i hh
      obtain ⟨ha, hk, hc9, hf, hin, ho⟩ := hh
      have hin2 : meth.name = "<init>" := hnm (by simpa using hin)
      have hi1 : ∀ (H1 : Heap), H1.size = H.size → (∀ q : Nat, q ≠ zB c + a → H1[q]? = H[q]?) → va_at (zD c) zcs (zB c + a, .inr (ci, (zfs c F G ci a).set kf (.ref (zB c + b)))) H1 → (∃ o, zty ci kf = .object o) ∨ (∃ o, zty ci kf = .array o) → zI c (zputr F a kf b) G H1 := by
        intro H1 z1 o1 at1 hty
        refine zI_upd hI z1 o1 rfl (fun _ => rfl) (fun _ => rfl) (fun b h => zu_n h) (fun _ _ => rfl) (fun _ _ => rfl) (fun ci2 h2 h9 => ?_) (fun t h2 h3 => ?_) (fun t h2 h3 h4 => ?_)
        · have : ci2 = ci := by rw [← h2, ← ha]
          subst this
          rw [zfs_set (F := F) (F' := zputr F a kf b) (G := G) (G' := G) (v := .ref (zB c + b)) hk (by unfold zfv; rcases hty with ⟨o, e⟩ | ⟨o, e⟩ <;> rw [e] <;> show zrv c (zu F.2.2.2.2 a kf (some b) a kf) = _ <;> rw [zu_s] <;> rfl) (fun j hj => zfv_congr rfl rfl (show zu F.2.2.2.2 a kf (some b) a j = F.2.2.2.2 a j from zu_o hj))]
          exact at1
        · omega
        · omega
      split at hs
      · rename_i o e1
        cases hs
        exact z_put hx hb hown hts hKK hw hI ha (by rw [e1]; rfl) (by rw [e1]; rfl) (Or.inr ⟨hin2, ho⟩) hd (fun H1 loc z1 o1 at1 hl => k _ _ _ _ _ (hi1 H1 z1 o1 at1 (Or.inl ⟨o, e1⟩)) (z_lo hlo hl) hL hc1 hc2)
      · rename_i o e1
        cases hs
        exact z_put hx hb hown hts hKK hw hI ha (by rw [e1]; rfl) (by rw [e1]; rfl) (Or.inr ⟨hin2, ho⟩) hd (fun H1 loc z1 o1 at1 hl => k _ _ _ _ _ (hi1 H1 z1 o1 at1 (Or.inr ⟨o, e1⟩)) (z_lo hlo hl) hL hc1 hc2)
      · cases hs
    · cases hs
  · cases hs
theorem z_al {pc : Nat} {ls : zLs} {st : List Value} {F : zF} {G : zG} {q : zCf} (hx : p.tables.exec = Jvm.exec) (hb : cd.code = mi.2.2.1) (hown : s.vm.findClass (zC mi.1) = some m.cls) (hKK : zKK c s) (hlow : ∀ q : Nat, q < zB c → s.heap[q]? = (zH0 c)[q]?) (hSS : va_S (zA c) s.heap H locs) (hI : zI c F G H) (hd : decode mi.2.2.1 pc = .ok (.arraylength, 1)) (hs : (match st with
    | .ref a :: rest => if 100 ≤ zsh F a ∧ zsh F a < 104 then some (pc + 1, ls, .int (Int32.ofNat (zln F a)) :: rest, F, G) else none
    | .double k :: rest => match zxt (zxs c) k.toNat with
      | some q => some (pc + 1, ls, .int (Int32.ofNat q.2.1) :: rest, F, G)
      | none => none
    | _ => none) = some q) (k : zGo c p l e R s m args below meth cd Q LS mi.2.2.2.1 n0 s0 q) (hlo : ∀ x ∈ locs, zB c ≤ x.base) (hL : zL c LS mi.2.2.2.1 mls ls) (hc1 : cells + n0 = F.1) (hc2 : slots + s0 = F.2.1) : W p l e R s m args below meth cd H locs cells slots Q (F0 m pc mls (st.map (ztr c))) := by
  split at hs
  · rename_i a rest
    split at hs
    · rename_i hh
      cases hs
      obtain ⟨t, ht⟩ : ∃ t, zsh F a = 100 + t := ⟨zsh F a - 100, by omega⟩
      by_cases h2 : t < 2
      · exact va_alen (D := zD c) (cl := zcs) hx hb hKK.1 (z_P1 (hI.2.2.2.1 a t ht h2)) 0 t rfl (ztys_at (by omega)) rfl hd (k _ _ _ _ _ hI hlo hL hc1 hc2)
      · exact va_alen (D := zD c) (cl := zcs) hx hb hKK.1 (z_P1 (hI.2.2.2.2 a t ht (by omega) (by omega))) 0 t rfl (ztys_at (by omega)) rfl hd (k _ _ _ _ _ hI hlo hL hc1 hc2)
    · cases hs
  · rename_i u rest
    split at hs
    · rename_i y hy
      cases hs
      obtain ⟨-, f, cell, h1, h2, h3, h4, h5, -, h7⟩ := z_xt hKK hlow hy
      exact W.alen (n := Int32.ofNat y.2.1) hx hb (by rw [hSS.2.1 _ (Array.getElem?_eq_some_iff.mp h1).1 h7]; exact h1) h2 h5 rfl rfl hd (k _ _ _ _ _ hI hlo hL hc1 hc2)
    · cases hs
  · cases hs
theorem z_ia {pc : Nat} {ls : zLs} {st : List Value} {F : zF} {G : zG} {q : zCf} (hx : p.tables.exec = Jvm.exec) (hb : cd.code = mi.2.2.1) (hown : s.vm.findClass (zC mi.1) = some m.cls) (hKK : zKK c s) (hlow : ∀ q : Nat, q < zB c → s.heap[q]? = (zH0 c)[q]?) (hSS : va_S (zA c) s.heap H locs) (hI : zI c F G H) (hd : decode mi.2.2.1 pc = .ok (.iaload, 1)) (hs : (match st with
    | .int i :: .ref a :: rest => if zsh F a = 100 ∧ zix i (zln F a) = true then some (pc + 1, ls, .int (G.1 a i.toNatClampNeg) :: rest, F, G) else none
    | .int i :: .double k :: rest => match zxt (zxs c) k.toNat with
      | some q => if q.1 = true ∧ zix i q.2.1 = true then some (pc + 1, ls, .int (q.2.2 i.toNatClampNeg) :: rest, F, G) else none
      | none => none
    | _ => none) = some q) (k : zGo c p l e R s m args below meth cd Q LS mi.2.2.2.1 n0 s0 q) (hlo : ∀ x ∈ locs, zB c ≤ x.base) (hL : zL c LS mi.2.2.2.1 mls ls) (hc1 : cells + n0 = F.1) (hc2 : slots + s0 = F.2.1) : W p l e R s m args below meth cd H locs cells slots Q (F0 m pc mls (st.map (ztr c))) := by
  split at hs
  · rename_i i a rest
    split at hs
    · rename_i hh
      cases hs
      exact va_iald (D := zD c) (cl := zcs) hx hb hKK.1 (z_P1 (hI.2.2.2.1 a 0 hh.1 (by omega))) 0 0 rfl rfl (zix_in hh.2) hd (k _ _ _ _ _ hI hlo hL hc1 hc2)
    · cases hs
  · rename_i i u rest
    split at hs
    · rename_i y hy
      split at hs
      · rename_i hh
        cases hs
        obtain ⟨-, f, cell, h1, h2, h3, h4, h5, h6, h7⟩ := z_xt hKK hlow hy
        have hv := zix_in hh.2
        have hlt : i.toNatClampNeg < y.2.1 := Nat.not_le.mp fun z => hv (Or.inr z)
        rw [hh.1] at h2
        exact W.iald (v := .int (y.2.2 i.toNatClampNeg)) hx hb (by rw [hSS.2.1 _ (Array.getElem?_eq_some_iff.mp h1).1 h7]; exact h1) h2 h3 (fun z => hv (z.imp id (fun w => Nat.le_trans h4 w))) (h6 _ hlt) rfl rfl hd (k _ _ _ _ _ hI hlo hL hc1 hc2)
      · cases hs
    · cases hs
  · cases hs
theorem z_ba {pc : Nat} {ls : zLs} {st : List Value} {F : zF} {G : zG} {q : zCf} (hx : p.tables.exec = Jvm.exec) (hb : cd.code = mi.2.2.1) (hown : s.vm.findClass (zC mi.1) = some m.cls) (hKK : zKK c s) (hlow : ∀ q : Nat, q < zB c → s.heap[q]? = (zH0 c)[q]?) (hSS : va_S (zA c) s.heap H locs) (hI : zI c F G H) (hd : decode mi.2.2.1 pc = .ok (.baload, 1)) (hs : (match st with
    | .int i :: .ref a :: rest => if zsh F a = 101 ∧ zix i (zln F a) = true then some (pc + 1, ls, .int (G.1 a i.toNatClampNeg) :: rest, F, G) else none
    | .int i :: .double k :: rest => match zxt (zxs c) k.toNat with
      | some q => if q.1 = false ∧ zix i q.2.1 = true then some (pc + 1, ls, .int (q.2.2 i.toNatClampNeg) :: rest, F, G) else none
      | none => none
    | _ => none) = some q) (k : zGo c p l e R s m args below meth cd Q LS mi.2.2.2.1 n0 s0 q) (hlo : ∀ x ∈ locs, zB c ≤ x.base) (hL : zL c LS mi.2.2.2.1 mls ls) (hc1 : cells + n0 = F.1) (hc2 : slots + s0 = F.2.1) : W p l e R s m args below meth cd H locs cells slots Q (F0 m pc mls (st.map (ztr c))) := by
  split at hs
  · rename_i i a rest
    split at hs
    · rename_i hh
      cases hs
      exact va_zald (D := zD c) (cl := zcs) hx hb hKK.1 (z_P1 (hI.2.2.2.1 a 1 hh.1 (by omega))) 0 1 rfl rfl (zix_in hh.2) hd (k _ _ _ _ _ hI hlo hL hc1 hc2)
    · cases hs
  · rename_i i u rest
    split at hs
    · rename_i y hy
      split at hs
      · rename_i hh
        cases hs
        obtain ⟨-, f, cell, h1, h2, h3, h4, h5, h6, h7⟩ := z_xt hKK hlow hy
        have hv := zix_in hh.2
        have hlt : i.toNatClampNeg < y.2.1 := Nat.not_le.mp fun z => hv (Or.inr z)
        rw [hh.1] at h2
        exact W.bald (v := .int (y.2.2 i.toNatClampNeg)) hx hb (by rw [hSS.2.1 _ (Array.getElem?_eq_some_iff.mp h1).1 h7]; exact h1) h2 h3 (fun z => hv (z.imp id (fun w => Nat.le_trans h4 w))) (h6 _ hlt) rfl rfl hd (k _ _ _ _ _ hI hlo hL hc1 hc2)
      · cases hs
    · cases hs
  · cases hs
theorem z_aa {pc : Nat} {ls : zLs} {st : List Value} {F : zF} {G : zG} {q : zCf} (hx : p.tables.exec = Jvm.exec) (hb : cd.code = mi.2.2.1) (hown : s.vm.findClass (zC mi.1) = some m.cls) (hKK : zKK c s) (hI : zI c F G H) (hd : decode mi.2.2.1 pc = .ok (.aaload, 1)) (hs : (match st with
    | .int i :: .ref a :: rest => if (zsh F a = 102 ∨ zsh F a = 103) ∧ zix i (zln F a) = true then match zrf F a i.toNatClampNeg with
      | some b => some (pc + 1, ls, .ref b :: rest, F, G)
      | none => none else none
    | _ => none) = some q) (k : zGo c p l e R s m args below meth cd Q LS mi.2.2.2.1 n0 s0 q) (hlo : ∀ x ∈ locs, zB c ≤ x.base) (hL : zL c LS mi.2.2.2.1 mls ls) (hc1 : cells + n0 = F.1) (hc2 : slots + s0 = F.2.1) : W p l e R s m args below meth cd H locs cells slots Q (F0 m pc mls (st.map (ztr c))) := by
  split at hs
  · rename_i i a rest
    split at hs
    · rename_i hh
      split at hs
      · rename_i b hb1
        cases hs
        have e6 : zrl c F a i.toNatClampNeg = some (zB c + b) := by unfold zrl; rw [hb1]; rfl
        rcases hh.1 with h1 | h1
        · refine va_aldq (D := zD c) (cl := zcs) (C := "GleanersForGaps$Text") hx hb hKK.1 (z_P1 (hI.2.2.2.2 a 2 h1 (by omega) (by omega))) 0 2 rfl rfl (zix_in hh.2) hd ?_
          rw [e6]
          exact k _ _ _ _ _ hI hlo hL hc1 hc2
        · refine va_aldq (D := zD c) (cl := zcs) (C := "GleanersForGaps$Sheet") hx hb hKK.1 (z_P1 (hI.2.2.2.2 a 3 h1 (by omega) (by omega))) 0 3 rfl rfl (zix_in hh.2) hd ?_
          rw [e6]
          exact k _ _ _ _ _ hI hlo hL hc1 hc2
      · cases hs
    · cases hs
  · cases hs
theorem z_is {pc : Nat} {ls : zLs} {st : List Value} {F : zF} {G : zG} {q : zCf} (hx : p.tables.exec = Jvm.exec) (hb : cd.code = mi.2.2.1) (hown : s.vm.findClass (zC mi.1) = some m.cls) (hKK : zKK c s) (hI : zI c F G H) (hd : decode mi.2.2.1 pc = .ok (.iastore, 1)) (hs : (match st with
    | .int v :: .int i :: .ref a :: rest => if zsh F a = 100 ∧ zix i (zln F a) = true then some (pc + 1, ls, rest, F, (zu G.1 a i.toNatClampNeg v, G.2)) else none
    | _ => none) = some q) (k : zGo c p l e R s m args below meth cd Q LS mi.2.2.2.1 n0 s0 q) (hlo : ∀ x ∈ locs, zB c ≤ x.base) (hL : zL c LS mi.2.2.2.1 mls ls) (hc1 : cells + n0 = F.1) (hc2 : slots + s0 = F.2.1) : W p l e R s m args below meth cd H locs cells slots Q (F0 m pc mls (st.map (ztr c))) := by
  split at hs
  · rename_i v i a rest
    split at hs
    · rename_i hh
      cases hs
      have hat := hI.2.2.2.1 a 0 hh.1 (by omega)
      refine W.iast hx hb hat ((hKK.1.2 0 _ (ztys_at (by omega))).1 (zln F a) (fun j => .int (G.1 a j))) (fun z => by cases z) (by show ¬ (i < 0 ∨ (arrV _ _ _).slots.size ≤ _); rw [arrV_size]; exact zix_in hh.2) rfl rfl hd fun H1 e z oq => ?_
      refine k _ _ _ _ _ (zI_upd hI z oq rfl (fun _ => rfl) (fun _ => rfl) (fun _ _ => rfl) (fun b h => zu_n h) (fun _ _ => rfl) (fun ci h2 h9 => ?_) (fun t h2 h3 => ?_) (fun t h2 h3 h4 => ?_)) (z_lo hlo rfl) hL hc1 hc2
      · omega
      · have ht : t = 0 := by omega
        subst ht
        show H1[zB c + a]? = some (vp_cell _ _)
        rw [e]
        rw [vp_cell_i, vp_cell_i, arrV_store]
        congr 2
        funext z
        by_cases hz : z = i.toNatClampNeg
        · subst hz
          simp [updV, zu]
        · simp [updV, zu, hz]
      · omega
    · cases hs
  · cases hs
theorem z_bs {pc : Nat} {ls : zLs} {st : List Value} {F : zF} {G : zG} {q : zCf} (hx : p.tables.exec = Jvm.exec) (hb : cd.code = mi.2.2.1) (hown : s.vm.findClass (zC mi.1) = some m.cls) (hKK : zKK c s) (hI : zI c F G H) (hd : decode mi.2.2.1 pc = .ok (.bastore, 1)) (hs : (match st with
    | .int v :: .int i :: .ref a :: rest => if zsh F a = 101 ∧ zix i (zln F a) = true then some (pc + 1, ls, rest, F, (zu G.1 a i.toNatClampNeg (vp_nar .boolean v), G.2)) else none
    | _ => none) = some q) (k : zGo c p l e R s m args below meth cd Q LS mi.2.2.2.1 n0 s0 q) (hlo : ∀ x ∈ locs, zB c ≤ x.base) (hL : zL c LS mi.2.2.2.1 mls ls) (hc1 : cells + n0 = F.1) (hc2 : slots + s0 = F.2.1) : W p l e R s m args below meth cd H locs cells slots Q (F0 m pc mls (st.map (ztr c))) := by
  split at hs
  · rename_i v i a rest
    split at hs
    · rename_i hh
      cases hs
      have hat := hI.2.2.2.1 a 1 hh.1 (by omega)
      refine W.zast hx hb hat ((hKK.1.2 1 _ (ztys_at (by omega))).1 (zln F a) (fun j => .int (G.1 a j))) (fun z => by cases z) (by show ¬ (i < 0 ∨ (arrV _ _ _).slots.size ≤ _); rw [arrV_size]; exact zix_in hh.2) rfl rfl hd fun H1 e z oq => ?_
      refine k _ _ _ _ _ (zI_upd hI z oq rfl (fun _ => rfl) (fun _ => rfl) (fun _ _ => rfl) (fun b h => zu_n h) (fun _ _ => rfl) (fun ci h2 h9 => ?_) (fun t h2 h3 => ?_) (fun t h2 h3 h4 => ?_)) (z_lo hlo rfl) hL hc1 hc2
      · omega
      · have ht : t = 1 := by omega
        subst ht
        show H1[zB c + a]? = some (vp_cell _ _)
        rw [e]
        rw [vp_cell_i, vp_cell_i, arrV_store]
        congr 2
        funext z
        by_cases hz : z = i.toNatClampNeg
        · subst hz
          simp [updV, zu, vp_nar]
          try rfl
        · simp [updV, zu, hz]
      · omega
    · cases hs
  · cases hs
theorem z_as {pc : Nat} {ls : zLs} {st : List Value} {F : zF} {G : zG} {q : zCf} (hx : p.tables.exec = Jvm.exec) (hb : cd.code = mi.2.2.1) (hown : s.vm.findClass (zC mi.1) = some m.cls) (hKK : zKK c s) (hI : zI c F G H) (hd : decode mi.2.2.1 pc = .ok (.aastore, 1)) (hs : (match st with
    | .ref b :: .int i :: .ref a :: rest => if ((zsh F a = 102 ∧ zsh F b = 6) ∨ (zsh F a = 103 ∧ zsh F b = 3)) ∧ zix i (zln F a) = true then some (pc + 1, ls, rest, zputr F a i.toNatClampNeg b, G) else none
    | _ => none) = some q) (k : zGo c p l e R s m args below meth cd Q LS mi.2.2.2.1 n0 s0 q) (hlo : ∀ x ∈ locs, zB c ≤ x.base) (hL : zL c LS mi.2.2.2.1 mls ls) (hc1 : cells + n0 = F.1) (hc2 : slots + s0 = F.2.1) : W p l e R s m args below meth cd H locs cells slots Q (F0 m pc mls (st.map (ztr c))) := by
  split at hs
  · rename_i b i a rest
    split at hs
    · rename_i hh
      cases hs
      have hv := zix_in hh.2
      have hlt : i.toNatClampNeg < zln F a := Nat.not_le.mp fun z => hv (Or.inr z)
      have h0 : ¬ i < 0 := fun z => hv (Or.inl z)
      have go : ∀ t ci : Nat, zsh F a = 100 + t → 2 ≤ t → t < 4 → zsh F b = ci → ci < 9 → zelt t = .object (zC ci) → W p l e R s m args below meth cd H locs cells slots Q (F0 m pc mls ((Value.ref b :: Value.int i :: Value.ref a :: rest).map (ztr c))) := by
        intro t ci hta h2 h4 hcb hc9 he
        have hat := hI.2.2.2.2 a t hta h2 h4
        obtain ⟨r', hr', cellV, g1, g2, g3, -⟩ := hI.2.2.1 b ci hcb hc9
        have hcls := (hKK.1.1 ci _ (zcs_at hc9)).2
        have hRA := (hKK.1.2 t _ (ztys_at h4)).2
        dsimp only at hRA
        rw [he] at hRA
        obtain ⟨kA, comp, k1, k2, k3, -⟩ := hRA
        have hcomp : comp = (zD c).1 ci := Option.some.inj (k3.symm.trans hcls.1)
        subst hcomp
        obtain ⟨kC, hkC, -⟩ := hcls.2
        refine W.aast hx hb hat (fun z h => by cases h) (fun h => by cases h) k1 k2 rfl hkC ⟨h0, by show _ < (arrV _ _ _).slots.size; rw [arrV_size]; exact hlt⟩ g1 (fun z h => by rw [g3] at h; cases h) (by rw [g2]; exact hkC) (by rw [g2]; exact va_assign hcls) rfl rfl hd fun H1 e z oq => ?_
        refine k _ _ _ _ _ (zI_upd hI z oq rfl (fun _ => rfl) (fun _ => rfl) (fun b h => zu_n h) (fun _ _ => rfl) (fun _ _ => rfl) (fun ci h2 h9 => ?_) (fun t h2 h3 => ?_) (fun t2 h2 h3 h4 => ?_)) (z_lo hlo rfl) hL hc1 hc2
        · omega
        · omega
        · have ht : t2 = t := by omega
          subst ht
          show H1[zB c + a]? = some (vp_cell _ _)
          rw [e]
          rw [vp_cell_q, vp_cell_q, arrV_store]
          congr 2
          funext z
          by_cases hz : z = i.toNatClampNeg
          · subst hz
            simp [updV, zu, zrl, zrf, zputr, va_rf]
          · simp [updV, zu, zrl, zrf, zputr, hz]
      rcases hh.1 with ⟨h1, h2⟩ | ⟨h1, h2⟩
      · exact go 2 6 h1 (by omega) (by omega) h2 (by omega) rfl
      · exact go 3 3 h1 (by omega) (by omega) h2 (by omega) rfl
    · cases hs
  · cases hs
theorem z_nn {v : Int32} (h : v.toNatClampNeg ≤ 100000) : v.toNatClampNeg * 4 ≤ 536870912 := by omega
theorem z_na {pc : Nat} {ls : zLs} {st : List Value} {F : zF} {G : zG} {q : zCf} (hx : p.tables.exec = Jvm.exec) (hb : cd.code = mi.2.2.1) {t : ArrayType} (hts : ∀ w ∈ ztb, w.before args s = true) (hKK : zKK c s) (hI : zI c F G H) (hd : decode mi.2.2.1 pc = .ok (.newarray t, 2)) (hs : (match st with
    | .int v :: rest => if ¬ v < 0 ∧ v.toNatClampNeg ≤ 100000 ∧ (t = .int ∨ t = .boolean) then some (pc + 2, ls, .ref F.1 :: rest, znewF F (if t = .int then 100 else 101) v.toNatClampNeg, znewG F G) else none
    | _ => none) = some q) (k : zGo c p l e R s m args below meth cd Q LS mi.2.2.2.1 n0 s0 q) (hlo : ∀ x ∈ locs, zB c ≤ x.base) (hL : zL c LS mi.2.2.2.1 mls ls) (hc1 : cells + n0 = F.1) (hc2 : slots + s0 = F.2.1) (hr1 : q.2.2.2.1.1 ≤ R.cells + n0) (hr2 : q.2.2.2.1.2.1 ≤ R.slots + s0) : W p l e R s m args below meth cd H locs cells slots Q (F0 m pc mls (st.map (ztr c))) := by
  split at hs
  · rename_i v rest
    split at hs
    · rename_i hh
      cases hs
      have r1 : F.1 + 1 ≤ R.cells + n0 := hr1
      have r2 : F.2.1 + v.toNatClampNeg ≤ R.slots + s0 := hr2
      have go : ∀ tt : Nat, tt < 2 → newarray.typeOf t = zelt tt → (if t = .int then 100 else 101) = 100 + tt → Cond.arrayClass (newarray.typeOf t) ∈ ztb → defaultValue (newarray.typeOf t) = .int 0 → componentBytes (newarray.typeOf t) ≤ 4 → W p l e R s m args below meth cd H locs cells slots Q (F0 m pc mls ((Value.int v :: rest).map (ztr c))) := by
        intro tt htt hty hsh hac hdv hcb
        refine va_newaK hx hb (hts _ hac) rfl hd rfl hh.1 rfl (Nat.le_trans (Nat.mul_le_mul_left _ hcb) (z_nn hh.2.1)) (by omega) (by omega) rfl fun H1 cA e1 z1 o1 hAr hNm => ?_
        have hcA : cA = zcA c tt := by
          have hRA := (hKK.1.2 tt _ (ztys_at (by omega))).2
          dsimp only at hRA
          rw [hty] at hNm
          have : s.vm.findClass ("[" ++ (zelt tt).toString) = some (zcA c tt) := by
            rcases (show tt = 0 ∨ tt = 1 by omega) with rfl | rfl <;> exact hRA
          exact Option.some.inj (hNm.symm.trans this)
        have hsz := hI.1
        have h6 := k H1 locs mls (cells + 1) (slots + v.toNatClampNeg) (zI_new hI z1 o1 (fun h9 => by omega) (fun t2 h2 h3 => ?_) (fun t2 h2 h3 h4 => by omega)) hlo hL (by show _ = F.1 + 1; omega) (by show _ = F.2.1 + _; omega)
        · have e6 : ztr c (.ref F.1) = .ref H.size := by show Value.ref _ = _; rw [hsz]
          simp only [List.map_cons, e6] at h6
          exact h6
        · have ht : t2 = tt := by omega
          subst ht
          show H1[zB c + F.1]? = some (vp_cell _ _)
          rw [← hsz, e1, hdv, hcA]
          rfl
      rcases hh.2.2 with rfl | rfl
      · exact go 0 (by omega) rfl rfl z_arr.1 rfl (by decide)
      · exact go 1 (by omega) rfl rfl z_arr.2.1 rfl (by decide)
    · cases hs
  · cases hs
theorem z_nq {pc : Nat} {ls : zLs} {st : List Value} {F : zF} {G : zG} {q : zCf} (hx : p.tables.exec = Jvm.exec) (hb : cd.code = mi.2.2.1) {idx : Nat} (hown : s.vm.findClass (zC mi.1) = some m.cls) (hts : ∀ w ∈ ztb, w.before args s = true) (hKK : zKK c s) (hI : zI c F G H) (hd : decode mi.2.2.1 pc = .ok (.anewarray idx, 3)) (hs : (match st with
    | .int v :: rest => match zkln mi.1 idx with
      | some q => if ¬ v < 0 ∧ v.toNatClampNeg ≤ 100000 ∧ (q.2.2.1 = 6 ∨ q.2.2.1 = 3) then some (pc + 3, ls, .ref F.1 :: rest, znewF F (if q.2.2.1 = 6 then 102 else 103) v.toNatClampNeg, znewG F G) else none
      | none => none
    | _ => none) = some q) (k : zGo c p l e R s m args below meth cd Q LS mi.2.2.2.1 n0 s0 q) (hlo : ∀ x ∈ locs, zB c ≤ x.base) (hL : zL c LS mi.2.2.2.1 mls ls) (hc1 : cells + n0 = F.1) (hc2 : slots + s0 = F.2.1) (hr1 : q.2.2.2.1.1 ≤ R.cells + n0) (hr2 : q.2.2.2.1.2.1 ≤ R.slots + s0) : W p l e R s m args below meth cd H locs cells slots Q (F0 m pc mls (st.map (ztr c))) := by
  split at hs
  · rename_i v rest
    split at hs
    · rename_i y hy
      split at hs
      · rename_i hh
        cases hs
        have r1 : F.1 + 1 ≤ R.cells + n0 := hr1
        have r2 : F.2.1 + v.toNatClampNeg ≤ R.slots + s0 := hr2
        have hlk := hts _ (z_kln hy)
        have go : ∀ (tt : Nat) (C : String), 2 ≤ tt → tt < 4 → zC y.2.2.1 = C → zelt tt = .object C → (if y.2.2.1 = 6 then 102 else 103) = 100 + tt → va_AO C s → W p l e R s m args below meth cd H locs cells slots Q (F0 m pc mls ((Value.int v :: rest).map (ztr c))) := by
          intro tt C htt htt4 hC hty hsh hao
          rw [hC] at hlk
          refine W.anew hx hb hown hlk (va_AO.use hao) rfl hd rfl hh.1 (z_nn hh.2.1) (by omega) (by omega) fun cA kA comp f1 f2 f3 f4 => ?_
          have hRA := (hKK.1.2 tt _ (ztys_at htt4)).2
          dsimp only at hRA
          rw [hty] at hRA
          obtain ⟨kA', comp', k1, k2, k3, k4⟩ := hRA
          have hcA : cA = zcA c tt := Option.some.inj (f1.symm.trans k4)
          generalize hH1 : H.push ({ cls := cA, slots := Array.replicate v.toNatClampNeg .null, vm := .none } : Cell) = H1
          have z1 : H1.size = H.size + 1 := by rw [← hH1, Array.size_push]
          have e1 : H1[H.size]? = some (arrV cA v.toNatClampNeg (fun _ => .null)) := by rw [← hH1, Array.getElem?_push_size, ← arrV_new]
          have o1 : ∀ q : Nat, q < H.size → H1[q]? = H[q]? := fun q hq => by rw [← hH1, Array.getElem?_push, if_neg (Nat.ne_of_lt hq)]
          have hsz := hI.1
          have h6 := k H1 locs mls (cells + 1) (slots + v.toNatClampNeg) (zI_new hI z1 o1 (fun h9 => by omega) (fun t2 h2 h3 => by omega) (fun t2 h2 h3 h4 => ?_)) hlo hL (by show _ = F.1 + 1; omega) (by show _ = F.2.1 + _; omega)
          · have e6 : ztr c (.ref F.1) = .ref H.size := by show Value.ref _ = _; rw [hsz]
            simp only [List.map_cons, e6] at h6
            exact h6
          · have ht : t2 = tt := by omega
            subst ht
            show H1[zB c + F.1]? = some (vp_cell _ _)
            rw [← hsz, e1, hcA]
            rfl
        rcases hh.2.2 with e | e
        · exact go 2 "GleanersForGaps$Text" (by omega) (by omega) (by rw [e]; rfl) rfl (by rw [if_pos e]) hKK.2.2.1.1
        · exact go 3 "GleanersForGaps$Sheet" (by omega) (by omega) (by rw [e]; rfl) rfl (by rw [if_neg (by omega)]) hKK.2.2.1.2
      · cases hs
    · cases hs
  · cases hs
theorem z_nw {pc : Nat} {ls : zLs} {st : List Value} {F : zF} {G : zG} {q : zCf} (hx : p.tables.exec = Jvm.exec) (hb : cd.code = mi.2.2.1) {idx ci : Nat} (hown : s.vm.findClass (zC mi.1) = some m.cls) (hts : ∀ w ∈ ztb, w.before args s = true) (hKK : zKK c s) (hlk : Cond.classLink (zC mi.1) idx (zC ci) ∈ ztb) (hI : zI c F G H) (hd : decode mi.2.2.1 pc = .ok (.new idx, 3)) (hs : (if ci < 9 then some (pc + 3, ls, .ref F.1 :: st, znewF F ci (zN ci), znewG F G) else none) = some q) (k : zGo c p l e R s m args below meth cd Q LS mi.2.2.2.1 n0 s0 q) (hlo : ∀ x ∈ locs, zB c ≤ x.base) (hL : zL c LS mi.2.2.2.1 mls ls) (hc1 : cells + n0 = F.1) (hc2 : slots + s0 = F.2.1) (hr1 : q.2.2.2.1.1 ≤ R.cells + n0) (hr2 : q.2.2.2.1.2.1 ≤ R.slots + s0) : W p l e R s m args below meth cd H locs cells slots Q (F0 m pc mls (st.map (ztr c))) := by
  split at hs
  · rename_i hc9
    cases hs
    have r1 : F.1 + 1 ≤ R.cells + n0 := hr1
    have r2 : F.2.1 + zN ci ≤ R.slots + s0 := hr2
    have hKn := hKK.1.1 ci _ (zcs_at hc9)
    refine W.newcK hx hb hown (hts _ hlk) (hts _ (z_ins hc9).1) (hts _ (z_ins hc9).2) rfl hd (by omega) (by omega) hKn.2.1 rfl fun H1 kC hkC e1 z1 o1 => ?_
    have hsz := hI.1
    have h6 := k H1 locs mls (cells + 1) (slots + zN ci) (zI_new hI z1 o1 (fun h9 => ?_) (fun t2 h2 h3 => by omega) (fun t2 h2 h3 h4 => by omega)) hlo hL (by show _ = F.1 + 1; omega) (by show _ = F.2.1 + _; omega)
    · have e6 : ztr c (.ref F.1) = .ref H.size := by show Value.ref _ = _; rw [hsz]
      simp only [List.map_cons, e6] at h6
      exact h6
    · refine ⟨_, zcs_at hc9, ?_⟩
      have hborn := u_born (zty ci) hts (z_uws hc9) hKn hkC e1 (zty_ok ci hc9)
      dsimp only
      rw [← hsz]
      refine hborn.to (fun j hj => ?_)
      unfold vp_V
      rw [List.getD_eq_getElem?_getD, zfs_at hj]
      show _ = zfv c (znewF F ci (zN ci)) (znewG F G) ci F.1 j
      have g1 : (znewG F G).1 F.1 j = 0 := by show zur G.1 F.1 _ F.1 j = 0; rw [zur_s]
      have g2 : (znewG F G).2 F.1 j = 0 := by show zur G.2 F.1 _ F.1 j = 0; rw [zur_s]
      have g3 : zrf (znewF F ci (zN ci)) F.1 j = none := by show zur F.2.2.2.2 F.1 _ F.1 j = none; rw [zur_s]
      unfold zfv
      rw [g1, g2, g3]
      rcases ztyk_ok ci hc9 j hj with e | e | e | e
      · rw [e]; rfl
      · rw [e]; rfl
      · rw [e]; rfl
      · cases hz : zty ci j <;> rw [hz] at e <;> first | rfl | cases e
  · cases hs
theorem z_mx {pc : Nat} {ls : zLs} {st : List Value} {F : zF} {G : zG} {q : zCf} (hx : p.tables.exec = Jvm.exec) (hb : cd.code = mi.2.2.1) {idx y : Nat} (hml : cd.maxLocals = mi.2.2.2.1) (hown : s.vm.findClass (zC mi.1) = some m.cls) (hts : ∀ w ∈ ztb, w.before args s = true) (hCx : zCx c) (hw : (y = 1 ∧ Cond.methodLink (zC mi.1) idx Lib.Math.max.name ∈ ztb) ∨ (y = 0 ∧ Cond.methodLink (zC mi.1) idx Lib.Math.min.name ∈ ztb)) (hI : zI c F G H) (hd : decode mi.2.2.1 pc = .ok (.invokestatic idx, 3)) (hs : (match st with
      | .int y' :: .int v :: rest => if (rest.map zcat).sum ≤ 8 then if y = 1 then some (pc + 3, ls, .int (if v < y' then y' else v) :: rest, F, G) else some (pc + 3, ls, .int (if y' < v then y' else v) :: rest, F, G) else none
      | _ => none) = some q) (k : zGo c p l e R s m args below meth cd Q LS mi.2.2.2.1 n0 s0 q) (hlo : ∀ x ∈ locs, zB c ≤ x.base) (hL : zL c LS mi.2.2.2.1 mls ls) (hc1 : cells + n0 = F.1) (hc2 : slots + s0 = F.2.1) (hr1 : q.2.2.2.1.1 ≤ R.cells + n0) (hr2 : q.2.2.2.1.2.1 ≤ R.slots + s0) (hfr : d + 1 ≤ R.frames) (hlc : 64 * (d + 1) ≤ R.locals) : W p l e R s m args below meth cd H locs cells slots Q (F0 m pc mls (st.map (ztr c))) := by
  split at hs
  · rename_i y' v rest
    split at hs
    · rename_i h8
      rw [← zcats hCx] at h8
      have hq : q.2.2.2.1 = F := by split at hs <;> (cases hs; rfl)
      rw [hq] at hr1 hr2
      rcases hw with ⟨h1, h2⟩ | ⟨h1, h2⟩
      · rw [if_pos h1] at hs
        cases hs
        exact va_mmax hx hb (by rw [hml, hL.1]) hown (hts _ h2) (hts _ z_mxw.1.1) (hts _ z_mxw.2.2) (hts _ z_mxw.1.2) (by omega) (by omega) (by omega) (by omega) hd (k _ _ _ _ _ hI hlo hL hc1 hc2)
      · rw [if_neg (by omega)] at hs
        cases hs
        exact va_mmin hx hb (by rw [hml, hL.1]) hown (hts _ h2) (hts _ z_mxw.2.1.1) (hts _ z_mxw.2.2) (hts _ z_mxw.2.1.2) (by omega) (by omega) (by omega) (by omega) hd (k _ _ _ _ _ hI hlo hL hc1 hc2)
    · cases hs
  · cases hs
theorem z_nnn {z : Int32} (hz : ¬ z < 0) : z.toInt = (z.toNatClampNeg : Int) := by
  have hz0 : (0 : Int) ≤ z.toInt := by
    have := Int32.not_lt.mp hz
    simpa using Int32.le_iff_toInt_le.mp this
  show z.toInt = ((z.toInt.toNat : Nat) : Int)
  omega
theorem z_ac {pc : Nat} {ls : zLs} {st : List Value} {F : zF} {G : zG} {q : zCf} (hx : p.tables.exec = Jvm.exec) (hb : cd.code = mi.2.2.1) {idx : Nat} {q2 : List Value × zG} (hml : cd.maxLocals = mi.2.2.2.1) (hown : s.vm.findClass (zC mi.1) = some m.cls) (hts : ∀ w ∈ ztb, w.before args s = true) (hKK : zKK c s) (hCx : zCx c) (hlk : Cond.methodLink (zC mi.1) idx arraycopyName ∈ ztb) (hI : zI c F G H) (hd : decode mi.2.2.1 pc = .ok (.invokestatic idx, 3)) (hs : zacp F G st = some q2) (hq : (pc + 3, ls, q2.1, F, q2.2) = q) (k : zGo c p l e R s m args below meth cd Q LS mi.2.2.2.1 n0 s0 q) (hlo : ∀ x ∈ locs, zB c ≤ x.base) (hL : zL c LS mi.2.2.2.1 mls ls) (hc1 : cells + n0 = F.1) (hc2 : slots + s0 = F.2.1) (hfr : d + 1 ≤ R.frames) (hlc : 64 * (d + 1) ≤ R.locals) : W p l e R s m args below meth cd H locs cells slots Q (F0 m pc mls (st.map (ztr c))) := by
  subst hq
  unfold zacp at hs
  split at hs
  · rename_i n dp b sp a rest
    split at hs
    · rename_i hh
      cases hs
      obtain ⟨ha, hb1, h1, h2, h3, h4, h5, h8⟩ := hh
      rw [← zcats hCx] at h8
      intro T hT X
      have hc0 : H[zB c + a]? = some (vp_cell (zcA c 0) (zln F a, .inl (G.1 a))) := hI.2.2.2.1 a 0 ha (by omega)
      have hc3 : H[zB c + b]? = some (vp_cell (zcA c 0) (zln F b, .inl (G.1 b))) := hI.2.2.2.1 b 0 hb1 (by omega)
      obtain ⟨-, k0, hk0, cm0, hkk0⟩ := (hKK.1.2 0 _ (ztys_at (by omega))).1 (zln F a) (fun j => .int (G.1 a j))
      obtain ⟨-, k1, hk1, cm1, hkk1⟩ := (hKK.1.2 0 _ (ztys_at (by omega))).1 (zln F b) (fun j => .int (G.1 b j))
      obtain ⟨vm', X', step⟩ := X.arraycopy hx hown (hts _ hlk) (hts _ z_acw.1) (hts _ z_acw.2.1) (hts _ z_acw.2.2) (src := zB c + a) (dst := zB c + b) (cs := vp_cell (zcA c 0) (zln F a, .inl (G.1 a))) (cd := vp_cell (zcA c 0) (zln F b, .inl (G.1 b))) (srcPos := sp) (destPos := dp) (n := n) (by rw [hT]; exact hc0) (by rw [hT]; exact hc3)
        (fun _ h => by cases h) (fun _ h => by cases h) (fun h => by cases h) (fun h => by cases h) hk0 hk1 hkk0 hkk1 (by simp [zelt, refKind]) h1 h2 h3
        (by rw [z_nnn h1, z_nnn h3]; show ¬ _ > ((arrV (zcA c 0) (zln F a) (fun j => .int (G.1 a j))).slots.size : Int); rw [arrV_size]; omega)
        (by rw [z_nnn h2, z_nnn h3]; show ¬ _ > ((arrV (zcA c 0) (zln F b) (fun j => .int (G.1 b j))).slots.size : Int); rw [arrV_size]; omega)
        (fun vm₁ _ i hi => by
          have e : (vp_cell (zcA c 0) (zln F a, .inl (G.1 a))).slots.getD (sp.toNatClampNeg + i) .null = .int (G.1 a (sp.toNatClampNeg + i)) := by
            show (arrV (zcA c 0) (zln F a) (fun j => .int (G.1 a j))).slots.getD _ _ = _
            rw [Array.getD_eq_getD_getElem?, arrV_read _ _ (by omega)]
            rfl
          refine ⟨?_, ?_⟩
          · rw [e]
            rfl
          · rw [e]
            exact trivial)
        (g := F0 m pc mls (.int n :: .int dp :: .ref (zB c + b) :: .int sp :: .ref (zB c + a) :: rest.map (ztr c))) rfl (by rw [hml, ← hL.1]) (rest := rest.map (ztr c)) rfl (by rw [hb]; exact hd) (by omega) (by
          have : nativeFrameWords "java/lang/System" "arraycopy" 5 + 11 ≤ 48 := by decide
          show 2 * 0 + _ + _ ≤ _
          omega)
      have e1 : copied (vp_cell (zcA c 0) (zln F a, .inl (G.1 a))) (vp_cell (zcA c 0) (zln F b, .inl (G.1 b))) sp dp n = vp_cell (zcA c 0) (zln F b, .inl (va_cpy (G.1 a) (G.1 b) sp.toNatClampNeg dp.toNatClampNeg n.toNatClampNeg)) := va_copied (fun z => .int z) (zcA c 0) (zcA c 0) (G.1 a) (G.1 b) h4
      rw [e1] at X' step
      have hl : zB c + b < H.size := (Array.getElem?_eq_some_iff.mp hc3).1
      generalize hH1 : H.setIfInBounds (zB c + b) (vp_cell (zcA c 0) (zln F b, .inl (va_cpy (G.1 a) (G.1 b) sp.toNatClampNeg dp.toNatClampNeg n.toNatClampNeg))) = H1
      have hheap : ((T.setVm vm').setCell (zB c + b) (vp_cell (zcA c 0) (zln F b, .inl (va_cpy (G.1 a) (G.1 b) sp.toNatClampNeg dp.toNatClampNeg n.toNatClampNeg)))).heap = H1 := by rw [← hH1, ← hT]; rfl
      have oq : ∀ q : Nat, q ≠ zB c + b → H1[q]? = H[q]? := fun q hq => by rw [← hH1]; simp [Array.getElem?_setIfInBounds, Ne.symm hq]
      obtain ⟨t, a1, b1⟩ := k H1 _ _ _ _ (zI_upd (a := b) hI (by rw [← hH1]; simp) oq rfl (fun _ => rfl) (fun _ => rfl) (fun _ _ => rfl) (fun b' h => zur_n h) (fun _ _ => rfl) (fun ci h2 h9 => by omega) (fun t h2 h3 => by
        have ht : t = 0 := by omega
        subst ht
        show H1[zB c + b]? = some (vp_cell _ _)
        rw [← hH1]
        show _ = some (vp_cell _ (_, .inl (zur G.1 b _ b)))
        rw [zur_s, Array.getElem?_setIfInBounds, if_pos rfl, if_pos hl]) (fun t h2 h3 h4 => by omega)) (fun x hx => by
          rcases List.mem_append.mp hx with h | h
          · exact hlo x h
          · obtain ⟨z, -, hz⟩ := List.mem_map.mp h
            rw [← hz]
            exact Nat.le_add_right _ _) hL hc1 hc2 _ hheap X'
      exact ⟨t, step t a1, b1⟩
    · cases hs
  · cases hs
theorem z_oi {pc : Nat} {ls : zLs} {st : List Value} {F : zF} {G : zG} (hx : p.tables.exec = Jvm.exec) (hb : cd.code = mi.2.2.1) {idx : Nat} {rest : List Value} (hml : cd.maxLocals = mi.2.2.2.1) (hown : s.vm.findClass (zC mi.1) = some m.cls) (hts : ∀ w ∈ ztb, w.before args s = true) (hCx : zCx c) (hlk : Cond.methodLink (zC mi.1) idx objectInit ∈ ztb) (hI : zI c F G H) (hd : decode mi.2.2.1 pc = .ok (.invokespecial idx, 3)) (hs : zoi F st = some rest) (k : zGo c p l e R s m args below meth cd Q LS mi.2.2.2.1 n0 s0 (pc + 3, ls, rest, F, G)) (hlo : ∀ x ∈ locs, zB c ≤ x.base) (hL : zL c LS mi.2.2.2.1 mls ls) (hc1 : cells + n0 = F.1) (hc2 : slots + s0 = F.2.1) (hfr : d + 1 ≤ R.frames) (hlc : 64 * (d + 1) ≤ R.locals) : W p l e R s m args below meth cd H locs cells slots Q (F0 m pc mls (st.map (ztr c))) := by
  unfold zoi at hs
  split at hs
  · rename_i a rest'
    split at hs
    · rename_i hh
      cases hs
      have h8 := hh.2
      rw [← zcats hCx] at h8
      exact W.objInit hx hb hown (hts _ hlk) (hts _ z_oiw.1) (hts _ z_oiw.2) rfl (by rw [hml]; exact hL.1) rfl hd (by omega) (by show 2 * 0 + _ + 12 ≤ _; omega) (k _ _ _ _ _ hI hlo hL hc1 hc2)
    · cases hs
  · cases hs
set_option maxHeartbeats 4000000 in
theorem z_si {op : Instr} {len pc : Nat} {ls : zLs} {st : List Value} {F : zF} {G : zG} {q : zCf} (X : zFr c p R s m args meth cd mi d) (hd : decode mi.2.2.1 pc = .ok (op, len)) (hs : zsi (zxs c) mi.1 LS (mi.2.1.name == "<init>") op len pc ls st F G = some q) (hI : zI c F G H) (hss : s.heap.size ≤ H.size) (hlo : ∀ x ∈ locs, zB c ≤ x.base) (hL : zL c LS mi.2.2.2.1 mls ls) (hc1 : cells + n0 = F.1) (hc2 : slots + s0 = F.2.1) (hr1 : q.2.2.2.1.1 ≤ R.cells + n0) (hr2 : q.2.2.2.1.2.1 ≤ R.slots + s0)
    (k : zGo c p l e R s m args below meth cd Q LS mi.2.2.2.1 n0 s0 q) : W p l e R s m args below meth cd H locs cells slots Q (F0 m pc mls (st.map (ztr c))) := by
  obtain ⟨hx, hb, hml, hown, hts, hKK, hCx, hnm, hlow, hbs, hfr, hlc⟩ := X
  cases op with
  | iconst n =>
    simp only [zsi] at hs
    split at hs
    · rename_i hlen
      subst hlen
      cases hs
      exact lv_iconst hx hb hd rfl (k _ _ _ _ _ hI hlo hL hc1 hc2)
    · cases hs
  | bipush n =>
    simp only [zsi] at hs
    split at hs
    · rename_i hlen
      subst hlen
      cases hs
      exact lv_bipush hx hb hd rfl (k _ _ _ _ _ hI hlo hL hc1 hc2)
    · cases hs
  | sipush n =>
    simp only [zsi] at hs
    split at hs
    · rename_i hlen
      subst hlen
      cases hs
      exact lv_sipush hx hb hd rfl (k _ _ _ _ _ hI hlo hL hc1 hc2)
    · cases hs
  | lconst n =>
    simp only [zsi] at hs
    split at hs
    · rename_i hlen
      subst hlen
      cases hs
      exact lv_lconst hx hb hd rfl (k _ _ _ _ _ hI hlo hL hc1 hc2)
    · cases hs
  | ldc idx =>
    simp only [zsi] at hs
    split at hs
    · rename_i hlen
      subst hlen
      split at hs
      · rename_i q hq
        cases hs
        exact lv_ldc hx hb hown (hts _ (z_num hq)) hd (k _ _ _ _ _ hI hlo hL hc1 hc2)
      · split at hs
        · rename_i kk hk
          cases hs
          obtain ⟨q, h1, h2, h3, h4⟩ := z_str hk
          have h5 := hKK.2.2.2.2.2.2 kk q h1
          rw [h2, h3] at h5
          have e5 : (UInt32.ofNat kk).toNat = kk := (by decide +kernel : ∀ k, k < 13 → (UInt32.ofNat k).toNat = k) kk (by omega)
          refine va_ldcS hx hb hown h5 hd ?_
          have h6 := k _ _ _ _ _ hI hlo hL hc1 hc2
          have e6 : ztr c (.float (UInt32.ofNat kk)) = .ref (zaK c kk) := by show Value.ref (zaK c (UInt32.ofNat kk).toNat) = _; rw [e5]
          simp only [List.map_cons, e6] at h6
          exact h6
        · cases hs
    · cases hs
  | ldc_w idx =>
    simp only [zsi] at hs
    split at hs
    · rename_i hlen
      subst hlen
      split at hs
      · rename_i q hq
        cases hs
        exact lv_ldcw hx hb hown (hts _ (z_num hq)) hd (k _ _ _ _ _ hI hlo hL hc1 hc2)
      · cases hs
    · cases hs
  | ldc2_w idx =>
    simp only [zsi] at hs
    split at hs
    · rename_i hlen
      subst hlen
      split at hs
      · rename_i q hq
        cases hs
        exact lv_ldc2 hx hb hown (hts _ (z_lng hq)) hd (k _ _ _ _ _ hI hlo hL hc1 hc2)
      · cases hs
    · cases hs
  | iload_n j =>
    simp only [zsi] at hs
    split at hs
    · rename_i hlen
      subst hlen
      obtain ⟨v, hg, ho, rfl⟩ := zld_inv hs
      obtain ⟨y, rfl⟩ := zki_inv ho
      exact lv_iload_n hx hb hd rfl (hL.2.2.2.1 _ _ hg) (k _ _ _ _ _ hI hlo hL hc1 hc2)
    · cases hs
  | iload j =>
    simp only [zsi] at hs
    split at hs
    · rename_i hlen
      subst hlen
      obtain ⟨v, hg, ho, rfl⟩ := zld_inv hs
      obtain ⟨y, rfl⟩ := zki_inv ho
      exact lv_iload hx hb hd (hL.2.2.2.1 _ _ hg) (k _ _ _ _ _ hI hlo hL hc1 hc2)
    · cases hs
  | lload_n j =>
    simp only [zsi] at hs
    split at hs
    · rename_i hlen
      subst hlen
      obtain ⟨v, hg, ho, rfl⟩ := zld_inv hs
      obtain ⟨y, rfl⟩ := zkl_inv ho
      exact lv_lload_n hx hb hd rfl (hL.2.2.2.1 _ _ hg) (k _ _ _ _ _ hI hlo hL hc1 hc2)
    · cases hs
  | lload j =>
    simp only [zsi] at hs
    split at hs
    · rename_i hlen
      subst hlen
      obtain ⟨v, hg, ho, rfl⟩ := zld_inv hs
      obtain ⟨y, rfl⟩ := zkl_inv ho
      exact lv_lload hx hb hd (hL.2.2.2.1 _ _ hg) (k _ _ _ _ _ hI hlo hL hc1 hc2)
    · cases hs
  | aload_n j =>
    simp only [zsi] at hs
    split at hs
    · rename_i hlen
      subst hlen
      obtain ⟨v, hg, ho, rfl⟩ := zld_inv hs
      obtain ⟨a, ha⟩ := ztr_isr (c := c) ho
      have h6 := k _ _ _ _ _ hI hlo hL hc1 hc2
      have h7 := hL.2.2.2.1 _ _ hg
      simp only [List.map_cons, ha] at h6 h7
      exact lv_aload_n hx hb hd rfl h7 h6
    · cases hs
  | aload j =>
    simp only [zsi] at hs
    split at hs
    · rename_i hlen
      subst hlen
      obtain ⟨v, hg, ho, rfl⟩ := zld_inv hs
      obtain ⟨a, ha⟩ := ztr_isr (c := c) ho
      have h6 := k _ _ _ _ _ hI hlo hL hc1 hc2
      have h7 := hL.2.2.2.1 _ _ hg
      simp only [List.map_cons, ha] at h6 h7
      exact lv_aload hx hb hd h7 h6
    · cases hs
  | istore_n j =>
    simp only [zsi] at hs
    split at hs
    · rename_i hlen
      subst hlen
      obtain ⟨v, rest, rfl, ho, hi, hls, rfl⟩ := zst1_inv hs
      obtain ⟨y, rfl⟩ := zki_inv ho
      exact lv_istore_n hx hb hd rfl (zL_has hL) (by rw [← hL.2.1]; exact hi) rfl (fun mls1 h1 => k _ _ _ _ _ hI hlo (zL_st1 hCx hL hi (fun _ h => by cases h) hls h1) hc1 hc2)
    · cases hs
  | astore_n j =>
    simp only [zsi] at hs
    split at hs
    · rename_i hlen
      subst hlen
      obtain ⟨v, rest, rfl, ho, hi, hls, rfl⟩ := zst1_inv hs
      obtain ⟨a, ha⟩ := ztr_isr (c := c) ho
      have h6 : ∀ mls1 : Array Slot, lv_has mls1 mi.2.2.2.1 (((j : Nat), ztr c v) :: (zas c ls).filter (fun q => !(q.1 == (j : Nat)) && !(q.1 + 1 == (j : Nat) && q.2.category == 2))) → _ := fun mls1 h1 => k _ _ _ _ _ hI hlo (zL_st1 hCx hL hi (zisr_nl ho) hls h1) hc1 hc2
      simp only [List.map_cons, ha] at h6 ⊢
      exact lv_astore_n hx hb hd rfl (zL_has hL) (by rw [← hL.2.1]; exact hi) rfl h6
    · cases hs
  | lstore_n j =>
    simp only [zsi] at hs
    split at hs
    · rename_i hlen
      subst hlen
      obtain ⟨y, rest, rfl, hi, hm, hls, rfl⟩ := zst2_inv hs
      exact lv_lstore_n hx hb hd rfl (zL_has hL) (by rw [← hL.2.1]; exact hi) rfl (fun mls1 h1 => k _ _ _ _ _ hI hlo (zL_st2 hCx hL hi hm hls h1) hc1 hc2)
    · cases hs
  | istore j =>
    simp only [zsi] at hs
    split at hs
    · rename_i hlen
      subst hlen
      obtain ⟨v, rest, rfl, ho, hi, hls, rfl⟩ := zst1_inv hs
      obtain ⟨y, rfl⟩ := zki_inv ho
      exact lv_istore hx hb hd (zL_has hL) (by rw [← hL.2.1]; exact hi) rfl (fun mls1 h1 => k _ _ _ _ _ hI hlo (zL_st1 hCx hL hi (fun _ h => by cases h) hls h1) hc1 hc2)
    · cases hs
  | astore j =>
    simp only [zsi] at hs
    split at hs
    · rename_i hlen
      subst hlen
      obtain ⟨v, rest, rfl, ho, hi, hls, rfl⟩ := zst1_inv hs
      obtain ⟨a, ha⟩ := ztr_isr (c := c) ho
      have h6 : ∀ mls1 : Array Slot, lv_has mls1 mi.2.2.2.1 (((j : Nat), ztr c v) :: (zas c ls).filter (fun q => !(q.1 == (j : Nat)) && !(q.1 + 1 == (j : Nat) && q.2.category == 2))) → _ := fun mls1 h1 => k _ _ _ _ _ hI hlo (zL_st1 hCx hL hi (zisr_nl ho) hls h1) hc1 hc2
      simp only [List.map_cons, ha] at h6 ⊢
      exact lv_astore hx hb hd (zL_has hL) (by rw [← hL.2.1]; exact hi) rfl h6
    · cases hs
  | lstore j =>
    simp only [zsi] at hs
    split at hs
    · rename_i hlen
      subst hlen
      obtain ⟨y, rest, rfl, hi, hm, hls, rfl⟩ := zst2_inv hs
      exact lv_lstore hx hb hd (zL_has hL) (by rw [← hL.2.1]; exact hi) rfl (fun mls1 h1 => k _ _ _ _ _ hI hlo (zL_st2 hCx hL hi hm hls h1) hc1 hc2)
    · cases hs
  | iinc j n =>
    simp only [zsi] at hs
    split at hs
    · rename_i hlen
      subst hlen
      split at hs
      · rename_i v hv
        split at hs
        · rename_i hi
          cases hs
          obtain ⟨kk, hk⟩ := List.getElem?_of_mem (zas_mem.mpr ⟨_, hv, rfl⟩ : ((j, ztr c (.int v)) : Nat × Value) ∈ zas c ls)
          exact lv_iinc hx hb hd (zL_has hL) hk rfl (by rw [← hL.2.1]; exact hi.1) rfl (fun mls1 h1 => k _ _ _ _ _ hI hlo (zL_st1 hCx hL hi.1 (fun _ h => by cases h) hi.2 h1) hc1 hc2)
        · cases hs
      · cases hs
    · cases hs
  | iadd =>
    simp only [zsi] at hs
    split at hs
    · rename_i hlen
      subst hlen
      obtain ⟨x, y, rest, v, rfl, hv, rfl⟩ := zbin_inv hs
      cases hv
      exact lv_iadd hx hb hd (k _ _ _ _ _ hI hlo hL hc1 hc2)
    · cases hs
  | isub =>
    simp only [zsi] at hs
    split at hs
    · rename_i hlen
      subst hlen
      obtain ⟨x, y, rest, v, rfl, hv, rfl⟩ := zbin_inv hs
      cases hv
      exact lv_isub hx hb hd (k _ _ _ _ _ hI hlo hL hc1 hc2)
    · cases hs
  | imul =>
    simp only [zsi] at hs
    split at hs
    · rename_i hlen
      subst hlen
      obtain ⟨x, y, rest, v, rfl, hv, rfl⟩ := zbin_inv hs
      cases hv
      exact lv_imul hx hb hd (k _ _ _ _ _ hI hlo hL hc1 hc2)
    · cases hs
  | iand =>
    simp only [zsi] at hs
    split at hs
    · rename_i hlen
      subst hlen
      obtain ⟨x, y, rest, v, rfl, hv, rfl⟩ := zbin_inv hs
      cases hv
      exact lv_iand hx hb hd (k _ _ _ _ _ hI hlo hL hc1 hc2)
    · cases hs
  | ior =>
    simp only [zsi] at hs
    split at hs
    · rename_i hlen
      subst hlen
      obtain ⟨x, y, rest, v, rfl, hv, rfl⟩ := zbin_inv hs
      cases hv
      exact lv_ior hx hb hd (k _ _ _ _ _ hI hlo hL hc1 hc2)
    · cases hs
  | ixor =>
    simp only [zsi] at hs
    split at hs
    · rename_i hlen
      subst hlen
      obtain ⟨x, y, rest, v, rfl, hv, rfl⟩ := zbin_inv hs
      cases hv
      exact lv_ixor hx hb hd (k _ _ _ _ _ hI hlo hL hc1 hc2)
    · cases hs
  | ishl =>
    simp only [zsi] at hs
    split at hs
    · rename_i hlen
      subst hlen
      obtain ⟨x, y, rest, v, rfl, hv, rfl⟩ := zbin_inv hs
      cases hv
      exact lv_ishl hx hb hd (k _ _ _ _ _ hI hlo hL hc1 hc2)
    · cases hs
  | ishr =>
    simp only [zsi] at hs
    split at hs
    · rename_i hlen
      subst hlen
      obtain ⟨x, y, rest, v, rfl, hv, rfl⟩ := zbin_inv hs
      cases hv
      exact lv_ishr hx hb hd (k _ _ _ _ _ hI hlo hL hc1 hc2)
    · cases hs
  | iushr =>
    simp only [zsi] at hs
    split at hs
    · rename_i hlen
      subst hlen
      obtain ⟨x, y, rest, v, rfl, hv, rfl⟩ := zbin_inv hs
      cases hv
      exact lv_iushr hx hb hd rfl (k _ _ _ _ _ hI hlo hL hc1 hc2)
    · cases hs
  | idiv =>
    simp only [zsi] at hs
    split at hs
    · rename_i hlen
      subst hlen
      obtain ⟨x, y, rest, v, rfl, hv, rfl⟩ := zbin_inv hs
      split at hv
      · cases hv
      · rename_i hy
        cases hv
        exact lv_idiv hx hb hd hy (k _ _ _ _ _ hI hlo hL hc1 hc2)
    · cases hs
  | irem =>
    simp only [zsi] at hs
    split at hs
    · rename_i hlen
      subst hlen
      obtain ⟨x, y, rest, v, rfl, hv, rfl⟩ := zbin_inv hs
      split at hv
      · cases hv
      · rename_i hy
        cases hv
        exact lv_irem hx hb hd hy (k _ _ _ _ _ hI hlo hL hc1 hc2)
    · cases hs
  | ineg =>
    simp only [zsi] at hs
    split at hs
    · rename_i hlen
      subst hlen
      obtain ⟨x, rest, rfl, rfl⟩ := zun_inv hs
      exact lv_ineg hx hb hd (k _ _ _ _ _ hI hlo hL hc1 hc2)
    · cases hs
  | i2l =>
    simp only [zsi] at hs
    split at hs
    · rename_i hlen
      subst hlen
      obtain ⟨x, rest, rfl, rfl⟩ := zun_inv hs
      exact lv_i2l hx hb hd rfl (k _ _ _ _ _ hI hlo hL hc1 hc2)
    · cases hs
  | i2b =>
    simp only [zsi] at hs
    split at hs
    · rename_i hlen
      subst hlen
      obtain ⟨x, rest, rfl, rfl⟩ := zun_inv hs
      exact lv_i2b hx hb hd rfl (k _ _ _ _ _ hI hlo hL hc1 hc2)
    · cases hs
  | i2s =>
    simp only [zsi] at hs
    split at hs
    · rename_i hlen
      subst hlen
      obtain ⟨x, rest, rfl, rfl⟩ := zun_inv hs
      exact lv_i2s hx hb hd rfl (k _ _ _ _ _ hI hlo hL hc1 hc2)
    · cases hs
  | i2c =>
    simp only [zsi] at hs
    split at hs
    · rename_i hlen
      subst hlen
      obtain ⟨x, rest, rfl, rfl⟩ := zun_inv hs
      exact lv_i2c hx hb hd rfl (k _ _ _ _ _ hI hlo hL hc1 hc2)
    · cases hs
  | l2i =>
    simp only [zsi] at hs
    split at hs
    · rename_i hlen
      subst hlen
      split at hs
      · cases hs
        exact lv_l2i hx hb hd rfl (k _ _ _ _ _ hI hlo hL hc1 hc2)
      · cases hs
    · cases hs
  | ladd =>
    simp only [zsi] at hs
    split at hs
    · rename_i hlen
      subst hlen
      obtain ⟨x, y, rest, v, rfl, hv, rfl⟩ := zbin2_inv hs
      cases hv
      exact lv_ladd hx hb hd (k _ _ _ _ _ hI hlo hL hc1 hc2)
    · cases hs
  | lsub =>
    simp only [zsi] at hs
    split at hs
    · rename_i hlen
      subst hlen
      obtain ⟨x, y, rest, v, rfl, hv, rfl⟩ := zbin2_inv hs
      cases hv
      exact lv_lsub hx hb hd (k _ _ _ _ _ hI hlo hL hc1 hc2)
    · cases hs
  | lmul =>
    simp only [zsi] at hs
    split at hs
    · rename_i hlen
      subst hlen
      obtain ⟨x, y, rest, v, rfl, hv, rfl⟩ := zbin2_inv hs
      cases hv
      exact lv_lmul hx hb hd (k _ _ _ _ _ hI hlo hL hc1 hc2)
    · cases hs
  | ldiv =>
    simp only [zsi] at hs
    split at hs
    · rename_i hlen
      subst hlen
      obtain ⟨x, y, rest, v, rfl, hv, rfl⟩ := zbin2_inv hs
      split at hv
      · cases hv
      · rename_i hy
        cases hv
        exact lv_ldiv hx hb hd hy (k _ _ _ _ _ hI hlo hL hc1 hc2)
    · cases hs
  | lrem =>
    simp only [zsi] at hs
    split at hs
    · rename_i hlen
      subst hlen
      obtain ⟨x, y, rest, v, rfl, hv, rfl⟩ := zbin2_inv hs
      split at hv
      · cases hv
      · rename_i hy
        cases hv
        exact lv_lrem hx hb hd hy (k _ _ _ _ _ hI hlo hL hc1 hc2)
    · cases hs
  | lcmp =>
    simp only [zsi] at hs
    split at hs
    · rename_i hlen
      subst hlen
      split at hs
      · cases hs
        exact W.lcmp hx hb hd (k _ _ _ _ _ hI hlo hL hc1 hc2)
      · cases hs
    · cases hs
  | dup =>
    simp only [zsi] at hs
    split at hs
    · rename_i hlen
      subst hlen
      split at hs
      · split at hs
        · rename_i hv
          cases hs
          exact lv_dup hx hb hd (by rw [zcat_tr hCx (fun _ _ => trivial)]; exact hv) (k _ _ _ _ _ hI hlo hL hc1 hc2)
        · cases hs
      · cases hs
    · cases hs
  | pop =>
    simp only [zsi] at hs
    split at hs
    · rename_i hlen
      subst hlen
      split at hs
      · split at hs
        · rename_i hv
          cases hs
          exact lv_pop hx hb hd (by rw [zcat_tr hCx (fun _ _ => trivial)]; exact hv) (k _ _ _ _ _ hI hlo hL hc1 hc2)
        · cases hs
      · cases hs
    · cases hs
  | dup2 =>
    simp only [zsi] at hs
    split at hs
    · rename_i hlen
      subst hlen
      split at hs
      · split at hs
        · rename_i hv
          cases hs
          exact lv_dup2_11 hx hb hd (by rw [zcat_tr hCx (fun _ _ => trivial)]; exact hv.1) (by rw [zcat_tr hCx (fun _ _ => trivial)]; exact hv.2) (k _ _ _ _ _ hI hlo hL hc1 hc2)
        · cases hs
      · cases hs
    · cases hs
  | ifCond cc off =>
    simp only [zsi] at hs
    split at hs
    · rename_i hlen
      subst hlen
      split at hs
      · obtain ⟨tg, ht, hq⟩ := zbr_inv hs
        cases cc with
        | eq =>
          refine lv_if_eq hx hb hd ht (fun hh => ?_) (fun hh => ?_)
          · rcases hq with ⟨h1, rfl⟩ | ⟨h1, rfl⟩
            · exact k _ _ _ _ _ hI hlo hL hc1 hc2
            · exact absurd h1 (by simp [zc0, hh])
          · rcases hq with ⟨h1, rfl⟩ | ⟨h1, rfl⟩
            · exact absurd h1 (by simp [zc0, hh])
            · exact k _ _ _ _ _ hI hlo hL hc1 hc2
        | ne =>
          refine lv_if_ne hx hb hd ht (fun hh => ?_) (fun hh => ?_)
          · rcases hq with ⟨h1, rfl⟩ | ⟨h1, rfl⟩
            · exact k _ _ _ _ _ hI hlo hL hc1 hc2
            · exact absurd h1 (by simp [zc0, hh])
          · rcases hq with ⟨h1, rfl⟩ | ⟨h1, rfl⟩
            · exact absurd h1 (by simp [zc0, hh])
            · exact k _ _ _ _ _ hI hlo hL hc1 hc2
        | lt =>
          refine lv_if_lt hx hb hd ht (fun hh => ?_) (fun hh => ?_)
          · rcases hq with ⟨h1, rfl⟩ | ⟨h1, rfl⟩
            · exact k _ _ _ _ _ hI hlo hL hc1 hc2
            · exact absurd h1 (by simp [zc0, hh])
          · rcases hq with ⟨h1, rfl⟩ | ⟨h1, rfl⟩
            · exact absurd h1 (by simp [zc0, hh])
            · exact k _ _ _ _ _ hI hlo hL hc1 hc2
        | ge =>
          refine lv_if_ge hx hb hd ht (fun hh => ?_) (fun hh => ?_)
          · rcases hq with ⟨h1, rfl⟩ | ⟨h1, rfl⟩
            · exact k _ _ _ _ _ hI hlo hL hc1 hc2
            · exact absurd h1 (by simp [zc0, hh])
          · rcases hq with ⟨h1, rfl⟩ | ⟨h1, rfl⟩
            · exact absurd h1 (by simp [zc0, hh])
            · exact k _ _ _ _ _ hI hlo hL hc1 hc2
        | gt =>
          refine lv_if_gt hx hb hd ht (fun hh => ?_) (fun hh => ?_)
          · rcases hq with ⟨h1, rfl⟩ | ⟨h1, rfl⟩
            · exact k _ _ _ _ _ hI hlo hL hc1 hc2
            · exact absurd h1 (by simp [zc0, hh])
          · rcases hq with ⟨h1, rfl⟩ | ⟨h1, rfl⟩
            · exact absurd h1 (by simp [zc0, hh])
            · exact k _ _ _ _ _ hI hlo hL hc1 hc2
        | le =>
          refine lv_if_le hx hb hd ht (fun hh => ?_) (fun hh => ?_)
          · rcases hq with ⟨h1, rfl⟩ | ⟨h1, rfl⟩
            · exact k _ _ _ _ _ hI hlo hL hc1 hc2
            · exact absurd h1 (by simp [zc0, hh])
          · rcases hq with ⟨h1, rfl⟩ | ⟨h1, rfl⟩
            · exact absurd h1 (by simp [zc0, hh])
            · exact k _ _ _ _ _ hI hlo hL hc1 hc2
      · cases hs
    · cases hs
  | if_icmp cc off =>
    simp only [zsi] at hs
    split at hs
    · rename_i hlen
      subst hlen
      split at hs
      · obtain ⟨tg, ht, hq⟩ := zbr_inv hs
        cases cc with
        | eq =>
          refine lv_icmp_eq hx hb hd ht (fun hh => ?_) (fun hh => ?_)
          · rcases hq with ⟨h1, rfl⟩ | ⟨h1, rfl⟩
            · exact k _ _ _ _ _ hI hlo hL hc1 hc2
            · exact absurd h1 (by simp [zc0, hh])
          · rcases hq with ⟨h1, rfl⟩ | ⟨h1, rfl⟩
            · exact absurd h1 (by simp [zc0, hh])
            · exact k _ _ _ _ _ hI hlo hL hc1 hc2
        | ne =>
          refine lv_icmp_ne hx hb hd ht (fun hh => ?_) (fun hh => ?_)
          · rcases hq with ⟨h1, rfl⟩ | ⟨h1, rfl⟩
            · exact k _ _ _ _ _ hI hlo hL hc1 hc2
            · exact absurd h1 (by simp [zc0, hh])
          · rcases hq with ⟨h1, rfl⟩ | ⟨h1, rfl⟩
            · exact absurd h1 (by simp [zc0, hh])
            · exact k _ _ _ _ _ hI hlo hL hc1 hc2
        | lt =>
          refine lv_icmp_lt hx hb hd ht (fun hh => ?_) (fun hh => ?_)
          · rcases hq with ⟨h1, rfl⟩ | ⟨h1, rfl⟩
            · exact k _ _ _ _ _ hI hlo hL hc1 hc2
            · exact absurd h1 (by simp [zc0, hh])
          · rcases hq with ⟨h1, rfl⟩ | ⟨h1, rfl⟩
            · exact absurd h1 (by simp [zc0, hh])
            · exact k _ _ _ _ _ hI hlo hL hc1 hc2
        | ge =>
          refine lv_icmp_ge hx hb hd ht (fun hh => ?_) (fun hh => ?_)
          · rcases hq with ⟨h1, rfl⟩ | ⟨h1, rfl⟩
            · exact k _ _ _ _ _ hI hlo hL hc1 hc2
            · exact absurd h1 (by simp [zc0, hh])
          · rcases hq with ⟨h1, rfl⟩ | ⟨h1, rfl⟩
            · exact absurd h1 (by simp [zc0, hh])
            · exact k _ _ _ _ _ hI hlo hL hc1 hc2
        | gt =>
          refine lv_icmp_gt hx hb hd ht (fun hh => ?_) (fun hh => ?_)
          · rcases hq with ⟨h1, rfl⟩ | ⟨h1, rfl⟩
            · exact k _ _ _ _ _ hI hlo hL hc1 hc2
            · exact absurd h1 (by simp [zc0, hh])
          · rcases hq with ⟨h1, rfl⟩ | ⟨h1, rfl⟩
            · exact absurd h1 (by simp [zc0, hh])
            · exact k _ _ _ _ _ hI hlo hL hc1 hc2
        | le =>
          refine lv_icmp_le hx hb hd ht (fun hh => ?_) (fun hh => ?_)
          · rcases hq with ⟨h1, rfl⟩ | ⟨h1, rfl⟩
            · exact k _ _ _ _ _ hI hlo hL hc1 hc2
            · exact absurd h1 (by simp [zc0, hh])
          · rcases hq with ⟨h1, rfl⟩ | ⟨h1, rfl⟩
            · exact absurd h1 (by simp [zc0, hh])
            · exact k _ _ _ _ _ hI hlo hL hc1 hc2
      · cases hs
    · cases hs
  | goto off =>
    simp only [zsi] at hs
    split at hs
    · rename_i hlen
      subst hlen
      split at hs
      · rename_i tg ht
        cases hs
        exact lv_goto hx hb hd (zpj_inv ht) (k _ _ _ _ _ hI hlo hL hc1 hc2)
      · cases hs
    · cases hs
  | tableswitch dd lo hi offs =>
    simp only [zsi] at hs
    split at hs
    · split at hs
      · rename_i hv
        split at hs
        · rename_i tg ht
          cases hs
          exact lv_tableOut hx hb hd hv (zpj_inv ht) (k _ _ _ _ _ hI hlo hL hc1 hc2)
        · cases hs
      · rename_i hv
        split at hs
        · rename_i off ho
          split at hs
          · rename_i tg ht
            cases hs
            exact lv_tableIn hx hb hd (fun h => hv (Or.inl h)) (fun h => hv (Or.inr h)) ho (zpj_inv ht) (k _ _ _ _ _ hI hlo hL hc1 hc2)
          · cases hs
        · cases hs
    · cases hs
  | lookupswitch dd ps =>
    simp only [zsi] at hs
    split at hs
    · split at hs
      · rename_i hp
        split at hs
        · rename_i tg ht
          cases hs
          exact lv_lookup hx hb hd hp rfl (zpj_inv ht) (k _ _ _ _ _ hI hlo hL hc1 hc2)
        · cases hs
      · cases hs
    · cases hs
  | getfield idx =>
    simp only [zsi] at hs
    split at hs
    · rename_i hlen
      subst hlen
      split at hs
      · rename_i q hq
        exact z_gf hx hb hown hts hKK (z_fld hq) hI hd hs k hlo hL hc1 hc2
      · split at hs
        · rename_i q hq
          exact z_gj hx hb hown hts hKK hlow (z_S hI hlow hss hlo) (z_jfd hq) hI hd hs k hlo hL hc1 hc2
        · cases hs
    · cases hs
  | putfield idx =>
    simp only [zsi] at hs
    split at hs
    · rename_i hlen
      subst hlen
      split at hs
      · rename_i q hq
        exact z_pf hx hb hown hts hKK hnm (z_fld hq) hI hd hs k hlo hL hc1 hc2
      · cases hs
    · cases hs
  | getstatic idx =>
    simp only [zsi] at hs
    split at hs
    · rename_i hlen
      subst hlen
      split at hs
      · rename_i q hq
        cases hs
        have hSS := z_S hI hlow hss hlo
        rcases z_sfd hq with ⟨h1, h2⟩ | ⟨h1, h2⟩ | ⟨h1, h2⟩
        · refine va_gets hx hb (hKK.2.2.2.1.1.kept (z_kept hlow)) hSS hown (hts _ h2) (fun _ h => h) hd ?_
          have h6 := k _ _ _ _ _ hI hlo hL hc1 hc2
          simp only [h1, if_true, List.map_cons] at h6
          exact h6
        · refine va_gets hx hb (hKK.2.2.2.1.2.1.kept (z_kept hlow)) hSS hown (hts _ h2) (fun _ h => h) hd ?_
          have h6 := k _ _ _ _ _ hI hlo hL hc1 hc2
          simp only [h1, if_true, List.map_cons, Nat.one_ne_zero, if_false] at h6
          exact h6
        · refine va_gets hx hb (hKK.2.2.2.1.2.2.kept (z_kept hlow)) hSS hown (hts _ h2) (fun _ h => h) hd ?_
          have h6 := k _ _ _ _ _ hI hlo hL hc1 hc2
          rw [h1] at h6
          exact h6
      · cases hs
    · cases hs
  | arraylength =>
    simp only [zsi] at hs
    split at hs
    · rename_i hlen
      subst hlen
      exact z_al hx hb hown hKK hlow (z_S hI hlow hss hlo) hI hd hs k hlo hL hc1 hc2
    · cases hs
  | iaload =>
    simp only [zsi] at hs
    split at hs
    · rename_i hlen
      subst hlen
      exact z_ia hx hb hown hKK hlow (z_S hI hlow hss hlo) hI hd hs k hlo hL hc1 hc2
    · cases hs
  | baload =>
    simp only [zsi] at hs
    split at hs
    · rename_i hlen
      subst hlen
      exact z_ba hx hb hown hKK hlow (z_S hI hlow hss hlo) hI hd hs k hlo hL hc1 hc2
    · cases hs
  | aaload =>
    simp only [zsi] at hs
    split at hs
    · rename_i hlen
      subst hlen
      exact z_aa hx hb hown hKK hI hd hs k hlo hL hc1 hc2
    · cases hs
  | iastore =>
    simp only [zsi] at hs
    split at hs
    · rename_i hlen
      subst hlen
      exact z_is hx hb hown hKK hI hd hs k hlo hL hc1 hc2
    · cases hs
  | bastore =>
    simp only [zsi] at hs
    split at hs
    · rename_i hlen
      subst hlen
      exact z_bs hx hb hown hKK hI hd hs k hlo hL hc1 hc2
    · cases hs
  | aastore =>
    simp only [zsi] at hs
    split at hs
    · rename_i hlen
      subst hlen
      exact z_as hx hb hown hKK hI hd hs k hlo hL hc1 hc2
    · cases hs
  | newarray t =>
    simp only [zsi] at hs
    split at hs
    · rename_i hlen
      subst hlen
      exact z_na hx hb hts hKK hI hd hs k hlo hL hc1 hc2 hr1 hr2
    · cases hs
  | anewarray idx =>
    simp only [zsi] at hs
    split at hs
    · rename_i hlen
      subst hlen
      exact z_nq hx hb hown hts hKK hI hd hs k hlo hL hc1 hc2 hr1 hr2
    · cases hs
  | new idx =>
    simp only [zsi] at hs
    split at hs
    · rename_i hlen
      subst hlen
      split at hs
      · rename_i q hq
        exact z_nw hx hb hown hts hKK (z_kln hq) hI hd hs k hlo hL hc1 hc2 hr1 hr2
      · cases hs
    · cases hs
  | invokestatic idx =>
    simp only [zsi] at hs
    split at hs
    · rename_i hlen
      subst hlen
      split at hs
      · rename_i q hq
        exact z_mx hx hb hml hown hts hCx (z_mxl hq) hI hd hs k hlo hL hc1 hc2 hr1 hr2 hfr hlc
      · split at hs
        · rename_i q hq
          split at hs
          · rename_i q2 hq2
            exact z_ac hx hb hml hown hts hKK hCx (z_acl hq) hI hd hq2 (Option.some.inj hs) k hlo hL hc1 hc2 hfr hlc
          · cases hs
        · cases hs
    · cases hs
  | invokespecial idx =>
    simp only [zsi] at hs
    split at hs
    · rename_i hlen
      subst hlen
      split at hs
      · rename_i q hq
        split at hs
        · rename_i rest hr
          cases hs
          exact z_oi hx hb hml hown hts hCx (z_oil hq) hI hd hr k hlo hL hc1 hc2 hfr hlc
        · cases hs
      · cases hs
    · cases hs
  | _ => cases hs
end ZS
end
section
/-! What the evaluator says of a method, the machine does: a contract for each method's each run. -/
theorem zsi_mono {x : zXs} {own : Nat} {LS : List Nat} {isI : Bool} {op : Instr} {len pc : Nat} {ls : zLs} {st : List Value} {F : zF} {G : zG} {q : zCf} (h : zsi x own LS isI op len pc ls st F G = some q) : F.1 ≤ q.2.2.2.1.1 ∧ F.2.1 ≤ q.2.2.2.1.2.1 := by
  unfold zsi at h
  split at h
  all_goals (try (simp only [zint, zld, zst1, zst2, zbin, zbin2, zun, zbr, zgf, zgj, zpf] at h))
  all_goals (repeat' split at h)
  all_goals first
    | (cases h; exact ⟨Nat.le_refl _, Nat.le_refl _⟩)
    | (cases h; exact ⟨Nat.le_succ _, Nat.le_add_right _ _⟩)
    | cases h
/-- one step of the evaluator -/
theorem zev_step {x : zXs} {n d M pc : Nat} {ls : zLs} {st : List Value} {F : zF} {G : zG} {o : Option Value × zF × zG} (h : zev x (n + 1) d M pc ls st F G = some o) :
    ∃ mi op len, zm M = some mi ∧ decode mi.2.2.1 pc = .ok (op, len) ∧
      ((∃ q d1 mj as rest r F1 G1, zck mi.1 op = some q ∧ d = d1 + 1 ∧ len = 3 ∧ zca F q.2.2.1 (zway op) st = some (mj, as, rest) ∧ zev x n d1 q.2.2.1 0 (zent mj.2.2.2.1 as) [] F G = some (r, F1, G1) ∧ zev x n d M (pc + 3) ls (r.toList ++ rest) F1 G1 = some o) ∨
       (∃ r, zrt mi op len st = some r ∧ o = (r, F, G)) ∨
       (∃ q, zsi x mi.1 mi.2.2.2.2.2.2.2.1 (mi.2.1.name == "<init>") op len pc ls st F G = some q ∧ zev x n d M q.1 q.2.1 q.2.2.1 q.2.2.2.1 q.2.2.2.2 = some o)) := by
  unfold zev at h
  split at h
  · cases h
  · rename_i mi hm
    split at h
    · cases h
    · rename_i op len hop
      have hd : decode mi.2.2.1 pc = .ok (op, len) := by
        unfold zop at hop
        rw [hm] at hop
        dsimp only at hop
        split at hop
        · rename_i q hq
          cases hop
          exact hq
        · cases hop
      refine ⟨mi, op, len, hm, hd, ?_⟩
      split at h
      · rename_i q hq
        split at h
        · cases h
        · rename_i d1
          split at h
          · rename_i hlen
            split at h
            · rename_i mj as rest hca
              split at h
              · rename_i r F1 G1 hev
                exact Or.inl ⟨q, d1, mj, as, rest, r, F1, G1, hq, rfl, hlen, hca, hev, h⟩
              · cases h
            · cases h
          · cases h
      · split at h
        · rename_i r hr
          exact Or.inr (Or.inl ⟨r, hr, (Option.some.inj h).symm⟩)
        · split at h
          · rename_i pc1 ls1 st1 F1 G1 hsi
            exact Or.inr (Or.inr ⟨_, hsi, h⟩)
          · cases h
theorem zev_mono {x : zXs} : ∀ (n d M pc : Nat) (ls : zLs) (st : List Value) (F : zF) (G : zG) (o : Option Value × zF × zG), zev x n d M pc ls st F G = some o → F.1 ≤ o.2.1.1 ∧ F.2.1 ≤ o.2.1.2.1 := by
  intro n
  induction n with
  | zero => intro d M pc ls st F G o h; unfold zev at h; cases h
  | succ n ih =>
    intro d M pc ls st F G o h
    obtain ⟨mi, op, len, -, -, h1 | h1 | h1⟩ := zev_step h
    · obtain ⟨q, d1, mj, as, rest, r, F1, G1, -, -, -, -, h2, h3⟩ := h1
      have a := ih _ _ _ _ _ _ _ _ h2
      have b := ih _ _ _ _ _ _ _ _ h3
      dsimp only at a
      exact ⟨Nat.le_trans a.1 b.1, Nat.le_trans a.2 b.2⟩
    · obtain ⟨r, -, rfl⟩ := h1
      exact ⟨Nat.le_refl _, Nat.le_refl _⟩
    · obtain ⟨q, h2, h3⟩ := h1
      have a := zsi_mono h2
      have b := ih _ _ _ _ _ _ _ _ h3
      exact ⟨Nat.le_trans a.1 b.1, Nat.le_trans a.2 b.2⟩
def zQ (c : zX) (r : Option Value) (F : zF) (G : zG) : Array Value → State → Outcome → State → Prop := fun _ _ oc t => oc = .returned (r.map (ztr c)) ∧ zI c F G t.heap
def zrm (d mc ms : Nat) : Room := { frames := d + 1, cells := mc, slots := ms, locals := 64 * (d + 1) }
def zws (mi : zE) : List Cond := Cond.code mi.2.1 mi.2.2.1 mi.2.2.2.1 mi.2.2.2.2.1 :: ztb
def zPc (c : zX) (as : List Value) (F : zF) (G : zG) : Array Value → State → Prop := va_Pc (as.map (ztr c)) (fun U => zKK c U ∧ zI c F G U.heap)
theorem zPc_blind {c : zX} {as : List Value} {F : zF} {G : zG} : FrameBlind (zPc c as F G) := fun a U g mk h => ⟨h.1, zKK_vm h.2.1 rfl, h.2.2⟩
theorem z_good {mj : zE} (h : zgood mj = true) : GoodIn ztb (zws mj) := by
  intro w hw
  have hz := (zgood_of h).1.1
  rcases List.mem_cons.mp hw with rfl | hw
  · exact ⟨hz, (ztb_good hz).2⟩
  · exact ⟨hw, (ztb_good hw).2⟩
theorem zflat_at {c : zX} (hc : zCx c) : ∀ (as : List Value) (i : Nat) (v : Value), (as.flatMap fun v => if zcat v = 2 then [some v, none] else [some v])[i]? = some (some v) → (lg_sl (as.map (ztr c)))[i]? = some (.val (ztr c v)) := by
  intro as
  induction as with
  | nil => intro i v h; simp at h
  | cons a as ih =>
    intro i v h
    have hcat : (ztr c a).category = zcat a := zcat_tr hc (fun _ _ => trivial)
    rw [List.flatMap_cons] at h
    show (lg_sl (ztr c a :: as.map (ztr c)))[i]? = _
    unfold lg_sl
    rw [List.flatMap_cons, hcat]
    by_cases h2 : zcat a = 2
    · rw [if_pos h2] at h ⊢
      match i with
      | 0 => cases h; rfl
      | 1 => cases h
      | i + 2 => exact ih i v h
    · rw [if_neg h2] at h ⊢
      match i with
      | 0 => cases h; rfl
      | i + 1 => exact ih i v h
theorem zflat_len {c : zX} (hc : zCx c) : ∀ (as : List Value), (lg_sl (as.map (ztr c))).length = (as.flatMap fun v => if zcat v = 2 then [some v, none] else [some v]).length := by
  intro as
  induction as with
  | nil => rfl
  | cons a as ih =>
    have hcat : (ztr c a).category = zcat a := zcat_tr hc (fun _ _ => trivial)
    show (lg_sl (ztr c a :: as.map (ztr c))).length = _
    unfold lg_sl at ih ⊢
    rw [List.flatMap_cons, List.flatMap_cons, hcat, List.length_append, List.length_append, ih]
    by_cases h2 : zcat a = 2
    · rw [if_pos h2, if_pos h2]; rfl
    · rw [if_neg h2, if_neg h2]; rfl
theorem zlok_at : ∀ (ls : zLs) (LS : List Nat) (i j : Nat) (x : Int64), zlok LS i ls = true → ls[j]? = some (some (.long x)) → i + j ∈ LS := by
  intro ls
  induction ls with
  | nil => intro LS i j x _ h; simp at h
  | cons o ls ih =>
    intro LS i j x h hj
    unfold zlok at h
    rw [Bool.and_eq_true] at h
    cases j with
    | zero =>
      cases hj
      have h1 := h.1
      simp only [zcat, bne_self_eq_false, Bool.false_or] at h1
      exact List.contains_iff_mem.mp h1
    | succ j =>
      have := ih LS (i + 1) j x h.2 hj
      rw [show i + (j + 1) = i + 1 + j by omega]
      exact this
theorem zgt_get {ls : zLs} {i : Nat} {v : Value} : zgt ls i = some v ↔ ls[i]? = some (some v) := by
  unfold zgt
  constructor
  · intro h
    split at h
    · rename_i o ho
      rw [ho, h]
    · cases h
  · intro h
    rw [h]
theorem zL_entry {c : zX} (hc : zCx c) {LS : List Nat} {nL : Nat} {as : List Value} (hl : (zent nL as).length = nL) (hk : zlok LS 0 (zent nL as) = true) : zL c LS nL ((lg_sl (as.map (ztr c)) ++ List.replicate (nL - (lg_sl (as.map (ztr c))).length) Slot.unset).toArray) (zent nL as) := by
  have hfl := zflat_len hc as
  have hle : (lg_sl (as.map (ztr c))).length ≤ nL := by
    rw [hfl, ← hl]
    unfold zent
    rw [List.length_append]
    exact Nat.le_add_right _ _
  have he := lv_entry (as.map (ztr c)) hle
  refine ⟨he.1, hl, he.2.1, fun i v h => ?_, fun j x h => ?_⟩
  · rw [zgt_get] at h
    unfold zent at h
    by_cases hi : i < (as.flatMap fun v => if zcat v = 2 then [some v, none] else [some v]).length
    · rw [List.getElem?_append_left hi] at h
      have h1 := zflat_at hc as i v h
      rw [List.getElem?_toArray, List.getElem?_append_left (by rw [hfl]; exact hi)]
      exact h1
    · rw [List.getElem?_append_right (by omega)] at h
      have := List.eq_of_mem_replicate (List.mem_of_getElem? h)
      cases this
  · have := zlok_at _ LS 0 j x hk (zgt_get.mp h)
    rwa [Nat.zero_add] at this
theorem zca_inv {F : zF} {m way : Nat} {st as rest : List Value} {mj : zE} (h : zca F m way st = some (mj, as, rest)) : zm m = some mj ∧ st = as.reverse ++ rest ∧ as.length = mj.2.2.2.2.2.2.1 ∧ (rest.map zcat).sum ≤ 8 ∧ (mj.2.2.2.2.2.1 = true ↔ way = 0) ∧ (mj.2.1.name = "<init>" ↔ way = 2) ∧ (way = 0 ∨ zok1 F mj as = true) ∧ (zent mj.2.2.2.1 as).length = mj.2.2.2.1 ∧ zlok mj.2.2.2.2.2.2.2.1 0 (zent mj.2.2.2.1 as) = true ∧ m + 1 < zml.length := by
  unfold zca at h
  split at h
  · cases h
  · rename_i mi hm
    split at h
    · rename_i hh
      cases h
      obtain ⟨h1, h2, h3, h4, h5, h6, h7, h8⟩ := hh
      refine ⟨hm, ?_, ?_, h2, h3, h4, h5, h6, h7, h8⟩
      · rw [List.reverse_reverse, List.take_append_drop]
      · rw [List.length_reverse, List.length_take]; omega
    · cases h
section ZW
variable {c : zX} {p : Program} {l : Launch} {e : Env} {R : Room} {s : State} {m : MethodId} {args : Array Value} {below : List Frame} {meth : Method} {cd : Code} {H : Heap} {locs : List Loc} {cells slots : Nat} {Q : State → Prop} {mi : zE} {d n0 s0 : Nat} {mls : Array Slot}
theorem z_back {mc ms pc : Nat} {st0 rest : List Value} {a : Array Value} {r : Option Value} {F1 : zF} {G1 : zG} (hr : va_Run p l e R s m args below meth cd H locs cells slots mc ms (F0 m pc mls st0) rest (zQ c r F1 G1 a) (zA c)) (hlo : ∀ x ∈ locs, zB c ≤ x.base)
    (kk : ∀ (H1 : Heap) (locs1 : List Loc), zI c F1 G1 H1 → (∀ x ∈ locs1, zB c ≤ x.base) → W p l e R s m args below meth cd H1 locs1 (cells + mc) (slots + ms) Q (F0 m (pc + 3) mls ((r.map (ztr c)).toList ++ rest))) : W p l e R s m args below meth cd H locs cells slots Q (F0 m pc mls st0) := by
  intro T hT X
  obtain ⟨v, st₀, t, T', L, h0, X', hL, e1, e2, ⟨hv, hI1⟩, st⟩ := hr T hT X
  have hv2 : v = r.map (ztr c) := Outcome.returned.inj hv
  subst hv2
  obtain ⟨t2, a1, b1⟩ := kk T'.heap (locs ++ L) (by rw [e1]; exact hI1) (fun x hx => by
    rcases List.mem_append.mp hx with h | h
    · exact hlo x h
    · exact hL x h) T' rfl X'
  exact ⟨t2, st t2 a1, b1⟩
/-- a call of a method that has its contract -/
theorem z_callm {q : Nat × Nat × Nat × Bool × Nat} {op : Instr} {pc d1 mc ms : Nat} {st as rest : List Value} {mj : zE} {F F1 : zF} {G G1 : zG} {r : Option Value} (X : zFr c p R s m args meth cd mi d) (hd : decode mi.2.2.1 pc = .ok (op, 3)) (hck : zck mi.1 op = some q) (hdd : d = d1 + 1) (hca : zca F q.2.2.1 (zway op) st = some (mj, as, rest)) (hI : zI c F G H) (hss : s.heap.size ≤ H.size) (hlo : ∀ x ∈ locs, zB c ≤ x.base) (hsz : mls.size = mi.2.2.2.1)
    (hM : Met l mj.2.1 (zws mj) (zrm d1 mc ms) (zPc c as F G) (zQ c r F1 G1) mc ms (zA c)) (hf : cells + mc ≤ R.cells ∧ slots + ms ≤ R.slots)
    (kk : ∀ (H1 : Heap) (locs1 : List Loc), zI c F1 G1 H1 → (∀ x ∈ locs1, zB c ≤ x.base) → W p l e R s m args below meth cd H1 locs1 (cells + mc) (slots + ms) Q (F0 m (pc + 3) mls ((r.toList ++ rest).map (ztr c)))) : W p l e R s m args below meth cd H locs cells slots Q (F0 m pc mls (st.map (ztr c))) := by
  obtain ⟨hx, hb, hml, hown, hts, hKK, hCx, hnm, hlow, hbs, hfr, hlc⟩ := X
  obtain ⟨hm, hst, hal, h8, hst1, hin1, hrec, hel, hlk, hm1⟩ := zca_inv hca
  have hg := z_mi hm hm1
  have hG := z_good hg
  obtain ⟨⟨g1, g2⟩, g3, g4, g5, g6, g7, g8, g9, g10⟩ := zgood_of hg
  rw [← zcats hCx] at h8
  have kk' : ∀ (H1 : Heap) (locs1 : List Loc), zI c F1 G1 H1 → (∀ x ∈ locs1, zB c ≤ x.base) → W p l e R s m args below meth cd H1 locs1 (cells + mc) (slots + ms) Q (F0 m (pc + 3) mls ((r.map (ztr c)).toList ++ rest.map (ztr c))) := by
    intro H1 locs1 h1 h2
    have := kk H1 locs1 h1 h2
    rw [List.map_append] at this
    cases r <;> exact this
  have hR : (zrm d1 mc ms).frames + 1 ≤ R.frames ∧ 8 + (mj.2.2.2.1 + 11) + (zrm d1 mc ms).locals ≤ R.locals := by
    subst hdd
    refine ⟨hfr, ?_⟩
    show 8 + (mj.2.2.2.1 + 11) + 64 * (d1 + 1) ≤ R.locals
    omega
  have hfix : CallFix p m cd mi.2.2.1 mi.2.2.2.1 s args ztb (zC mi.1) := ⟨hx, hb, hml, hown, hts⟩
  have hPre : ∀ U : State, U.heap = H → s.WarmedH U.vm → zPc c as F G ((as.map (ztr c)).toArray) U := fun U hU hW => ⟨rfl, zKK_warm hKK hW, by rw [hU]; exact hI⟩
  have hroom : 2 * (F0 m pc mls (st.map (ztr c))).monitorRoom + ((rest.map (ztr c)).map fun v => v.category).sum ≤ 8 := lv_room h8
  have hstk : st.map (ztr c) = (as.map (ztr c)).reverse ++ rest.map (ztr c) := by rw [hst, List.map_append, List.map_reverse]
  have hini : (Cond.initialized mj.2.1.cls).before args s = true := hts _ g2
  have hpar : ∀ k : Nat, mj.2.2.2.2.2.2.1 = k + (if mj.2.2.2.2.2.1 = true then 0 else 1) → (parseMethodDescriptor mj.2.1.desc).map (fun d => d.parameters.length) = some k := by
    intro k hk
    cases hp : parseMethodDescriptor mj.2.1.desc with
    | none => rw [hp] at g7; cases g7
    | some dd =>
      rw [hp] at g7
      have h9 : dd.parameters.length + (if mj.2.2.2.2.2.1 = true then 0 else 1) = mj.2.2.2.2.2.2.1 := Option.some.inj g7
      show some dd.parameters.length = some k
      congr 1
      omega
  have hnst : ∀ own' idx', Cond.methodLinkNest own' idx' mj.2.1 "GleanersForGaps" ∈ lw_tbl → va_Nw (.methodLinkNest own' idx' mj.2.1 "GleanersForGaps") s := fun o i hh => hKK.2.1 o i _ hh
  -- the receiver of an instance call
  have hrcv : zway op ≠ 0 → ∃ (b : Nat) (As : List Value), as.map (ztr c) = .ref b :: As ∧ ∃ cellB : Cell, H[b]? = some cellB ∧ cellB.vm.isStatics = false ∧ s.vm.findClass mj.2.1.cls = some cellB.cls := by
    intro hw
    rcases hrec with h | h
    · exact absurd h hw
    · unfold zok1 at h
      split at h
      · rename_i a as'
        rw [Bool.and_eq_true, beq_iff_eq, decide_eq_true_eq] at h
        obtain ⟨r', hr', cell, c1, c2, c3, -⟩ := hI.2.2.1 a mj.1 h.1 h.2
        refine ⟨zB c + a, as'.map (ztr c), rfl, cell, c1, by rw [c3]; rfl, ?_⟩
        rw [g8, c2]
        exact (hKK.1.1 mj.1 _ (zcs_at h.2)).2.1
      · rename_i u as'
        rw [Bool.and_eq_true, beq_iff_eq, decide_eq_true_eq] at h
        obtain ⟨cell, c1, c2, c3⟩ := vk_recv ((hKK.2.2.2.2.2.1).kept (z_kept hlow)) h.2 (z_S hI hlow hss hlo)
        refine ⟨_, as'.map (ztr c), rfl, cell, c1, c2, ?_⟩
        rw [g8, h.1]
        exact c3
      · cases h
  cases op with
  | invokestatic idx =>
    have hs1 : mj.2.2.2.2.2.1 = true := hst1.mpr rfl
    have hp := hpar as.length (by rw [hs1, if_pos rfl]; omega)
    rcases z_call hck hm with ⟨-, hl⟩ | ⟨-, hl⟩
    · exact z_back (va_runSN (As := as.map (ztr c)) (rest := rest.map (ztr c)) hfix hM ⟨va_cnB as.length hts hG rfl rfl rfl (hnst _ _ hl) hini ⟨g6.1, g6.2, hp⟩ hR, hts _ (g3 hs1), trivial⟩ ⟨zPc_blind, hPre⟩ rfl (by rw [List.length_map]) hsz hstk hroom hd hf) hlo kk'
    · exact z_back (va_runS (As := as.map (ztr c)) (rest := rest.map (ztr c)) hfix hM ⟨callB_of as.length hts hG rfl rfl rfl hini (hts _ hl) ⟨g6.1, g6.2, hp⟩ hR, hts _ (g3 hs1)⟩ ⟨zPc_blind, hPre⟩ rfl (by rw [List.length_map]) hsz hstk hroom hd hf) hlo kk'
  | invokevirtual idx =>
    obtain ⟨b, As, hA, hcell⟩ := hrcv (show ¬ (1 : Nat) = 0 by decide)
    have hs1 : mj.2.2.2.2.2.1 = false := by
      cases hh : mj.2.2.2.2.2.1
      · rfl
      · exact absurd (hst1.mp hh) (show ¬ (1 : Nat) = 0 by decide)
    have hlen : as.length = As.length + 1 := by have := congrArg List.length hA; rw [List.length_map] at this; exact this
    have hp := hpar As.length (by rw [hs1, if_neg (by decide)]; omega)
    have hnm2 : mj.2.1.name ≠ "<init>" := fun h => absurd (hin1.mp h) (show ¬ (1 : Nat) = 2 by decide)
    have hstk2 : st.map (ztr c) = As.reverse ++ .ref b :: rest.map (ztr c) := by rw [hstk, hA, List.reverse_cons, List.append_assoc]; rfl
    have hPre2 : ∀ U : State, U.heap = H → s.WarmedH U.vm → zPc c as F G ((Value.ref b :: As).toArray) U := by rw [← hA]; exact hPre
    rcases z_call hck hm with ⟨-, hl⟩ | ⟨-, hl⟩
    · exact z_back (va_runVN (C := mj.2.1.cls) (As := As) (rest := rest.map (ztr c)) hfix hM ⟨va_cnB As.length hts hG rfl rfl rfl (hnst _ _ hl) hini ⟨g6.1, g6.2, hp⟩ hR, hts _ (g4 hs1).1, hts _ ((g4 hs1).2 hnm2)⟩ ⟨zPc_blind, hcell, hPre2⟩ rfl rfl hsz hstk2 hroom hd hf) hlo kk'
    · exact z_back (va_runV (C := mj.2.1.cls) (As := As) (rest := rest.map (ztr c)) hfix hM ⟨callB_of As.length hts hG rfl rfl rfl hini (hts _ hl) ⟨g6.1, g6.2, hp⟩ hR, hts _ (g4 hs1).1, hts _ ((g4 hs1).2 hnm2)⟩ ⟨zPc_blind, hcell, hPre2⟩ rfl rfl hsz hstk2 hroom hd hf) hlo kk'
  | invokespecial idx =>
    obtain ⟨b, As, hA, hcell⟩ := hrcv (show ¬ (2 : Nat) = 0 by decide)
    have hs1 : mj.2.2.2.2.2.1 = false := by
      cases hh : mj.2.2.2.2.2.1
      · rfl
      · exact absurd (hst1.mp hh) (show ¬ (2 : Nat) = 0 by decide)
    have hlen : as.length = As.length + 1 := by have := congrArg List.length hA; rw [List.length_map] at this; exact this
    have hp := hpar As.length (by rw [hs1, if_neg (by decide)]; omega)
    have hnm2 : mj.2.1.name = "<init>" := hin1.mpr rfl
    have hret := g10 hnm2
    have hstk2 : st.map (ztr c) = As.reverse ++ .ref b :: rest.map (ztr c) := by rw [hstk, hA, List.reverse_cons, List.append_assoc]; rfl
    have hPre2 : ∀ U : State, U.heap = H → s.WarmedH U.vm → zPc c as F G ((Value.ref b :: As).toArray) U := by rw [← hA]; exact hPre
    have hws : zws mj = Cond.code mj.2.1 mj.2.2.1 mj.2.2.2.1 none :: ztb := by unfold zws; rw [hret]
    rcases z_call hck hm with ⟨-, hl⟩ | ⟨-, hl⟩
    · exact z_back (va_runIN (As := As) (rest := rest.map (ztr c)) hfix hM ⟨va_cnB As.length hts hG hws rfl rfl (hnst _ _ hl) hini ⟨g6.1, g6.2, hp⟩ hR, hnm2, hts _ (g4 hs1).1⟩ ⟨zPc_blind, hPre2⟩ rfl rfl hsz hstk2 hroom hd hf) hlo kk'
    · exact z_back (va_runI (As := As) (rest := rest.map (ztr c)) hfix hM ⟨callB_of As.length hts hG hws rfl rfl hini (hts _ hl) ⟨g6.1, g6.2, hp⟩ hR, hnm2, hts _ (g4 hs1).1⟩ ⟨zPc_blind, hPre2⟩ rfl rfl hsz hstk2 hroom hd hf) hlo kk'
  | _ => cases hck
end ZW
/-- how a walk ends -/
abbrev zEnd (c : zX) (p : Program) (l : Launch) (e : Env) (R : Room) (s : State) (m : MethodId) (args : Array Value) (below : List Frame) (meth : Method) (cd : Code) (Q : State → Prop) (mi : zE) (n0 s0 : Nat) (o : Option Value × zF × zG) : Prop :=
  ∀ (H1 : Heap) (locs1 : List Loc) (mls1 : Array Slot) (cells1 slots1 pc1 len1 : Nat) (op1 : Instr) (st1 : List Value), decode mi.2.2.1 pc1 = .ok (op1, len1) → zrt mi op1 len1 st1 = some o.1 → zI c o.2.1 o.2.2 H1 → (∀ x ∈ locs1, zB c ≤ x.base) → mls1.size = mi.2.2.2.1 → cells1 + n0 = o.2.1.1 → slots1 + s0 = o.2.1.2.1 → W p l e R s m args below meth cd H1 locs1 cells1 slots1 Q (F0 m pc1 mls1 (st1.map (ztr c)))
def zWk (c : zX) (l : Launch) (n : Nat) : Prop := ∀ (p : Program) (e : Env) (R : Room) (s : State) (m : MethodId) (args : Array Value) (below : List Frame) (meth : Method) (cd : Code) (H : Heap) (locs : List Loc) (cells slots : Nat) (Q : State → Prop) (mi : zE) (d n0 s0 : Nat) (mls : Array Slot) (M pc : Nat) (ls : zLs) (st : List Value) (F : zF) (G : zG) (o : Option Value × zF × zG),
  zm M = some mi → zFr c p R s m args meth cd mi d → zev (zxs c) n d M pc ls st F G = some o → zI c F G H → s.heap.size ≤ H.size → (∀ x ∈ locs, zB c ≤ x.base) → zL c mi.2.2.2.2.2.2.2.1 mi.2.2.2.1 mls ls → cells + n0 = F.1 → slots + s0 = F.2.1 → o.2.1.1 ≤ R.cells + n0 → o.2.1.2.1 ≤ R.slots + s0 → zEnd c p l e R s m args below meth cd Q mi n0 s0 o → W p l e R s m args below meth cd H locs cells slots Q (F0 m pc mls (st.map (ztr c)))
theorem z_met {c : zX} {l : Launch} {n : Nat} (hW : zWk c l n) (hCx : zCx c) {m d : Nat} {mj : zE} {as : List Value} {F : zF} {G : zG} {o : Option Value × zF × zG} (hm : zm m = some mj) (hm1 : m + 1 < zml.length) (hel : (zent mj.2.2.2.1 as).length = mj.2.2.2.1) (hlk : zlok mj.2.2.2.2.2.2.2.1 0 (zent mj.2.2.2.1 as) = true) (hev : zev (zxs c) n d m 0 (zent mj.2.2.2.1 as) [] F G = some o) :
    Met l mj.2.1 (zws mj) (zrm d (o.2.1.1 - F.1) (o.2.1.2.1 - F.2.1)) (zPc c as F G) (zQ c o.1 o.2.1 o.2.2) (o.2.1.1 - F.1) (o.2.1.2.1 - F.2.1) (zA c) := by
  have hg := z_mi hm hm1
  obtain ⟨⟨g1, g2⟩, g3, g4, g5, g6, g7, g8, g9, g10⟩ := zgood_of hg
  refine Met.ofW (cc := mj.2.2.1) (maxL := mj.2.2.2.1) (ret := mj.2.2.2.2.1) g5 rfl ?_
  intro p e s m' args below meth cd s₁ B hml hv
  obtain ⟨rfl, hKK, hI⟩ := hv
  have hr := B.returns
  have hts := atoms_spec (ws := zws mj) B.pre
  have hown : s.vm.findClass mj.2.1.cls = some m'.cls := findClass_of_methodNamed B.named
  have hlocks := B.notSynchronized
  have hmono := zev_mono _ _ _ _ _ _ _ _ _ hev
  rw [lg_entry_eq]
  rw [g8] at hown
  refine hW p e _ s m' _ below meth cd s.heap [] 0 0 _ mj d F.1 F.2.1 _ m 0 _ [] F G o hm ⟨B.exec, B.bytes, hml, hown, fun w hw => hts w (List.mem_cons_of_mem _ hw), hKK, hCx, (fun h => by rw [(name_of_methodNamed B.named B.method).1]; exact h), hI.2.1, by rw [hI.1]; exact Nat.le_add_right _ _, Nat.le_refl _, Nat.le_refl _⟩ hev hI (Nat.le_refl _) (fun x hx => by cases hx) (zL_entry hCx hel hlk) (Nat.zero_add _) (Nat.zero_add _) (by show o.2.1.1 ≤ (o.2.1.1 - F.1) + F.1; omega) (by show o.2.1.2.1 ≤ (o.2.1.2.1 - F.2.1) + F.2.1; omega) ?_
  intro H1 locs1 mls1 cells1 slots1 pc1 len1 op1 st1 hd hrt hI1 hlo1 hsz1 hc1 hc2
  have ec : cells1 = o.2.1.1 - F.1 := by omega
  have es : slots1 = o.2.1.2.1 - F.2.1 := by omega
  subst ec; subst es
  have hfin : ∀ (v : Option Value) (t : State), v = o.1.map (ztr c) → t.heap = H1 → s.WarmedH t.vm → zQ c o.1 o.2.1 o.2.2 ((as.map (ztr c)).toArray) s (.returned v) t := fun v t hv ht _ => ⟨by rw [hv], by rw [ht]; exact hI1⟩
  unfold zrt at hrt
  split at hrt
  · rename_i hlen
    subst hlen
    split at hrt
    · split at hrt
      · rename_i v
        split at hrt
        · rename_i ty hty
          split at hrt
          · rename_i hn
            rw [hty] at hr
            have ho := Option.some.inj hrt
            exact W.zret B.exec B.bytes hr hn.1 (fun t ht hW => hfin _ t (by rw [← ho]; rfl) ht hW) hlo1 hd
          · cases hrt
        · cases hrt
      · cases hrt
    · split at hrt
      · rename_i v
        split at hrt
        · rename_i hty
          rw [hty] at hr
          have ho := Option.some.inj hrt
          exact W.lret B.exec B.bytes hr (fun t ht hW => hfin _ t (by rw [← ho]; rfl) ht hW) hlo1 hd
        · cases hrt
      · cases hrt
    · split at hrt
      · rename_i v
        split at hrt
        · rename_i hisr
          split at hrt
          · rename_i nm hty
            rw [hty] at hr
            have ho := Option.some.inj hrt
            exact W.aret B.exec B.bytes hr (Or.inl ⟨_, rfl⟩) (Or.inr (ztr_isr hisr)) (fun t ht hW => hfin _ t (by rw [← ho]; rfl) ht hW) hlo1 hd
          · cases hrt
        · cases hrt
      · cases hrt
    · split at hrt
      · split at hrt
        · rename_i hty
          rw [hty] at hr
          have ho := Option.some.inj hrt
          exact W.vret B.exec B.bytes hr (fun t ht hW => hfin _ t (by rw [← ho]; rfl) ht hW) hlo1 hd
        · cases hrt
      · cases hrt
    · cases hrt
  · cases hrt
theorem z_walk {c : zX} (hCx : zCx c) {l : Launch} : ∀ n, zWk c l n := by
  intro n
  induction n with
  | zero =>
    intro p e R s m args below meth cd H locs cells slots Q mi d n0 s0 mls M pc ls st F G o hm X hev
    unfold zev at hev
    cases hev
  | succ n ih =>
    intro p e R s m args below meth cd H locs cells slots Q mi d n0 s0 mls M pc ls st F G o hm X hev hI hss hlo hL hc1 hc2 hr1 hr2 hend
    obtain ⟨mi', op, len, hm', hd, h1 | h1 | h1⟩ := zev_step hev
    · cases hm.symm.trans hm'
      obtain ⟨q, d1, mj, as, rest, r, F1, G1, hck, hdd, hlen, hca, hev1, hev2⟩ := h1
      subst hlen
      obtain ⟨hmj, -, -, -, -, -, -, hel, hlk, hm1⟩ := zca_inv hca
      have hMet := z_met ih hCx hmj hm1 hel hlk hev1
      have mo1 := zev_mono _ _ _ _ _ _ _ _ _ hev1
      have mo2 := zev_mono _ _ _ _ _ _ _ _ _ hev2
      dsimp only at mo1 hMet
      refine z_callm X hd hck hdd hca hI hss hlo hL.1 hMet ⟨by omega, by omega⟩ (fun H1 locs1 hI1 hlo1 => ?_)
      refine ih p e R s m args below meth cd H1 locs1 _ _ Q mi d n0 s0 mls M (pc + 3) ls _ F1 G1 o hm X hev2 hI1 ?_ hlo1 hL (by omega) (by omega) hr1 hr2 hend
      rw [hI1.1]
      have := hI.1
      omega
    · cases hm.symm.trans hm'
      obtain ⟨r, hrt, rfl⟩ := h1
      exact hend H locs mls cells slots pc len op st hd hrt hI hlo hL.1 hc1 hc2
    · cases hm.symm.trans hm'
      obtain ⟨q, hsi, hev2⟩ := h1
      have mo1 := zsi_mono hsi
      have mo2 := zev_mono _ _ _ _ _ _ _ _ _ hev2
      refine z_si X hd hsi hI hss hlo hL hc1 hc2 (by omega) (by omega) (fun H1 locs1 mls1 cells1 slots1 hI1 hlo1 hL1 hc3 hc4 => ?_)
      refine ih p e R s m args below meth cd H1 locs1 cells1 slots1 Q mi d n0 s0 mls1 M q.1 q.2.1 q.2.2.1 q.2.2.2.1 q.2.2.2.2 o hm X hev2 hI1 ?_ hlo1 hL1 hc3 hc4 hr1 hr2 hend
      rw [hI1.1]
      have := hI.1
      omega
end
section
/-! A run that doesn't read the script is the same for every script; the heap behind the two constructors. -/
def zF00 : zF := (0, 0, fun _ => 999, fun _ => 0, fun _ _ => none)
def zG00 : zG := (fun _ _ => 0, fun _ _ => 0)
/-- no script -/
def zx0 : zXs := (4000, fun _ => 0)
theorem zxt_any {x : zXs} {k : Nat} {q : Bool × Nat × (Nat → Int32)} (h : zxt zx0 k = some q) : zxt x k = some q := by
  unfold zxt at h ⊢
  split at h
  · rename_i h0
    rw [if_pos h0]
    exact h
  · rename_i h0
    rw [if_neg h0]
    split at h
    · rw [if_neg (by decide)] at h
      cases h
    · rename_i h1
      rw [if_neg h1]
      exact h
theorem zsi_any {x : zXs} {own : Nat} {LS : List Nat} {isI : Bool} {op : Instr} {len pc : Nat} {ls : zLs} {st : List Value} {F : zF} {G : zG} {q : zCf} (h : zsi zx0 own LS isI op len pc ls st F G = some q) : zsi x own LS isI op len pc ls st F G = some q := by
  cases op with
  | arraylength =>
    simp only [zsi] at h ⊢
    split at h
    · rename_i hl
      rw [if_pos hl]
      split at h
      · exact h
      · split at h
        · rename_i y hy
          rw [zxt_any (x := x) hy]
          exact h
        · cases h
      · cases h
    · cases h
  | iaload =>
    simp only [zsi] at h ⊢
    split at h
    · rename_i hl
      rw [if_pos hl]
      split at h
      · exact h
      · split at h
        · rename_i y hy
          rw [zxt_any (x := x) hy]
          exact h
        · cases h
      · cases h
    · cases h
  | baload =>
    simp only [zsi] at h ⊢
    split at h
    · rename_i hl
      rw [if_pos hl]
      split at h
      · exact h
      · split at h
        · rename_i y hy
          rw [zxt_any (x := x) hy]
          exact h
        · cases h
      · cases h
    · cases h
  | _ => exact h
theorem zev_any {x : zXs} : ∀ (n d M pc : Nat) (ls : zLs) (st : List Value) (F : zF) (G : zG) (o : Option Value × zF × zG), zev zx0 n d M pc ls st F G = some o → zev x n d M pc ls st F G = some o := by
  intro n
  induction n with
  | zero => intro d M pc ls st F G o h; unfold zev at h; cases h
  | succ n ih =>
    intro d M pc ls st F G o h
    unfold zev at h ⊢
    split at h
    · cases h
    · split at h
      · cases h
      · split at h
        · split at h
          · cases h
          · split at h
            · rename_i hlen
              rw [if_pos hlen]
              split at h
              · split at h
                · rename_i r F1 G1 hev
                  rw [ih _ _ _ _ _ _ _ _ hev]
                  exact ih _ _ _ _ _ _ _ _ h
                · cases h
              · cases h
            · cases h
        · split at h
          · exact h
          · split at h
            · rename_i pc1 ls1 st1 F1 G1 hsi
              rw [zsi_any (x := x) hsi]
              exact ih _ _ _ _ _ _ _ _ h
            · cases h
def zF1 : zF := znewF zF00 7 9
def zG1 : zG := znewG zF00 zG00
def zr1 : Option (Option Value × zF × zG) := zev zx0 6000 60 0 0 (zent 2 [.ref 0]) [] zF1 zG1
def zF2 : zF := (zr1.getD (none, zF00, zG00)).2.1
def zG2 : zG := (zr1.getD (none, zF00, zG00)).2.2
theorem zr1_ok : (zr1.map (fun q => q.1)) = some none := by decide +kernel
def zF3 : zF := znewF zF2 8 47
def zG3 : zG := znewG zF2 zG2
def zr2 : Option (Option Value × zF × zG) := zev zx0 6000 60 128 0 (zent 1 [.ref 59]) [] zF3 zG3
def zFz : zF := (zr2.getD (none, zF00, zG00)).2.1
def zGz : zG := (zr2.getD (none, zF00, zG00)).2.2
theorem zr2_ok : (zr2.map (fun q => q.1)) = some none := by decide +kernel
theorem zF2_n : zF2.1 = 59 ∧ zF2.2.1 ≤ 3000 := by decide +kernel
theorem zFz_n : zFz.1 = 81 ∧ zFz.2.1 ≤ 6000 := by decide +kernel
def zTsh : List (Nat × Nat) := [(7, 9), (4, 8), (100, 4), (100, 4), (100, 5), (100, 5), (100, 5), (4, 8), (100, 4), (100, 4), (100, 5), (100, 5), (100, 5), (4, 8), (100, 4), (100, 4), (100, 5), (100, 5), (100, 5), (0, 3), (2, 4), (102, 6), (100, 6), (100, 160), (6, 3), (100, 160), (100, 3), (6, 3), (100, 160), (100, 3), (6, 3), (100, 160), (100, 3), (6, 3), (100, 160), (100, 3), (6, 3), (100, 160), (100, 3), (6, 3), (100, 160), (100, 3), (100, 12), (1, 2), (100, 5), (5, 9), (100, 160), (6, 3), (100, 160), (100, 3), (103, 4), (3, 3), (100, 40), (3, 3), (100, 40), (3, 3), (100, 40), (3, 3), (100, 40), (8, 47), (100, 960), (100, 6), (100, 160), (100, 5), (100, 5), (100, 5), (100, 10), (100, 24), (100, 24), (100, 24), (100, 5), (100, 5), (100, 4), (100, 21), (100, 4), (100, 4), (100, 10), (101, 4), (100, 4), (100, 4), (100, 160)]
theorem zFz_sh : (List.range 81).map (fun a => (zsh zFz a, zln zFz a)) = zTsh := by decide +kernel
def zTrf : List ((Nat × Nat) × Nat) := [((0, 0), 1), ((0, 1), 7), ((0, 2), 13), ((0, 3), 19), ((0, 4), 20), ((0, 5), 43), ((0, 6), 45), ((0, 7), 50), ((1, 0), 2), ((1, 1), 3), ((1, 2), 4), ((1, 3), 5), ((1, 4), 6), ((7, 0), 8), ((7, 1), 9), ((7, 2), 10), ((7, 3), 11), ((7, 4), 12), ((13, 0), 14), ((13, 1), 15), ((13, 2), 16), ((13, 3), 17), ((13, 4), 18), ((19, 0), 20), ((19, 1), 42), ((20, 0), 21), ((20, 1), 22), ((20, 2), 23), ((21, 0), 24), ((21, 1), 27), ((21, 2), 30), ((21, 3), 33), ((21, 4), 36), ((21, 5), 39), ((24, 0), 25), ((24, 1), 26), ((27, 0), 28), ((27, 1), 29), ((30, 0), 31), ((30, 1), 32), ((33, 0), 34), ((33, 1), 35), ((36, 0), 37), ((36, 1), 38), ((39, 0), 40), ((39, 1), 41), ((43, 0), 44), ((45, 0), 46), ((45, 2), 47), ((47, 0), 48), ((47, 1), 49), ((50, 0), 51), ((50, 1), 53), ((50, 2), 55), ((50, 3), 57), ((51, 0), 52), ((53, 0), 54), ((55, 0), 56), ((57, 0), 58), ((59, 1), 60), ((59, 2), 61), ((59, 5), 62), ((59, 8), 63), ((59, 9), 64), ((59, 10), 65), ((59, 11), 66), ((59, 28), 67), ((59, 29), 68), ((59, 30), 69), ((59, 31), 70), ((59, 32), 71), ((59, 33), 72), ((59, 34), 73), ((59, 37), 74), ((59, 38), 75), ((59, 39), 76), ((59, 43), 77), ((59, 44), 78), ((59, 45), 79), ((59, 46), 80)]
theorem zFz_rf : zTrf.all (fun q => zrf zFz q.1.1 q.1.2 == some q.2) = true := by decide +kernel
/-- the shapes of the heap behind the constructors -/
def zSh (F : zF) : Prop := (∀ (a : Nat) (q : Nat × Nat), zTsh[a]? = some q → zsh F a = q.1 ∧ zln F a = q.2) ∧ ∀ (i : Nat) (q : (Nat × Nat) × Nat), zTrf[i]? = some q → zrf F q.1.1 q.1.2 = some q.2
theorem zSh_of {F : zF} (h1 : (List.range 81).map (fun a => (zsh F a, zln F a)) = zTsh) (h2 : zTrf.all (fun q => zrf F q.1.1 q.1.2 == some q.2) = true) : zSh F := by
  refine ⟨fun a q h => ?_, fun i q h => ?_⟩
  · rw [← h1, List.getElem?_map] at h
    cases hr : (List.range 81)[a]? with
    | none => rw [hr] at h; cases h
    | some b =>
      rw [hr, Option.map_some] at h
      have hb : b = a := by
        obtain ⟨h3, h2⟩ := List.getElem?_eq_some_iff.mp hr
        rw [List.getElem_range] at h2
        exact h2.symm
      subst hb
      have h9 := Option.some.inj h
      exact ⟨congrArg Prod.fst h9, congrArg Prod.snd h9⟩
  · exact beq_iff_eq.mp (List.all_eq_true.mp h2 _ (List.mem_of_getElem? h))
theorem zFz_ok : zSh zFz := zSh_of zFz_sh zFz_rf
theorem zsh_at {F : zF} (hF : zSh F) {a s n : Nat} (h : zTsh[a]? = some (s, n)) : zsh F a = s ∧ zln F a = n := hF.1 a _ h
theorem zrf_at {F : zF} (hF : zSh F) {i a k b : Nat} (h : zTrf[i]? = some ((a, k), b)) : zrf F a k = some b := hF.2 i _ h
/-- the three States, the seven Texts, the four Sheets -/
def zSt (b : Nat) : Prop := b = 1 ∨ b = 7 ∨ b = 13
def zTx (t : Nat) : Prop := t = 24 ∨ t = 27 ∨ t = 30 ∨ t = 33 ∨ t = 36 ∨ t = 39 ∨ t = 47
def zSt4 (t : Nat) : Prop := t = 51 ∨ t = 53 ∨ t = 55 ∨ t = 57
theorem zSt_f0 {F : zF} (hF : zSh F) {b : Nat} (h : zSt b) : zrf F b 0 = some (b + 1) := by
  rcases h with rfl | rfl | rfl
  · exact zrf_at hF (i := 8) rfl
  · exact zrf_at hF (i := 13) rfl
  · exact zrf_at hF (i := 18) rfl
theorem zSt_a0 {F : zF} (hF : zSh F) {b : Nat} (h : zSt b) : zsh F (b + 1) = 100 ∧ zln F (b + 1) = 4 := by
  rcases h with rfl | rfl | rfl
  · exact zsh_at hF rfl
  · exact zsh_at hF rfl
  · exact zsh_at hF rfl
theorem zSt_f1 {F : zF} (hF : zSh F) {b : Nat} (h : zSt b) : zrf F b 1 = some (b + 2) := by
  rcases h with rfl | rfl | rfl
  · exact zrf_at hF (i := 9) rfl
  · exact zrf_at hF (i := 14) rfl
  · exact zrf_at hF (i := 19) rfl
theorem zSt_a1 {F : zF} (hF : zSh F) {b : Nat} (h : zSt b) : zsh F (b + 2) = 100 ∧ zln F (b + 2) = 4 := by
  rcases h with rfl | rfl | rfl
  · exact zsh_at hF rfl
  · exact zsh_at hF rfl
  · exact zsh_at hF rfl
theorem zSt_f2 {F : zF} (hF : zSh F) {b : Nat} (h : zSt b) : zrf F b 2 = some (b + 3) := by
  rcases h with rfl | rfl | rfl
  · exact zrf_at hF (i := 10) rfl
  · exact zrf_at hF (i := 15) rfl
  · exact zrf_at hF (i := 20) rfl
theorem zSt_a2 {F : zF} (hF : zSh F) {b : Nat} (h : zSt b) : zsh F (b + 3) = 100 ∧ zln F (b + 3) = 5 := by
  rcases h with rfl | rfl | rfl
  · exact zsh_at hF rfl
  · exact zsh_at hF rfl
  · exact zsh_at hF rfl
theorem zSt_f3 {F : zF} (hF : zSh F) {b : Nat} (h : zSt b) : zrf F b 3 = some (b + 4) := by
  rcases h with rfl | rfl | rfl
  · exact zrf_at hF (i := 11) rfl
  · exact zrf_at hF (i := 16) rfl
  · exact zrf_at hF (i := 21) rfl
theorem zSt_a3 {F : zF} (hF : zSh F) {b : Nat} (h : zSt b) : zsh F (b + 4) = 100 ∧ zln F (b + 4) = 5 := by
  rcases h with rfl | rfl | rfl
  · exact zsh_at hF rfl
  · exact zsh_at hF rfl
  · exact zsh_at hF rfl
theorem zSt_f4 {F : zF} (hF : zSh F) {b : Nat} (h : zSt b) : zrf F b 4 = some (b + 5) := by
  rcases h with rfl | rfl | rfl
  · exact zrf_at hF (i := 12) rfl
  · exact zrf_at hF (i := 17) rfl
  · exact zrf_at hF (i := 22) rfl
theorem zSt_a4 {F : zF} (hF : zSh F) {b : Nat} (h : zSt b) : zsh F (b + 5) = 100 ∧ zln F (b + 5) = 5 := by
  rcases h with rfl | rfl | rfl
  · exact zsh_at hF rfl
  · exact zsh_at hF rfl
  · exact zsh_at hF rfl
theorem zSt_s {F : zF} (hF : zSh F) {b : Nat} (h : zSt b) : zsh F b = 4 ∧ zln F b = 8 := by
  rcases h with rfl | rfl | rfl
  · exact zsh_at hF rfl
  · exact zsh_at hF rfl
  · exact zsh_at hF rfl
theorem zTx_f0 {F : zF} (hF : zSh F) {b : Nat} (h : zTx b) : zrf F b 0 = some (b + 1) := by
  rcases h with rfl | rfl | rfl | rfl | rfl | rfl | rfl
  · exact zrf_at hF (i := 34) rfl
  · exact zrf_at hF (i := 36) rfl
  · exact zrf_at hF (i := 38) rfl
  · exact zrf_at hF (i := 40) rfl
  · exact zrf_at hF (i := 42) rfl
  · exact zrf_at hF (i := 44) rfl
  · exact zrf_at hF (i := 49) rfl
theorem zTx_a0 {F : zF} (hF : zSh F) {b : Nat} (h : zTx b) : zsh F (b + 1) = 100 ∧ zln F (b + 1) = 160 := by
  rcases h with rfl | rfl | rfl | rfl | rfl | rfl | rfl
  · exact zsh_at hF rfl
  · exact zsh_at hF rfl
  · exact zsh_at hF rfl
  · exact zsh_at hF rfl
  · exact zsh_at hF rfl
  · exact zsh_at hF rfl
  · exact zsh_at hF rfl
theorem zTx_f1 {F : zF} (hF : zSh F) {b : Nat} (h : zTx b) : zrf F b 1 = some (b + 2) := by
  rcases h with rfl | rfl | rfl | rfl | rfl | rfl | rfl
  · exact zrf_at hF (i := 35) rfl
  · exact zrf_at hF (i := 37) rfl
  · exact zrf_at hF (i := 39) rfl
  · exact zrf_at hF (i := 41) rfl
  · exact zrf_at hF (i := 43) rfl
  · exact zrf_at hF (i := 45) rfl
  · exact zrf_at hF (i := 50) rfl
theorem zTx_a1 {F : zF} (hF : zSh F) {b : Nat} (h : zTx b) : zsh F (b + 2) = 100 ∧ zln F (b + 2) = 3 := by
  rcases h with rfl | rfl | rfl | rfl | rfl | rfl | rfl
  · exact zsh_at hF rfl
  · exact zsh_at hF rfl
  · exact zsh_at hF rfl
  · exact zsh_at hF rfl
  · exact zsh_at hF rfl
  · exact zsh_at hF rfl
  · exact zsh_at hF rfl
theorem zTx_s {F : zF} (hF : zSh F) {b : Nat} (h : zTx b) : zsh F b = 6 ∧ zln F b = 3 := by
  rcases h with rfl | rfl | rfl | rfl | rfl | rfl | rfl
  · exact zsh_at hF rfl
  · exact zsh_at hF rfl
  · exact zsh_at hF rfl
  · exact zsh_at hF rfl
  · exact zsh_at hF rfl
  · exact zsh_at hF rfl
  · exact zsh_at hF rfl
theorem zSt4_f0 {F : zF} (hF : zSh F) {b : Nat} (h : zSt4 b) : zrf F b 0 = some (b + 1) := by
  rcases h with rfl | rfl | rfl | rfl
  · exact zrf_at hF (i := 55) rfl
  · exact zrf_at hF (i := 56) rfl
  · exact zrf_at hF (i := 57) rfl
  · exact zrf_at hF (i := 58) rfl
theorem zSt4_a0 {F : zF} (hF : zSh F) {b : Nat} (h : zSt4 b) : zsh F (b + 1) = 100 ∧ zln F (b + 1) = 40 := by
  rcases h with rfl | rfl | rfl | rfl
  · exact zsh_at hF rfl
  · exact zsh_at hF rfl
  · exact zsh_at hF rfl
  · exact zsh_at hF rfl
theorem zSt4_s {F : zF} (hF : zSh F) {b : Nat} (h : zSt4 b) : zsh F b = 3 ∧ zln F b = 3 := by
  rcases h with rfl | rfl | rfl | rfl
  · exact zsh_at hF rfl
  · exact zsh_at hF rfl
  · exact zsh_at hF rfl
  · exact zsh_at hF rfl
end
section
/-! The evaluator comes to an end with Q: one rule an instruction. -/
def E (x : zXs) (F : zF) (d M pc : Nat) (ls : zLs) (st : List Value) (G : zG) (Q : Option Value → zG → Prop) : Prop := ∃ n r G', zev x n d M pc ls st F G = some (r, F, G') ∧ Q r G'
def zow (M : Nat) : Nat := match zm M with
  | some mi => mi.1
  | none => 999
def zms (M : Nat) : Option (Nat × Nat × Bool × Nat × List Nat × Bool × Option FieldType) := match zm M with
  | some mi => some (mi.1, mi.2.2.2.1, mi.2.2.2.2.2.1, mi.2.2.2.2.2.2.1, mi.2.2.2.2.2.2.2.1, mi.2.1.name == "<init>", mi.2.2.2.2.1)
  | none => none
theorem zop_mi {M pc : Nat} {q : Instr × Nat} (h : zop M pc = some q) : ∃ mi, zm M = some mi := by
  unfold zop at h
  split at h
  · cases h
  · rename_i mi hm
    exact ⟨mi, hm⟩
theorem zow_mi {M : Nat} {mi : zE} (h : zm M = some mi) : zow M = mi.1 := by unfold zow; rw [h]
theorem zms_mi {M : Nat} {o l n : Nat} {s i : Bool} {LS : List Nat} {rt : Option FieldType} (h : zms M = some (o, l, s, n, LS, i, rt)) : ∃ mi, zm M = some mi ∧ mi.1 = o ∧ mi.2.2.2.1 = l ∧ mi.2.2.2.2.2.1 = s ∧ mi.2.2.2.2.2.2.1 = n ∧ mi.2.2.2.2.2.2.2.1 = LS ∧ (mi.2.1.name == "<init>") = i ∧ mi.2.2.2.2.1 = rt := by
  unfold zms at h
  split at h
  · rename_i mi hm
    have h9 := Option.some.inj h
    simp only [Prod.mk.injEq] at h9
    exact ⟨mi, hm, h9⟩
  · cases h
/-- more fuel, the same -/
theorem zev_more {x : zXs} : ∀ (n d M pc : Nat) (ls : zLs) (st : List Value) (F : zF) (G : zG) (o : Option Value × zF × zG), zev x n d M pc ls st F G = some o → zev x (n + 1) d M pc ls st F G = some o := by
  intro n
  induction n with
  | zero => intro d M pc ls st F G o h; unfold zev at h; cases h
  | succ n ih =>
    intro d M pc ls st F G o h
    rw [zev] at h ⊢
    split at h
    · cases h
    · split at h
      · cases h
      · split at h
        · split at h
          · cases h
          · split at h
            · rename_i hlen
              rw [if_pos hlen]
              split at h
              · split at h
                · rename_i r F1 G1 hev
                  rw [ih _ _ _ _ _ _ _ _ hev]
                  exact ih _ _ _ _ _ _ _ _ h
                · cases h
              · cases h
            · cases h
        · split at h
          · exact h
          · split at h
            · exact ih _ _ _ _ _ _ _ _ h
            · cases h
theorem zev_le {x : zXs} {n k d M pc : Nat} {ls : zLs} {st : List Value} {F : zF} {G : zG} {o : Option Value × zF × zG} (h : zev x n d M pc ls st F G = some o) (hk : n ≤ k) : zev x k d M pc ls st F G = some o := by
  induction hk with
  | refl => exact h
  | step _ ih => exact zev_more _ _ _ _ _ _ _ _ _ ih
section ER
variable {x : zXs} {F : zF} {d M pc : Nat} {ls : zLs} {st : List Value} {G : zG} {Q : Option Value → zG → Prop}
theorem E_si {op : Instr} {len pc1 : Nat} {ls1 : zLs} {st1 : List Value} {G1 : zG} {mi : zE} (hm : zm M = some mi) (hop : zop M pc = some (op, len)) (hc : zck mi.1 op = none) (hr : zrt mi op len st = none) (hs : zsi x mi.1 mi.2.2.2.2.2.2.2.1 (mi.2.1.name == "<init>") op len pc ls st F G = some (pc1, ls1, st1, F, G1)) (k : E x F d M pc1 ls1 st1 G1 Q) : E x F d M pc ls st G Q := by
  obtain ⟨n, r, G', h, hq⟩ := k
  refine ⟨n + 1, r, G', ?_, hq⟩
  rw [zev, hm]
  dsimp only
  rw [hop]
  dsimp only
  rw [hc]
  dsimp only
  rw [hr]
  dsimp only
  rw [hs]
  exact h
theorem E_ret {op : Instr} {len : Nat} {mi : zE} {r : Option Value} (hm : zm M = some mi) (hop : zop M pc = some (op, len)) (hc : zck mi.1 op = none) (hr : zrt mi op len st = some r) (k : Q r G) : E x F d M pc ls st G Q := by
  refine ⟨1, r, G, ?_, k⟩
  rw [zev, hm]
  dsimp only
  rw [hop]
  dsimp only
  rw [hc]
  dsimp only
  rw [hr]
theorem E_call {op : Instr} {mi mj : zE} {q : Nat × Nat × Nat × Bool × Nat} {as rest : List Value} (hm : zm M = some mi) (hop : zop M pc = some (op, 3)) (hc : zck mi.1 op = some q) (hca : zca F q.2.2.1 (zway op) st = some (mj, as, rest)) (k : E x F d q.2.2.1 0 (zent mj.2.2.2.1 as) [] G (fun r G' => E x F (d + 1) M (pc + 3) ls (r.toList ++ rest) G' Q)) : E x F (d + 1) M pc ls st G Q := by
  obtain ⟨n, r, G', h, n2, r2, G2, h2, hq⟩ := k
  refine ⟨(n + n2) + 1, r2, G2, ?_, hq⟩
  rw [zev, hm]
  dsimp only
  rw [hop]
  dsimp only
  rw [hc]
  dsimp only
  rw [if_pos rfl, hca]
  dsimp only
  rw [zev_le h (Nat.le_add_right n n2)]
  exact zev_le h2 (Nat.le_add_left n2 n)
theorem e_iconst {n : Int} (h : zop M pc = some (.iconst n, 1)) (k : E x F d M (pc + 1) ls (.int (Int32.ofInt n) :: st) G Q) : E x F d M pc ls st G Q := by
  obtain ⟨mi, hm⟩ := zop_mi h
  exact E_si hm h rfl rfl rfl k
theorem e_bipush {n : Int} {v : Int32} (h : zop M pc = some (.bipush n, 2)) (hv : (Int8.ofInt n).toInt32 = v) (k : E x F d M (pc + 2) ls (.int v :: st) G Q) : E x F d M pc ls st G Q := by
  subst hv
  obtain ⟨mi, hm⟩ := zop_mi h
  exact E_si hm h rfl rfl rfl k
theorem e_sipush {n : Int} {v : Int32} (h : zop M pc = some (.sipush n, 3)) (hv : (Int16.ofInt n).toInt32 = v) (k : E x F d M (pc + 3) ls (.int v :: st) G Q) : E x F d M pc ls st G Q := by
  subst hv
  obtain ⟨mi, hm⟩ := zop_mi h
  exact E_si hm h rfl rfl rfl k
theorem e_lconst {n : Fin 2} {v : Int64} (h : zop M pc = some (.lconst n, 1)) (hv : Int64.ofNat (n : Nat) = v) (k : E x F d M (pc + 1) ls (.long v :: st) G Q) : E x F d M pc ls st G Q := by
  subst hv
  obtain ⟨mi, hm⟩ := zop_mi h
  exact E_si hm h rfl rfl rfl k
theorem e_ldc {own idx w : Nat} {v : Int32} (h : zop M pc = some (.ldc idx, 2)) (ho : zow M = own) (hn : znum own idx = some (own, idx, v, w)) (k : E x F d M (pc + 2) ls (.int v :: st) G Q) : E x F d M pc ls st G Q := by
  obtain ⟨mi, hm⟩ := zop_mi h
  rw [zow_mi hm] at ho
  subst ho
  exact E_si hm h rfl rfl (by simp only [zsi, hn, if_true]; rfl) k
theorem e_ldcs {own idx kk : Nat} (h : zop M pc = some (.ldc idx, 2)) (ho : zow M = own) (hn : znum own idx = none) (hs : zstr own idx = some kk) (k : E x F d M (pc + 2) ls (.float (UInt32.ofNat kk) :: st) G Q) : E x F d M pc ls st G Q := by
  obtain ⟨mi, hm⟩ := zop_mi h
  rw [zow_mi hm] at ho
  subst ho
  exact E_si hm h rfl rfl (by simp only [zsi, hn, hs, if_true]) k
theorem e_ldcw {own idx w : Nat} {v : Int32} (h : zop M pc = some (.ldc_w idx, 3)) (ho : zow M = own) (hn : znum own idx = some (own, idx, v, w)) (k : E x F d M (pc + 3) ls (.int v :: st) G Q) : E x F d M pc ls st G Q := by
  obtain ⟨mi, hm⟩ := zop_mi h
  rw [zow_mi hm] at ho
  subst ho
  exact E_si hm h rfl rfl (by simp only [zsi, hn, if_true]; rfl) k
theorem e_ldc2 {own idx w : Nat} {v : Int64} (h : zop M pc = some (.ldc2_w idx, 3)) (ho : zow M = own) (hn : zlng own idx = some (own, idx, v, w)) (k : E x F d M (pc + 3) ls (.long v :: st) G Q) : E x F d M pc ls st G Q := by
  obtain ⟨mi, hm⟩ := zop_mi h
  rw [zow_mi hm] at ho
  subst ho
  exact E_si hm h rfl rfl (by simp only [zsi, hn, if_true]) k
theorem z_ld {i n : Nat} {ok : Value → Bool} {v : Value} (hv : zgt ls i = some v) (ho : ok v = true) : zld i ok n ls st F G = some (n, ls, v :: st, F, G) := by
  unfold zld
  rw [hv]
  dsimp only
  rw [if_pos ho]
theorem e_iload {i : Nat} {v : Int32} (h : zop M pc = some (.iload i, 2)) (hv : zgt ls i = some (.int v)) (k : E x F d M (pc + 2) ls (.int v :: st) G Q) : E x F d M pc ls st G Q := by
  obtain ⟨mi, hm⟩ := zop_mi h
  exact E_si hm h rfl rfl (by simp only [zsi, if_true]; exact z_ld hv rfl) k
theorem e_iload_n {i : Fin 4} {v : Int32} (h : zop M pc = some (.iload_n i, 1)) (hv : zgt ls (i : Nat) = some (.int v)) (k : E x F d M (pc + 1) ls (.int v :: st) G Q) : E x F d M pc ls st G Q := by
  obtain ⟨mi, hm⟩ := zop_mi h
  exact E_si hm h rfl rfl (by simp only [zsi, if_true]; exact z_ld hv rfl) k
theorem e_lload {i : Nat} {v : Int64} (h : zop M pc = some (.lload i, 2)) (hv : zgt ls i = some (.long v)) (k : E x F d M (pc + 2) ls (.long v :: st) G Q) : E x F d M pc ls st G Q := by
  obtain ⟨mi, hm⟩ := zop_mi h
  exact E_si hm h rfl rfl (by simp only [zsi, if_true]; exact z_ld hv rfl) k
theorem e_lload_n {i : Fin 4} {v : Int64} (h : zop M pc = some (.lload_n i, 1)) (hv : zgt ls (i : Nat) = some (.long v)) (k : E x F d M (pc + 1) ls (.long v :: st) G Q) : E x F d M pc ls st G Q := by
  obtain ⟨mi, hm⟩ := zop_mi h
  exact E_si hm h rfl rfl (by simp only [zsi, if_true]; exact z_ld hv rfl) k
theorem e_aload {i : Nat} {v : Value} (h : zop M pc = some (.aload i, 2)) (hv : zgt ls i = some v) (hr : zisr v = true) (k : E x F d M (pc + 2) ls (v :: st) G Q) : E x F d M pc ls st G Q := by
  obtain ⟨mi, hm⟩ := zop_mi h
  exact E_si hm h rfl rfl (by simp only [zsi, if_true]; exact z_ld hv hr) k
theorem e_aload_n {i : Fin 4} {v : Value} (h : zop M pc = some (.aload_n i, 1)) (hv : zgt ls (i : Nat) = some v) (hr : zisr v = true) (k : E x F d M (pc + 1) ls (v :: st) G Q) : E x F d M pc ls st G Q := by
  obtain ⟨mi, hm⟩ := zop_mi h
  exact E_si hm h rfl rfl (by simp only [zsi, if_true]; exact z_ld hv hr) k
/-- the places that hold longs keep away -/
def zaw (M i : Nat) : Bool := match zms M with
  | some q => decide (∀ j ∈ q.2.2.2.2.1, j + 1 ≠ i ∧ j ≠ i)
  | none => false
def zaw2 (M i : Nat) : Bool := match zms M with
  | some q => decide (i ∈ q.2.2.2.2.1 ∧ ∀ j ∈ q.2.2.2.2.1, j + 1 ≠ i ∧ j ≠ i + 1)
  | none => false
theorem zaw_mi {i : Nat} {mi : zE} (hm : zm M = some mi) (h : zaw M i = true) : ∀ j ∈ mi.2.2.2.2.2.2.2.1, j + 1 ≠ i ∧ j ≠ i := by
  unfold zaw zms at h
  rw [hm] at h
  exact of_decide_eq_true h
theorem zaw2_mi {i : Nat} {mi : zE} (hm : zm M = some mi) (h : zaw2 M i = true) : i ∈ mi.2.2.2.2.2.2.2.1 ∧ ∀ j ∈ mi.2.2.2.2.2.2.2.1, j + 1 ≠ i ∧ j ≠ i + 1 := by
  unfold zaw2 zms at h
  rw [hm] at h
  exact of_decide_eq_true h
theorem z_st1 {i n : Nat} {ok : Value → Bool} {v : Value} {LS : List Nat} (ho : ok v = true) (hi : i < ls.length) (hl : ∀ j ∈ LS, j + 1 ≠ i ∧ j ≠ i) : zst1 i ok LS n ls (v :: st) F G = some (n, ls.set i (some v), st, F, G) := by
  unfold zst1
  dsimp only
  rw [if_pos ⟨ho, hi, hl⟩]
theorem z_st2 {i n : Nat} {v : Int64} {LS : List Nat} (hi : i + 1 < ls.length) (hl : i ∈ LS ∧ ∀ j ∈ LS, j + 1 ≠ i ∧ j ≠ i + 1) : zst2 i LS n ls (.long v :: st) F G = some (n, (ls.set i (some (.long v))).set (i + 1) none, st, F, G) := by
  unfold zst2
  dsimp only
  rw [if_pos ⟨hi, hl⟩]
theorem e_istore {i : Nat} {v : Int32} (h : zop M pc = some (.istore i, 2)) (hw : zaw M i = true) (hi : i < ls.length) (k : E x F d M (pc + 2) (ls.set i (some (.int v))) st G Q) : E x F d M pc ls (.int v :: st) G Q := by
  obtain ⟨mi, hm⟩ := zop_mi h
  exact E_si hm h rfl rfl (by simp only [zsi, if_true]; exact z_st1 rfl hi (zaw_mi hm hw)) k
theorem e_istore_n {i : Fin 4} {v : Int32} (h : zop M pc = some (.istore_n i, 1)) (hw : zaw M (i : Nat) = true) (hi : (i : Nat) < ls.length) (k : E x F d M (pc + 1) (ls.set (i : Nat) (some (.int v))) st G Q) : E x F d M pc ls (.int v :: st) G Q := by
  obtain ⟨mi, hm⟩ := zop_mi h
  exact E_si hm h rfl rfl (by simp only [zsi, if_true]; exact z_st1 rfl hi (zaw_mi hm hw)) k
theorem e_astore {i : Nat} {v : Value} (h : zop M pc = some (.astore i, 2)) (hr : zisr v = true) (hw : zaw M i = true) (hi : i < ls.length) (k : E x F d M (pc + 2) (ls.set i (some v)) st G Q) : E x F d M pc ls (v :: st) G Q := by
  obtain ⟨mi, hm⟩ := zop_mi h
  exact E_si hm h rfl (by cases v <;> rfl) (by simp only [zsi, if_true]; exact z_st1 hr hi (zaw_mi hm hw)) k
theorem e_astore_n {i : Fin 4} {v : Value} (h : zop M pc = some (.astore_n i, 1)) (hr : zisr v = true) (hw : zaw M (i : Nat) = true) (hi : (i : Nat) < ls.length) (k : E x F d M (pc + 1) (ls.set (i : Nat) (some v)) st G Q) : E x F d M pc ls (v :: st) G Q := by
  obtain ⟨mi, hm⟩ := zop_mi h
  exact E_si hm h rfl (by cases v <;> rfl) (by simp only [zsi, if_true]; exact z_st1 hr hi (zaw_mi hm hw)) k
theorem e_lstore {i : Nat} {v : Int64} (h : zop M pc = some (.lstore i, 2)) (hw : zaw2 M i = true) (hi : i + 1 < ls.length) (k : E x F d M (pc + 2) ((ls.set i (some (.long v))).set (i + 1) none) st G Q) : E x F d M pc ls (.long v :: st) G Q := by
  obtain ⟨mi, hm⟩ := zop_mi h
  exact E_si hm h rfl rfl (by simp only [zsi, if_true]; exact z_st2 hi (zaw2_mi hm hw)) k
theorem e_lstore_n {i : Fin 4} {v : Int64} (h : zop M pc = some (.lstore_n i, 1)) (hw : zaw2 M (i : Nat) = true) (hi : (i : Nat) + 1 < ls.length) (k : E x F d M (pc + 1) ((ls.set (i : Nat) (some (.long v))).set ((i : Nat) + 1) none) st G Q) : E x F d M pc ls (.long v :: st) G Q := by
  obtain ⟨mi, hm⟩ := zop_mi h
  exact E_si hm h rfl rfl (by simp only [zsi, if_true]; exact z_st2 hi (zaw2_mi hm hw)) k
theorem e_iinc {i : Nat} {n : Int} {v : Int32} (h : zop M pc = some (.iinc i n, 3)) (hv : zgt ls i = some (.int v)) (hw : zaw M i = true) (k : E x F d M (pc + 3) (ls.set i (some (.int (v + Int32.ofInt n)))) st G Q) : E x F d M pc ls st G Q := by
  obtain ⟨mi, hm⟩ := zop_mi h
  refine E_si hm h rfl rfl ?_ k
  simp only [zsi, if_true, hv]
  rw [if_pos ⟨zgt_lt hv, zaw_mi hm hw⟩]
theorem e_iadd {a b : Int32} (h : zop M pc = some (.iadd, 1)) (k : E x F d M (pc + 1) ls (.int (a + b) :: st) G Q) : E x F d M pc ls (.int b :: .int a :: st) G Q := by
  obtain ⟨mi, hm⟩ := zop_mi h
  exact E_si hm h rfl rfl (rfl) k
theorem e_isub {a b : Int32} (h : zop M pc = some (.isub, 1)) (k : E x F d M (pc + 1) ls (.int (a - b) :: st) G Q) : E x F d M pc ls (.int b :: .int a :: st) G Q := by
  obtain ⟨mi, hm⟩ := zop_mi h
  exact E_si hm h rfl rfl (rfl) k
theorem e_imul {a b : Int32} (h : zop M pc = some (.imul, 1)) (k : E x F d M (pc + 1) ls (.int (a * b) :: st) G Q) : E x F d M pc ls (.int b :: .int a :: st) G Q := by
  obtain ⟨mi, hm⟩ := zop_mi h
  exact E_si hm h rfl rfl (rfl) k
theorem e_iand {a b : Int32} (h : zop M pc = some (.iand, 1)) (k : E x F d M (pc + 1) ls (.int (a &&& b) :: st) G Q) : E x F d M pc ls (.int b :: .int a :: st) G Q := by
  obtain ⟨mi, hm⟩ := zop_mi h
  exact E_si hm h rfl rfl (rfl) k
theorem e_ior {a b : Int32} (h : zop M pc = some (.ior, 1)) (k : E x F d M (pc + 1) ls (.int (a ||| b) :: st) G Q) : E x F d M pc ls (.int b :: .int a :: st) G Q := by
  obtain ⟨mi, hm⟩ := zop_mi h
  exact E_si hm h rfl rfl (rfl) k
theorem e_ixor {a b : Int32} (h : zop M pc = some (.ixor, 1)) (k : E x F d M (pc + 1) ls (.int (a ^^^ b) :: st) G Q) : E x F d M pc ls (.int b :: .int a :: st) G Q := by
  obtain ⟨mi, hm⟩ := zop_mi h
  exact E_si hm h rfl rfl (rfl) k
theorem e_ishl {a b : Int32} (h : zop M pc = some (.ishl, 1)) (k : E x F d M (pc + 1) ls (.int (a <<< (b &&& 31)) :: st) G Q) : E x F d M pc ls (.int b :: .int a :: st) G Q := by
  obtain ⟨mi, hm⟩ := zop_mi h
  exact E_si hm h rfl rfl (rfl) k
theorem e_ishr {a b : Int32} (h : zop M pc = some (.ishr, 1)) (k : E x F d M (pc + 1) ls (.int (a >>> (b &&& 31)) :: st) G Q) : E x F d M pc ls (.int b :: .int a :: st) G Q := by
  obtain ⟨mi, hm⟩ := zop_mi h
  exact E_si hm h rfl rfl (rfl) k
theorem e_iushr {a b : Int32} (h : zop M pc = some (.iushr, 1)) (k : E x F d M (pc + 1) ls (.int ((a.toUInt32 >>> (b.toUInt32 &&& Int32.toUInt32 31)).toInt32) :: st) G Q) : E x F d M pc ls (.int b :: .int a :: st) G Q := by
  obtain ⟨mi, hm⟩ := zop_mi h
  exact E_si hm h rfl rfl (rfl) k
theorem e_idiv {a b : Int32} (h : zop M pc = some (.idiv, 1)) (hb : ¬ b = 0) (k : E x F d M (pc + 1) ls (.int (a / b) :: st) G Q) : E x F d M pc ls (.int b :: .int a :: st) G Q := by
  obtain ⟨mi, hm⟩ := zop_mi h
  exact E_si hm h rfl rfl (by simp only [zsi, if_true, zbin, if_neg hb]) k
theorem e_irem {a b : Int32} (h : zop M pc = some (.irem, 1)) (hb : ¬ b = 0) (k : E x F d M (pc + 1) ls (.int (a - a / b * b) :: st) G Q) : E x F d M pc ls (.int b :: .int a :: st) G Q := by
  obtain ⟨mi, hm⟩ := zop_mi h
  exact E_si hm h rfl rfl (by simp only [zsi, if_true, zbin, if_neg hb]) k
theorem e_ineg {a : Int32} (h : zop M pc = some (.ineg, 1)) (k : E x F d M (pc + 1) ls (.int (-a) :: st) G Q) : E x F d M pc ls (.int a :: st) G Q := by
  obtain ⟨mi, hm⟩ := zop_mi h
  exact E_si hm h rfl rfl (rfl) k
theorem e_i2l {a : Int32} (h : zop M pc = some (.i2l, 1)) (k : E x F d M (pc + 1) ls (.long a.toInt64 :: st) G Q) : E x F d M pc ls (.int a :: st) G Q := by
  obtain ⟨mi, hm⟩ := zop_mi h
  exact E_si hm h rfl rfl (rfl) k
theorem e_i2b {a : Int32} (h : zop M pc = some (.i2b, 1)) (k : E x F d M (pc + 1) ls (.int a.toInt8.toInt32 :: st) G Q) : E x F d M pc ls (.int a :: st) G Q := by
  obtain ⟨mi, hm⟩ := zop_mi h
  exact E_si hm h rfl rfl (rfl) k
theorem e_i2s {a : Int32} (h : zop M pc = some (.i2s, 1)) (k : E x F d M (pc + 1) ls (.int a.toInt16.toInt32 :: st) G Q) : E x F d M pc ls (.int a :: st) G Q := by
  obtain ⟨mi, hm⟩ := zop_mi h
  exact E_si hm h rfl rfl (rfl) k
theorem e_i2c {a : Int32} (h : zop M pc = some (.i2c, 1)) (k : E x F d M (pc + 1) ls (.int (a.toUInt32 % 65536).toInt32 :: st) G Q) : E x F d M pc ls (.int a :: st) G Q := by
  obtain ⟨mi, hm⟩ := zop_mi h
  exact E_si hm h rfl rfl (rfl) k
theorem e_l2i {a : Int64} (h : zop M pc = some (.l2i, 1)) (k : E x F d M (pc + 1) ls (.int a.toInt32 :: st) G Q) : E x F d M pc ls (.long a :: st) G Q := by
  obtain ⟨mi, hm⟩ := zop_mi h
  exact E_si hm h rfl rfl (rfl) k
theorem e_ladd {a b : Int64} (h : zop M pc = some (.ladd, 1)) (k : E x F d M (pc + 1) ls (.long (a + b) :: st) G Q) : E x F d M pc ls (.long b :: .long a :: st) G Q := by
  obtain ⟨mi, hm⟩ := zop_mi h
  exact E_si hm h rfl rfl (rfl) k
theorem e_lsub {a b : Int64} (h : zop M pc = some (.lsub, 1)) (k : E x F d M (pc + 1) ls (.long (a - b) :: st) G Q) : E x F d M pc ls (.long b :: .long a :: st) G Q := by
  obtain ⟨mi, hm⟩ := zop_mi h
  exact E_si hm h rfl rfl (rfl) k
theorem e_lmul {a b : Int64} (h : zop M pc = some (.lmul, 1)) (k : E x F d M (pc + 1) ls (.long (a * b) :: st) G Q) : E x F d M pc ls (.long b :: .long a :: st) G Q := by
  obtain ⟨mi, hm⟩ := zop_mi h
  exact E_si hm h rfl rfl (rfl) k
theorem e_ldiv {a b : Int64} (h : zop M pc = some (.ldiv, 1)) (hb : ¬ b = 0) (k : E x F d M (pc + 1) ls (.long (a / b) :: st) G Q) : E x F d M pc ls (.long b :: .long a :: st) G Q := by
  obtain ⟨mi, hm⟩ := zop_mi h
  exact E_si hm h rfl rfl (by simp only [zsi, if_true, zbin2, if_neg hb]) k
theorem e_lrem {a b : Int64} (h : zop M pc = some (.lrem, 1)) (hb : ¬ b = 0) (k : E x F d M (pc + 1) ls (.long (a - a / b * b) :: st) G Q) : E x F d M pc ls (.long b :: .long a :: st) G Q := by
  obtain ⟨mi, hm⟩ := zop_mi h
  exact E_si hm h rfl rfl (by simp only [zsi, if_true, zbin2, if_neg hb]) k
theorem e_lcmp {a b : Int64} (h : zop M pc = some (.lcmp, 1)) (k : E x F d M (pc + 1) ls (.int (lg_cmp a b) :: st) G Q) : E x F d M pc ls (.long b :: .long a :: st) G Q := by
  obtain ⟨mi, hm⟩ := zop_mi h
  exact E_si hm h rfl rfl (rfl) k
theorem e_dup {v : Value} (h : zop M pc = some (.dup, 1)) (hv : zcat v = 1) (k : E x F d M (pc + 1) ls (v :: v :: st) G Q) : E x F d M pc ls (v :: st) G Q := by
  obtain ⟨mi, hm⟩ := zop_mi h
  exact E_si hm h rfl (by cases v <;> rfl) (by simp only [zsi, if_true, hv]) k
theorem e_pop {v : Value} (h : zop M pc = some (.pop, 1)) (hv : zcat v = 1) (k : E x F d M (pc + 1) ls (st) G Q) : E x F d M pc ls (v :: st) G Q := by
  obtain ⟨mi, hm⟩ := zop_mi h
  exact E_si hm h rfl (by cases v <;> rfl) (by simp only [zsi, if_true, hv]) k
theorem e_dup2 {v w : Value} (h : zop M pc = some (.dup2, 1)) (hv : zcat v = 1 ∧ zcat w = 1) (k : E x F d M (pc + 1) ls (v :: w :: v :: w :: st) G Q) : E x F d M pc ls (v :: w :: st) G Q := by
  obtain ⟨mi, hm⟩ := zop_mi h
  exact E_si hm h rfl (by cases v <;> rfl) (by simp only [zsi, if_true, if_pos hv]) k
theorem e_icmp_eq {a b : Int32} {off : Int} {tg : Nat} (h : zop M pc = some (.if_icmp .eq off, 3)) (ht : zpj pc off = some tg) (kt : a = b → E x F d M tg ls st G Q) (kf : ¬ (a = b) → E x F d M (pc + 3) ls st G Q) : E x F d M pc ls (.int b :: .int a :: st) G Q := by
  obtain ⟨mi, hm⟩ := zop_mi h
  by_cases hc : a = b
  · exact E_si hm h rfl rfl (by simp only [zsi, if_true, zbr, ht, zc0, hc, decide_true, decide_false, Bool.not_true, Bool.not_false, not_true, not_false_eq_true]) (kt hc)
  · exact E_si hm h rfl rfl (by simp [zsi, zbr, ht, zc0, hc]) (kf hc)
theorem e_if_eq {a : Int32} {off : Int} {tg : Nat} (h : zop M pc = some (.ifCond .eq off, 3)) (ht : zpj pc off = some tg) (kt : a = 0 → E x F d M tg ls st G Q) (kf : ¬ (a = 0) → E x F d M (pc + 3) ls st G Q) : E x F d M pc ls (.int a :: st) G Q := by
  obtain ⟨mi, hm⟩ := zop_mi h
  by_cases hc : a = 0
  · exact E_si hm h rfl rfl (by simp only [zsi, if_true, zbr, ht, zc0, hc, decide_true, decide_false, Bool.not_true, Bool.not_false, not_true, not_false_eq_true]) (kt hc)
  · exact E_si hm h rfl rfl (by simp [zsi, zbr, ht, zc0, hc]) (kf hc)
theorem e_icmp_ne {a b : Int32} {off : Int} {tg : Nat} (h : zop M pc = some (.if_icmp .ne off, 3)) (ht : zpj pc off = some tg) (kt : ¬ a = b → E x F d M tg ls st G Q) (kf : ¬ (¬ a = b) → E x F d M (pc + 3) ls st G Q) : E x F d M pc ls (.int b :: .int a :: st) G Q := by
  obtain ⟨mi, hm⟩ := zop_mi h
  by_cases hc : ¬ a = b
  · exact E_si hm h rfl rfl (by simp only [zsi, if_true, zbr, ht, zc0, hc, decide_true, decide_false, Bool.not_true, Bool.not_false, not_true, not_false_eq_true]) (kt hc)
  · exact E_si hm h rfl rfl (by simp [zsi, zbr, ht, zc0, hc]) (kf hc)
theorem e_if_ne {a : Int32} {off : Int} {tg : Nat} (h : zop M pc = some (.ifCond .ne off, 3)) (ht : zpj pc off = some tg) (kt : ¬ a = 0 → E x F d M tg ls st G Q) (kf : ¬ (¬ a = 0) → E x F d M (pc + 3) ls st G Q) : E x F d M pc ls (.int a :: st) G Q := by
  obtain ⟨mi, hm⟩ := zop_mi h
  by_cases hc : ¬ a = 0
  · exact E_si hm h rfl rfl (by simp only [zsi, if_true, zbr, ht, zc0, hc, decide_true, decide_false, Bool.not_true, Bool.not_false, not_true, not_false_eq_true]) (kt hc)
  · exact E_si hm h rfl rfl (by simp [zsi, zbr, ht, zc0, hc]) (kf hc)
theorem e_icmp_lt {a b : Int32} {off : Int} {tg : Nat} (h : zop M pc = some (.if_icmp .lt off, 3)) (ht : zpj pc off = some tg) (kt : a < b → E x F d M tg ls st G Q) (kf : ¬ (a < b) → E x F d M (pc + 3) ls st G Q) : E x F d M pc ls (.int b :: .int a :: st) G Q := by
  obtain ⟨mi, hm⟩ := zop_mi h
  by_cases hc : a < b
  · exact E_si hm h rfl rfl (by simp only [zsi, if_true, zbr, ht, zc0, hc, decide_true, decide_false, Bool.not_true, Bool.not_false, not_true, not_false_eq_true]) (kt hc)
  · exact E_si hm h rfl rfl (by simp [zsi, zbr, ht, zc0, hc]) (kf hc)
theorem e_if_lt {a : Int32} {off : Int} {tg : Nat} (h : zop M pc = some (.ifCond .lt off, 3)) (ht : zpj pc off = some tg) (kt : a < 0 → E x F d M tg ls st G Q) (kf : ¬ (a < 0) → E x F d M (pc + 3) ls st G Q) : E x F d M pc ls (.int a :: st) G Q := by
  obtain ⟨mi, hm⟩ := zop_mi h
  by_cases hc : a < 0
  · exact E_si hm h rfl rfl (by simp only [zsi, if_true, zbr, ht, zc0, hc, decide_true, decide_false, Bool.not_true, Bool.not_false, not_true, not_false_eq_true]) (kt hc)
  · exact E_si hm h rfl rfl (by simp [zsi, zbr, ht, zc0, hc]) (kf hc)
theorem e_icmp_ge {a b : Int32} {off : Int} {tg : Nat} (h : zop M pc = some (.if_icmp .ge off, 3)) (ht : zpj pc off = some tg) (kt : b ≤ a → E x F d M tg ls st G Q) (kf : ¬ (b ≤ a) → E x F d M (pc + 3) ls st G Q) : E x F d M pc ls (.int b :: .int a :: st) G Q := by
  obtain ⟨mi, hm⟩ := zop_mi h
  by_cases hc : b ≤ a
  · exact E_si hm h rfl rfl (by simp only [zsi, if_true, zbr, ht, zc0, hc, decide_true, decide_false, Bool.not_true, Bool.not_false, not_true, not_false_eq_true]) (kt hc)
  · exact E_si hm h rfl rfl (by simp [zsi, zbr, ht, zc0, hc]) (kf hc)
theorem e_if_ge {a : Int32} {off : Int} {tg : Nat} (h : zop M pc = some (.ifCond .ge off, 3)) (ht : zpj pc off = some tg) (kt : 0 ≤ a → E x F d M tg ls st G Q) (kf : ¬ (0 ≤ a) → E x F d M (pc + 3) ls st G Q) : E x F d M pc ls (.int a :: st) G Q := by
  obtain ⟨mi, hm⟩ := zop_mi h
  by_cases hc : 0 ≤ a
  · exact E_si hm h rfl rfl (by simp only [zsi, if_true, zbr, ht, zc0, hc, decide_true, decide_false, Bool.not_true, Bool.not_false, not_true, not_false_eq_true]) (kt hc)
  · exact E_si hm h rfl rfl (by simp [zsi, zbr, ht, zc0, hc]) (kf hc)
theorem e_icmp_gt {a b : Int32} {off : Int} {tg : Nat} (h : zop M pc = some (.if_icmp .gt off, 3)) (ht : zpj pc off = some tg) (kt : b < a → E x F d M tg ls st G Q) (kf : ¬ (b < a) → E x F d M (pc + 3) ls st G Q) : E x F d M pc ls (.int b :: .int a :: st) G Q := by
  obtain ⟨mi, hm⟩ := zop_mi h
  by_cases hc : b < a
  · exact E_si hm h rfl rfl (by simp only [zsi, if_true, zbr, ht, zc0, hc, decide_true, decide_false, Bool.not_true, Bool.not_false, not_true, not_false_eq_true]) (kt hc)
  · exact E_si hm h rfl rfl (by simp [zsi, zbr, ht, zc0, hc]) (kf hc)
theorem e_if_gt {a : Int32} {off : Int} {tg : Nat} (h : zop M pc = some (.ifCond .gt off, 3)) (ht : zpj pc off = some tg) (kt : 0 < a → E x F d M tg ls st G Q) (kf : ¬ (0 < a) → E x F d M (pc + 3) ls st G Q) : E x F d M pc ls (.int a :: st) G Q := by
  obtain ⟨mi, hm⟩ := zop_mi h
  by_cases hc : 0 < a
  · exact E_si hm h rfl rfl (by simp only [zsi, if_true, zbr, ht, zc0, hc, decide_true, decide_false, Bool.not_true, Bool.not_false, not_true, not_false_eq_true]) (kt hc)
  · exact E_si hm h rfl rfl (by simp [zsi, zbr, ht, zc0, hc]) (kf hc)
theorem e_icmp_le {a b : Int32} {off : Int} {tg : Nat} (h : zop M pc = some (.if_icmp .le off, 3)) (ht : zpj pc off = some tg) (kt : a ≤ b → E x F d M tg ls st G Q) (kf : ¬ (a ≤ b) → E x F d M (pc + 3) ls st G Q) : E x F d M pc ls (.int b :: .int a :: st) G Q := by
  obtain ⟨mi, hm⟩ := zop_mi h
  by_cases hc : a ≤ b
  · exact E_si hm h rfl rfl (by simp only [zsi, if_true, zbr, ht, zc0, hc, decide_true, decide_false, Bool.not_true, Bool.not_false, not_true, not_false_eq_true]) (kt hc)
  · exact E_si hm h rfl rfl (by simp [zsi, zbr, ht, zc0, hc]) (kf hc)
theorem e_if_le {a : Int32} {off : Int} {tg : Nat} (h : zop M pc = some (.ifCond .le off, 3)) (ht : zpj pc off = some tg) (kt : a ≤ 0 → E x F d M tg ls st G Q) (kf : ¬ (a ≤ 0) → E x F d M (pc + 3) ls st G Q) : E x F d M pc ls (.int a :: st) G Q := by
  obtain ⟨mi, hm⟩ := zop_mi h
  by_cases hc : a ≤ 0
  · exact E_si hm h rfl rfl (by simp only [zsi, if_true, zbr, ht, zc0, hc, decide_true, decide_false, Bool.not_true, Bool.not_false, not_true, not_false_eq_true]) (kt hc)
  · exact E_si hm h rfl rfl (by simp [zsi, zbr, ht, zc0, hc]) (kf hc)
theorem e_goto {off : Int} {tg : Nat} (h : zop M pc = some (.goto off, 3)) (ht : zpj pc off = some tg) (k : E x F d M tg ls st G Q) : E x F d M pc ls st G Q := by
  obtain ⟨mi, hm⟩ := zop_mi h
  exact E_si hm h rfl rfl (by simp only [zsi, if_true, ht]) k
theorem e_tableOut {dd lo hi : Int} {offs : Array Int} {len tg : Nat} {a : Int32} (h : zop M pc = some (.tableswitch dd lo hi offs, len)) (ho : a.toInt < lo ∨ hi < a.toInt) (ht : zpj pc dd = some tg) (k : E x F d M tg ls st G Q) : E x F d M pc ls (.int a :: st) G Q := by
  obtain ⟨mi, hm⟩ := zop_mi h
  exact E_si hm h rfl (by unfold zrt; split <;> rfl) (by simp only [zsi, if_pos ho, ht]) k
theorem e_tableIn {dd lo hi off : Int} {offs : Array Int} {len tg : Nat} {a : Int32} (h : zop M pc = some (.tableswitch dd lo hi offs, len)) (ho : ¬ (a.toInt < lo ∨ hi < a.toInt)) (hf : offs[(a.toInt - lo).toNat]? = some off) (ht : zpj pc off = some tg) (k : E x F d M tg ls st G Q) : E x F d M pc ls (.int a :: st) G Q := by
  obtain ⟨mi, hm⟩ := zop_mi h
  exact E_si hm h rfl (by unfold zrt; split <;> rfl) (by simp only [zsi, if_neg ho, hf, ht]) k
theorem e_lookup {dd : Int} {ps : Array (Int × Int)} {len tg : Nat} {a : Int32} (h : zop M pc = some (.lookupswitch dd ps, len)) (hp : (ps.toList.zip (ps.toList.drop 1)).all (fun (a, next) => a.1 < next.1) = true) (ht : zpj pc (Op.lookupswitch.offset ps.toList dd a.toInt) = some tg) (k : E x F d M tg ls st G Q) : E x F d M pc ls (.int a :: st) G Q := by
  obtain ⟨mi, hm⟩ := zop_mi h
  exact E_si hm h rfl (by unfold zrt; split <;> rfl) (by simp only [zsi, if_pos hp, ht]) k
theorem e_getI {own idx ci kf w : Nat} {a : Nat} {V : Nat → Nat → Int32} {T : Nat → Nat → Int64} (h : zop M pc = some (.getfield idx, 3)) (ho : zow M = own) (hf : zfld own idx = some (own, idx, ci, kf, w)) (hs : zsh F a = ci) (hc : kf < zN ci ∧ ci < 9) (ht : zty ci kf = .int) (k : E x F d M (pc + 3) ls (.int (V a kf) :: st) (V, T) Q) : E x F d M pc ls (.ref a :: st) (V, T) Q := by
  obtain ⟨mi, hm⟩ := zop_mi h
  rw [zow_mi hm] at ho
  subst ho
  refine E_si hm h rfl rfl ?_ k
  simp only [zsi, if_true, hf, zgf]
  rw [if_pos ⟨hs, hc⟩, ht]
theorem e_getZ {own idx ci kf w : Nat} {a : Nat} {V : Nat → Nat → Int32} {T : Nat → Nat → Int64} (h : zop M pc = some (.getfield idx, 3)) (ho : zow M = own) (hf : zfld own idx = some (own, idx, ci, kf, w)) (hs : zsh F a = ci) (hc : kf < zN ci ∧ ci < 9) (ht : zty ci kf = .boolean) (k : E x F d M (pc + 3) ls (.int (V a kf) :: st) (V, T) Q) : E x F d M pc ls (.ref a :: st) (V, T) Q := by
  obtain ⟨mi, hm⟩ := zop_mi h
  rw [zow_mi hm] at ho
  subst ho
  refine E_si hm h rfl rfl ?_ k
  simp only [zsi, if_true, hf, zgf]
  rw [if_pos ⟨hs, hc⟩, ht]
theorem e_getJ {own idx ci kf w : Nat} {a : Nat} {V : Nat → Nat → Int32} {T : Nat → Nat → Int64} (h : zop M pc = some (.getfield idx, 3)) (ho : zow M = own) (hf : zfld own idx = some (own, idx, ci, kf, w)) (hs : zsh F a = ci) (hc : kf < zN ci ∧ ci < 9) (ht : zty ci kf = .long) (k : E x F d M (pc + 3) ls (.long (T a kf) :: st) (V, T) Q) : E x F d M pc ls (.ref a :: st) (V, T) Q := by
  obtain ⟨mi, hm⟩ := zop_mi h
  rw [zow_mi hm] at ho
  subst ho
  refine E_si hm h rfl rfl ?_ k
  simp only [zsi, if_true, hf, zgf]
  rw [if_pos ⟨hs, hc⟩, ht]
theorem e_getO {own idx ci kf w : Nat} {a : Nat} {V : Nat → Nat → Int32} {T : Nat → Nat → Int64} {o : String} {b : Nat} (h : zop M pc = some (.getfield idx, 3)) (ho : zow M = own) (hf : zfld own idx = some (own, idx, ci, kf, w)) (hs : zsh F a = ci) (hc : kf < zN ci ∧ ci < 9) (ht : zty ci kf = .object o) (hb : zrf F a kf = some b) (k : E x F d M (pc + 3) ls (.ref b :: st) (V, T) Q) : E x F d M pc ls (.ref a :: st) (V, T) Q := by
  obtain ⟨mi, hm⟩ := zop_mi h
  rw [zow_mi hm] at ho
  subst ho
  refine E_si hm h rfl rfl ?_ k
  simp only [zsi, if_true, hf, zgf]
  rw [if_pos ⟨hs, hc⟩, ht]
  dsimp only
  rw [hb]
theorem e_getA {own idx ci kf w : Nat} {a : Nat} {V : Nat → Nat → Int32} {T : Nat → Nat → Int64} {o : FieldType} {b : Nat} (h : zop M pc = some (.getfield idx, 3)) (ho : zow M = own) (hf : zfld own idx = some (own, idx, ci, kf, w)) (hs : zsh F a = ci) (hc : kf < zN ci ∧ ci < 9) (ht : zty ci kf = .array o) (hb : zrf F a kf = some b) (k : E x F d M (pc + 3) ls (.ref b :: st) (V, T) Q) : E x F d M pc ls (.ref a :: st) (V, T) Q := by
  obtain ⟨mi, hm⟩ := zop_mi h
  rw [zow_mi hm] at ho
  subst ho
  refine E_si hm h rfl rfl ?_ k
  simp only [zsi, if_true, hf, zgf]
  rw [if_pos ⟨hs, hc⟩, ht]
  dsimp only
  rw [hb]
theorem e_getjv {own idx w : Nat} {u : UInt32} (h : zop M pc = some (.getfield idx, 3)) (ho : zow M = own) (hf : zfld own idx = none) (hj : zjfd own idx = some (own, idx, 0, w)) (hu : u.toNat < 12) (k : E x F d M (pc + 3) ls (.double (UInt64.ofNat (1 + u.toNat)) :: st) G Q) : E x F d M pc ls (.float u :: st) G Q := by
  obtain ⟨mi, hm⟩ := zop_mi h
  rw [zow_mi hm] at ho
  subst ho
  refine E_si hm h rfl rfl ?_ k
  simp only [zsi, if_true, hf, hj, zgj, if_pos hu]
theorem e_getjc {own idx w : Nat} {u : UInt32} (h : zop M pc = some (.getfield idx, 3)) (ho : zow M = own) (hf : zfld own idx = none) (hj : zjfd own idx = some (own, idx, 1, w)) (hu : u.toNat < 12) (k : E x F d M (pc + 3) ls (.int 0 :: st) G Q) : E x F d M pc ls (.float u :: st) G Q := by
  obtain ⟨mi, hm⟩ := zop_mi h
  rw [zow_mi hm] at ho
  subst ho
  refine E_si hm h rfl rfl ?_ k
  simp only [zsi, if_true, hf, hj, zgj, if_pos hu, Nat.one_ne_zero, if_false]
theorem e_gets {own idx y w : Nat} {v : Value} (h : zop M pc = some (.getstatic idx, 3)) (ho : zow M = own) (hf : zsfd own idx = some (own, idx, y, w)) (hv : (if y = 0 then Value.int 1 else if y = 1 then .double 0 else .retAddr 0) = v) (k : E x F d M (pc + 3) ls (v :: st) G Q) : E x F d M pc ls st G Q := by
  subst hv
  obtain ⟨mi, hm⟩ := zop_mi h
  rw [zow_mi hm] at ho
  subst ho
  refine E_si hm h rfl rfl ?_ k
  simp only [zsi, if_true, hf]
theorem e_putI {own idx ci kf w : Nat} {a : Nat} {V : Nat → Nat → Int32} {T : Nat → Nat → Int64} {v : Int32} (h : zop M pc = some (.putfield idx, 3)) (ho : zow M = own) (hf : zfld own idx = some (own, idx, ci, kf, w)) (hs : zsh F a = ci) (hc : kf < zN ci ∧ ci < 9 ∧ (zT ci kf).2.2.2 = false) (ht : zty ci kf = .int) (k : E x F d M (pc + 3) ls st (zu V a kf v, T) Q) : E x F d M pc ls (.int v :: .ref a :: st) (V, T) Q := by
  obtain ⟨mi, hm⟩ := zop_mi h
  rw [zow_mi hm] at ho
  subst ho
  refine E_si hm h rfl rfl ?_ k
  simp only [zsi, if_true, hf, zpf]
  rw [if_pos ⟨hs, hc⟩, ht]
theorem e_putZ {own idx ci kf w : Nat} {a : Nat} {V : Nat → Nat → Int32} {T : Nat → Nat → Int64} {v : Int32} (h : zop M pc = some (.putfield idx, 3)) (ho : zow M = own) (hf : zfld own idx = some (own, idx, ci, kf, w)) (hs : zsh F a = ci) (hc : kf < zN ci ∧ ci < 9 ∧ (zT ci kf).2.2.2 = false) (ht : zty ci kf = .boolean) (hv : narrow .boolean (.int v) = .int v) (k : E x F d M (pc + 3) ls st (zu V a kf v, T) Q) : E x F d M pc ls (.int v :: .ref a :: st) (V, T) Q := by
  obtain ⟨mi, hm⟩ := zop_mi h
  rw [zow_mi hm] at ho
  subst ho
  refine E_si hm h rfl rfl ?_ k
  simp only [zsi, if_true, hf, zpf]
  rw [if_pos ⟨hs, hc⟩, ht]
  dsimp only
  rw [if_pos hv]
theorem e_putJ {own idx ci kf w : Nat} {a : Nat} {V : Nat → Nat → Int32} {T : Nat → Nat → Int64} {v : Int64} (h : zop M pc = some (.putfield idx, 3)) (ho : zow M = own) (hf : zfld own idx = some (own, idx, ci, kf, w)) (hs : zsh F a = ci) (hc : kf < zN ci ∧ ci < 9 ∧ (zT ci kf).2.2.2 = false) (ht : zty ci kf = .long) (k : E x F d M (pc + 3) ls st (V, zu T a kf v) Q) : E x F d M pc ls (.long v :: .ref a :: st) (V, T) Q := by
  obtain ⟨mi, hm⟩ := zop_mi h
  rw [zow_mi hm] at ho
  subst ho
  refine E_si hm h rfl rfl ?_ k
  simp only [zsi, if_true, hf, zpf]
  rw [if_pos ⟨hs, hc⟩, ht]
theorem zix_n {i n : Nat} (h : i < n) (hn : n < 2 ^ 31) : zix (nI i) n = true := decide_eq_true (nI_in h hn)
theorem e_alen {a n : Nat} (h : zop M pc = some (.arraylength, 1)) (hs : 100 ≤ zsh F a ∧ zsh F a < 104) (hl : zln F a = n) (k : E x F d M (pc + 1) ls (.int (nI n) :: st) G Q) : E x F d M pc ls (.ref a :: st) G Q := by
  obtain ⟨mi, hm⟩ := zop_mi h
  refine E_si hm h rfl rfl ?_ k
  simp only [zsi, if_true]
  rw [if_pos hs, hl]
  rfl
theorem e_alenX {u : UInt64} {y : Bool} {n : Nat} {f : Nat → Int32} (h : zop M pc = some (.arraylength, 1)) (hx : zxt x u.toNat = some (y, n, f)) (k : E x F d M (pc + 1) ls (.int (nI n) :: st) G Q) : E x F d M pc ls (.double u :: st) G Q := by
  obtain ⟨mi, hm⟩ := zop_mi h
  refine E_si hm h rfl rfl ?_ k
  simp only [zsi, if_true, hx]
  rfl
theorem e_iald {a i n : Nat} {j : Int32} {V : Nat → Nat → Int32} {T : Nat → Nat → Int64} (h : zop M pc = some (.iaload, 1)) (hs : zsh F a = 100 ∧ zln F a = n) (hj : j = nI i) (hi : i < n) (hn : n < 2 ^ 31) (k : E x F d M (pc + 1) ls (.int (V a i) :: st) (V, T) Q) : E x F d M pc ls (.int j :: .ref a :: st) (V, T) Q := by
  subst hj
  obtain ⟨mi, hm⟩ := zop_mi h
  refine E_si hm h rfl rfl ?_ k
  simp only [zsi, if_true]
  rw [hs.2, if_pos ⟨hs.1, zix_n hi hn⟩, nI_clamp (by omega)]
theorem e_ialdX {u : UInt64} {i n : Nat} {j : Int32} {f : Nat → Int32} (h : zop M pc = some (.iaload, 1)) (hx : zxt x u.toNat = some (true, n, f)) (hj : j = nI i) (hi : i < n) (hn : n < 2 ^ 31) (k : E x F d M (pc + 1) ls (.int (f i) :: st) G Q) : E x F d M pc ls (.int j :: .double u :: st) G Q := by
  subst hj
  obtain ⟨mi, hm⟩ := zop_mi h
  refine E_si hm h rfl rfl ?_ k
  simp only [zsi, if_true, hx]
  rw [if_pos ⟨trivial, zix_n hi hn⟩, nI_clamp (by omega)]
theorem e_bald {a i n : Nat} {j : Int32} {V : Nat → Nat → Int32} {T : Nat → Nat → Int64} (h : zop M pc = some (.baload, 1)) (hs : zsh F a = 101 ∧ zln F a = n) (hj : j = nI i) (hi : i < n) (hn : n < 2 ^ 31) (k : E x F d M (pc + 1) ls (.int (V a i) :: st) (V, T) Q) : E x F d M pc ls (.int j :: .ref a :: st) (V, T) Q := by
  subst hj
  obtain ⟨mi, hm⟩ := zop_mi h
  refine E_si hm h rfl rfl ?_ k
  simp only [zsi, if_true]
  rw [hs.2, if_pos ⟨hs.1, zix_n hi hn⟩, nI_clamp (by omega)]
theorem e_baldX {u : UInt64} {i n : Nat} {j : Int32} {f : Nat → Int32} (h : zop M pc = some (.baload, 1)) (hx : zxt x u.toNat = some (false, n, f)) (hj : j = nI i) (hi : i < n) (hn : n < 2 ^ 31) (k : E x F d M (pc + 1) ls (.int (f i) :: st) G Q) : E x F d M pc ls (.int j :: .double u :: st) G Q := by
  subst hj
  obtain ⟨mi, hm⟩ := zop_mi h
  refine E_si hm h rfl rfl ?_ k
  simp only [zsi, if_true, hx]
  rw [if_pos ⟨trivial, zix_n hi hn⟩, nI_clamp (by omega)]
theorem e_aald {a b i n : Nat} {j : Int32} (h : zop M pc = some (.aaload, 1)) (hs : (zsh F a = 102 ∨ zsh F a = 103) ∧ zln F a = n) (hj : j = nI i) (hi : i < n) (hn : n < 2 ^ 31) (hb : zrf F a i = some b) (k : E x F d M (pc + 1) ls (.ref b :: st) G Q) : E x F d M pc ls (.int j :: .ref a :: st) G Q := by
  subst hj
  obtain ⟨mi, hm⟩ := zop_mi h
  refine E_si hm h rfl rfl ?_ k
  simp only [zsi, if_true]
  rw [hs.2, if_pos ⟨hs.1, zix_n hi hn⟩, nI_clamp (by omega), hb]
theorem e_iast {a i n : Nat} {j : Int32} {V : Nat → Nat → Int32} {T : Nat → Nat → Int64} {v : Int32} (h : zop M pc = some (.iastore, 1)) (hs : zsh F a = 100 ∧ zln F a = n) (hj : j = nI i) (hi : i < n) (hn : n < 2 ^ 31) (k : E x F d M (pc + 1) ls st (zu V a i v, T) Q) : E x F d M pc ls (.int v :: .int j :: .ref a :: st) (V, T) Q := by
  subst hj
  obtain ⟨mi, hm⟩ := zop_mi h
  refine E_si hm h rfl rfl ?_ k
  simp only [zsi, if_true]
  rw [hs.2, if_pos ⟨hs.1, zix_n hi hn⟩, nI_clamp (by omega)]
theorem e_bast {a i n : Nat} {j : Int32} {V : Nat → Nat → Int32} {T : Nat → Nat → Int64} {v : Int32} (h : zop M pc = some (.bastore, 1)) (hs : zsh F a = 101 ∧ zln F a = n) (hj : j = nI i) (hi : i < n) (hn : n < 2 ^ 31) (k : E x F d M (pc + 1) ls st (zu V a i (vp_nar .boolean v), T) Q) : E x F d M pc ls (.int v :: .int j :: .ref a :: st) (V, T) Q := by
  subst hj
  obtain ⟨mi, hm⟩ := zop_mi h
  refine E_si hm h rfl rfl ?_ k
  simp only [zsi, if_true]
  rw [hs.2, if_pos ⟨hs.1, zix_n hi hn⟩, nI_clamp (by omega)]
theorem e_max {own idx w : Nat} {a b : Int32} (h : zop M pc = some (.invokestatic idx, 3)) (ho : zow M = own) (hc : zcal own idx = none) (hx : zmxl own idx = some (own, idx, 1, w)) (h8 : (st.map zcat).sum ≤ 8) (k : E x F d M (pc + 3) ls (.int (if a < b then b else a) :: st) G Q) : E x F d M pc ls (.int b :: .int a :: st) G Q := by
  obtain ⟨mi, hm⟩ := zop_mi h
  rw [zow_mi hm] at ho
  subst ho
  refine E_si hm h hc rfl ?_ k
  simp only [zsi, if_true, hx, if_pos h8]
theorem e_min {own idx w : Nat} {a b : Int32} (h : zop M pc = some (.invokestatic idx, 3)) (ho : zow M = own) (hc : zcal own idx = none) (hx : zmxl own idx = some (own, idx, 0, w)) (h8 : (st.map zcat).sum ≤ 8) (k : E x F d M (pc + 3) ls (.int (if b < a then b else a) :: st) G Q) : E x F d M pc ls (.int b :: .int a :: st) G Q := by
  obtain ⟨mi, hm⟩ := zop_mi h
  rw [zow_mi hm] at ho
  subst ho
  refine E_si hm h hc rfl ?_ k
  simp only [zsi, if_true, hx, if_pos h8]
  rw [if_neg (by decide)]
theorem e_acopy {own idx w a b sp dp n na nb : Nat} {sp' dp' n' : Int32} {V : Nat → Nat → Int32} {T : Nat → Nat → Int64} (h : zop M pc = some (.invokestatic idx, 3)) (ho : zow M = own) (hc : zcal own idx = none) (hx : zmxl own idx = none) (hl : zacl own idx = some (own, idx, w)) (h8 : (st.map zcat).sum ≤ 8) (hsa : zsh F a = 100 ∧ zln F a = na) (hsb : zsh F b = 100 ∧ zln F b = nb) (e1 : sp' = nI sp) (e2 : dp' = nI dp) (e3 : n' = nI n) (h1 : sp + n ≤ na) (h2 : dp + n ≤ nb) (h3 : na < 2 ^ 31 ∧ nb < 2 ^ 31) (k : E x F d M (pc + 3) ls st (zcpy V a b sp dp n, T) Q) : E x F d M pc ls (.int n' :: .int dp' :: .ref b :: .int sp' :: .ref a :: st) (V, T) Q := by
  subst e1; subst e2; subst e3
  obtain ⟨mi, hm⟩ := zop_mi h
  rw [zow_mi hm] at ho
  subst ho
  refine E_si hm h hc rfl ?_ k
  simp only [zsi, if_true, hx, hl, zacp]
  rw [nI_clamp (show sp < 2 ^ 31 by omega), nI_clamp (show dp < 2 ^ 31 by omega), nI_clamp (show n < 2 ^ 31 by omega), hsa.2, hsb.2, if_pos ⟨hsa.1, hsb.1, nI_pos (by omega), nI_pos (by omega), nI_pos (by omega), h1, h2, h8⟩]
theorem e_ireti {v : Int32} {o l n : Nat} {s i : Bool} {LS : List Nat} (h : zop M pc = some (.ireturn, 1)) (hs : zms M = some (o, l, s, n, LS, i, some .int)) (k : Q (some (.int v)) G) : E x F d M pc ls [.int v] G Q := by
  obtain ⟨mi, hm, -, -, -, -, -, -, h7⟩ := zms_mi hs
  refine E_ret hm h rfl ?_ k
  unfold zrt
  rw [if_pos rfl, h7]
  dsimp only
  rw [if_pos ⟨rfl, Or.inl rfl⟩]
theorem e_iretz {v : Int32} {o l n : Nat} {s i : Bool} {LS : List Nat} (h : zop M pc = some (.ireturn, 1)) (hs : zms M = some (o, l, s, n, LS, i, some .boolean)) (hv : narrow .boolean (.int v) = .int v) (k : Q (some (.int v)) G) : E x F d M pc ls [.int v] G Q := by
  obtain ⟨mi, hm, -, -, -, -, -, -, h7⟩ := zms_mi hs
  refine E_ret hm h rfl ?_ k
  unfold zrt
  rw [if_pos rfl, h7]
  dsimp only
  rw [if_pos ⟨hv, Or.inr (Or.inl rfl)⟩]
theorem e_iretc {v : Int32} {o l n : Nat} {s i : Bool} {LS : List Nat} (h : zop M pc = some (.ireturn, 1)) (hs : zms M = some (o, l, s, n, LS, i, some .char)) (hv : narrow .char (.int v) = .int v) (k : Q (some (.int v)) G) : E x F d M pc ls [.int v] G Q := by
  obtain ⟨mi, hm, -, -, -, -, -, -, h7⟩ := zms_mi hs
  refine E_ret hm h rfl ?_ k
  unfold zrt
  rw [if_pos rfl, h7]
  dsimp only
  rw [if_pos ⟨hv, Or.inr (Or.inr (Or.inl rfl))⟩]
theorem e_iretb {v : Int32} {o l n : Nat} {s i : Bool} {LS : List Nat} (h : zop M pc = some (.ireturn, 1)) (hs : zms M = some (o, l, s, n, LS, i, some .byte)) (hv : narrow .byte (.int v) = .int v) (k : Q (some (.int v)) G) : E x F d M pc ls [.int v] G Q := by
  obtain ⟨mi, hm, -, -, -, -, -, -, h7⟩ := zms_mi hs
  refine E_ret hm h rfl ?_ k
  unfold zrt
  rw [if_pos rfl, h7]
  dsimp only
  rw [if_pos ⟨hv, Or.inr (Or.inr (Or.inr rfl))⟩]
theorem e_lret {v : Int64} {o l n : Nat} {s i : Bool} {LS : List Nat} (h : zop M pc = some (.lreturn, 1)) (hs : zms M = some (o, l, s, n, LS, i, some .long)) (k : Q (some (.long v)) G) : E x F d M pc ls [.long v] G Q := by
  obtain ⟨mi, hm, -, -, -, -, -, -, h7⟩ := zms_mi hs
  refine E_ret hm h rfl ?_ k
  unfold zrt
  rw [if_pos rfl]
  dsimp only
  rw [if_pos h7]
theorem e_aret {v : Value} {o l n : Nat} {s i : Bool} {LS : List Nat} {t : String} (h : zop M pc = some (.areturn, 1)) (hs : zms M = some (o, l, s, n, LS, i, some (.object t))) (hv : zisr v = true) (k : Q (some v) G) : E x F d M pc ls [v] G Q := by
  obtain ⟨mi, hm, -, -, -, -, -, -, h7⟩ := zms_mi hs
  refine E_ret hm h rfl ?_ k
  unfold zrt
  rw [if_pos rfl]
  dsimp only
  rw [if_pos hv, h7]
theorem e_vret {o l n : Nat} {s i : Bool} {LS : List Nat} (h : zop M pc = some (.return_, 1)) (hs : zms M = some (o, l, s, n, LS, i, none)) (k : Q none G) : E x F d M pc ls [] G Q := by
  obtain ⟨mi, hm, -, -, -, -, -, -, h7⟩ := zms_mi hs
  refine E_ret hm h rfl ?_ k
  unfold zrt
  rw [if_pos rfl]
  dsimp only
  rw [if_pos h7]
def zrok (F : zF) (own : Nat) (as : List Value) : Bool := match as with
  | .ref a :: _ => zsh F a == own && decide (own < 9)
  | .float k :: _ => own == 11 && decide (k.toNat < 12)
  | _ => false
theorem z_ca {m way na maxL own : Nat} {s i : Bool} {LS : List Nat} {rt : Option FieldType} {as rest : List Value} {ls1 : zLs} (hs : zms m = some (own, maxL, s, na, LS, i, rt)) (h1 : st = as.reverse ++ rest) (h2 : as.length = na) (h8 : (rest.map zcat).sum ≤ 8) (hst : s = true ↔ way = 0) (hin : i = true ↔ way = 2) (hr : way = 0 ∨ zrok F own as = true) (he : zent maxL as = ls1) (hl : ls1.length = maxL) (hk : zlok LS 0 ls1 = true) (hm : m + 1 < 212) : ∃ mj, zca F m way st = some (mj, as, rest) ∧ zent mj.2.2.2.1 as = ls1 := by
  obtain ⟨mj, g1, g2, g3, g4, g5, g6, g7, g8⟩ := zms_mi hs
  have t1 : (st.take na).reverse = as := by rw [h1, ← h2, ← List.length_reverse, List.take_left, List.reverse_reverse]
  have t2 : st.drop na = rest := by rw [h1, ← h2, ← List.length_reverse, List.drop_left]
  have t3 : na ≤ st.length := by rw [h1, List.length_append, List.length_reverse, h2]; exact Nat.le_add_right _ _
  refine ⟨mj, ?_, by rw [g3]; exact he⟩
  unfold zca
  rw [g1]
  dsimp only
  rw [g5, g3, g4, g6, t1, t2, if_pos]
  refine ⟨t3, h8, hst, ?_, ?_, by rw [he]; exact hl, by rw [he]; exact hk, by rw [zml_len]; exact hm⟩
  · rw [← hin, ← g7]
    simp
  · rcases hr with h | h
    · exact Or.inl h
    · refine Or.inr ?_
      unfold zok1
      rw [g2]
      unfold zrok at h
      exact h
theorem e_callS {own idx m na maxL w own2 : Nat} {nest : Bool} {LS : List Nat} {rt : Option FieldType} {as rest : List Value} {ls1 : zLs} (h : zop M pc = some (.invokestatic idx, 3)) (ho : zow M = own) (hc : zcal own idx = some (own, idx, m, nest, w)) (hs : zms m = some (own2, maxL, true, na, LS, false, rt)) (h1 : st = as.reverse ++ rest) (h2 : as.length = na) (h8 : (rest.map zcat).sum ≤ 8) (he : zent maxL as = ls1) (hl : ls1.length = maxL) (hk : zlok LS 0 ls1 = true) (hm : m + 1 < 212) (k : E x F d m 0 ls1 [] G (fun r G' => E x F (d + 1) M (pc + 3) ls (r.toList ++ rest) G' Q)) : E x F (d + 1) M pc ls st G Q := by
  obtain ⟨mi, hm0⟩ := zop_mi h
  rw [zow_mi hm0] at ho
  subst ho
  obtain ⟨mj, c1, c2⟩ := z_ca (F := F) (way := 0) hs h1 h2 h8 (by simp) (by simp) (Or.inl rfl) he hl hk hm
  subst c2
  exact E_call hm0 h hc c1 k
theorem e_callV {own idx m na maxL w own2 a : Nat} {nest : Bool} {LS : List Nat} {rt : Option FieldType} {as rest : List Value} {ls1 : zLs} (h : zop M pc = some (.invokevirtual idx, 3)) (ho : zow M = own) (hc : zcal own idx = some (own, idx, m, nest, w)) (hs : zms m = some (own2, maxL, false, na, LS, false, rt)) (h1 : st = (Value.ref a :: as).reverse ++ rest) (h2 : (Value.ref a :: as).length = na) (hr : zsh F a = own2) (h9 : own2 < 9) (h8 : (rest.map zcat).sum ≤ 8) (he : zent maxL (Value.ref a :: as) = ls1) (hl : ls1.length = maxL) (hk : zlok LS 0 ls1 = true) (hm : m + 1 < 212) (k : E x F d m 0 ls1 [] G (fun r G' => E x F (d + 1) M (pc + 3) ls (r.toList ++ rest) G' Q)) : E x F (d + 1) M pc ls st G Q := by
  obtain ⟨mi, hm0⟩ := zop_mi h
  rw [zow_mi hm0] at ho
  subst ho
  obtain ⟨mj, c1, c2⟩ := z_ca (F := F) (way := 1) hs h1 h2 h8 (by simp) (by simp) (Or.inr (by simp [zrok, hr, h9])) he hl hk hm
  subst c2
  exact E_call hm0 h hc c1 k
theorem e_callX {own idx m na maxL w : Nat} {u : UInt32} {nest : Bool} {LS : List Nat} {rt : Option FieldType} {as rest : List Value} {ls1 : zLs} (h : zop M pc = some (.invokevirtual idx, 3)) (ho : zow M = own) (hc : zcal own idx = some (own, idx, m, nest, w)) (hs : zms m = some (11, maxL, false, na, LS, false, rt)) (h1 : st = (Value.float u :: as).reverse ++ rest) (h2 : (Value.float u :: as).length = na) (hu : u.toNat < 12) (h8 : (rest.map zcat).sum ≤ 8) (he : zent maxL (Value.float u :: as) = ls1) (hl : ls1.length = maxL) (hk : zlok LS 0 ls1 = true) (hm : m + 1 < 212) (k : E x F d m 0 ls1 [] G (fun r G' => E x F (d + 1) M (pc + 3) ls (r.toList ++ rest) G' Q)) : E x F (d + 1) M pc ls st G Q := by
  obtain ⟨mi, hm0⟩ := zop_mi h
  rw [zow_mi hm0] at ho
  subst ho
  obtain ⟨mj, c1, c2⟩ := z_ca (F := F) (way := 1) hs h1 h2 h8 (by simp) (by simp) (Or.inr (by simp [zrok, hu])) he hl hk hm
  subst c2
  exact E_call hm0 h hc c1 k
end ER
end
section
/-! Blocks: 5-7,11-17 -/
theorem zs0 : zms 0 = some (7, 2, false, 1, [], true, none) := by rfl
theorem zs1 : zms 1 = some (4, 1, false, 1, [], true, none) := by rfl
theorem zs2 : zms 2 = some (0, 1, false, 1, [], true, none) := by rfl
theorem zs3 : zms 3 = some (2, 2, false, 1, [], true, none) := by rfl
theorem zs4 : zms 4 = some (6, 1, false, 1, [], true, none) := by rfl
theorem zs5 : zms 5 = some (6, 2, false, 2, [], false, none) := by rfl
theorem zs6 : zms 6 = some (6, 2, false, 2, [], false, none) := by rfl
theorem zs7 : zms 7 = some (7, 3, true, 3, [], false, (some .boolean)) := by rfl
theorem zs8 : zms 8 = some (1, 1, false, 1, [], true, none) := by rfl
theorem zs9 : zms 9 = some (5, 1, false, 1, [], true, none) := by rfl
theorem zs10 : zms 10 = some (3, 1, false, 1, [], true, none) := by rfl
theorem zs11 : zms 11 = some (7, 4, false, 4, [], false, (some .int)) := by rfl
theorem zs12 : zms 12 = some (4, 2, false, 2, [], false, (some .boolean)) := by rfl
theorem zs13 : zms 13 = some (4, 2, false, 2, [], false, (some .int)) := by rfl
theorem zs14 : zms 14 = some (4, 2, false, 2, [], false, (some .int)) := by rfl
theorem zs15 : zms 15 = some (9, 1, true, 1, [], false, (some .int)) := by rfl
theorem zs16 : zms 16 = some (7, 4, false, 4, [], false, (some .int)) := by rfl
theorem zs17 : zms 17 = some (7, 3, false, 2, [], false, (some .int)) := by rfl
theorem zs18 : zms 18 = some (7, 5, false, 4, [], false, (some .int)) := by rfl
theorem zs19 : zms 19 = some (4, 2, false, 2, [], false, (some .boolean)) := by rfl
theorem zs20 : zms 20 = some (7, 3, false, 3, [], false, (some .int)) := by rfl
theorem zs21 : zms 21 = some (4, 4, false, 3, [], false, (some .int)) := by rfl
theorem zs22 : zms 22 = some (7, 3, false, 3, [], false, (some .int)) := by rfl
theorem zs23 : zms 23 = some (7, 3, false, 3, [], false, (some .int)) := by rfl
theorem zs24 : zms 24 = some (0, 5, false, 3, [], false, (some .int)) := by rfl
theorem zs25 : zms 25 = some (2, 3, false, 3, [], false, (some .int)) := by rfl
theorem zs26 : zms 26 = some (2, 3, false, 3, [], false, none) := by rfl
theorem zs27 : zms 27 = some (2, 9, false, 3, [], false, (some .int)) := by rfl
theorem zs28 : zms 28 = some (2, 2, true, 2, [], false, (some .int)) := by rfl
theorem zs29 : zms 29 = some (2, 3, true, 3, [], false, (some .int)) := by rfl
theorem zs30 : zms 30 = some (7, 3, true, 3, [], false, (some .int)) := by rfl
theorem zs31 : zms 31 = some (7, 3, false, 3, [], false, (some .int)) := by rfl
theorem zs32 : zms 32 = some (4, 4, false, 2, [], false, (some .int)) := by rfl
theorem zs33 : zms 33 = some (4, 5, false, 2, [], false, (some .int)) := by rfl
theorem zs34 : zms 34 = some (4, 9, false, 3, [], false, (some .int)) := by rfl
theorem zs35 : zms 35 = some (2, 3, false, 3, [], false, (some .int)) := by rfl
theorem zs36 : zms 36 = some (7, 3, false, 3, [], false, (some .int)) := by rfl
theorem zs37 : zms 37 = some (7, 3, false, 3, [], false, (some .int)) := by rfl
theorem zs38 : zms 38 = some (2, 6, false, 6, [], false, (some .int)) := by rfl
theorem zs39 : zms 39 = some (0, 6, false, 5, [], false, (some .int)) := by rfl
theorem zs40 : zms 40 = some (0, 2, true, 2, [], false, (some .int)) := by rfl
theorem zs41 : zms 41 = some (7, 2, false, 2, [], false, (some .int)) := by rfl
theorem zs42 : zms 42 = some (5, 2, false, 2, [], false, (some .boolean)) := by rfl
theorem zs43 : zms 43 = some (7, 2, false, 1, [], false, (some .int)) := by rfl
theorem zs44 : zms 44 = some (5, 2, false, 1, [], false, (some .int)) := by rfl
theorem zs45 : zms 45 = some (6, 1, false, 1, [], false, none) := by rfl
theorem zs46 : zms 46 = some (5, 1, false, 1, [], false, none) := by rfl
theorem zs47 : zms 47 = some (5, 1, true, 1, [], false, (some .boolean)) := by rfl
theorem zs48 : zms 48 = some (5, 2, false, 1, [], false, none) := by rfl
theorem zs49 : zms 49 = some (5, 1, true, 1, [], false, (some (.object "java/lang/String"))) := by rfl
theorem zs50 : zms 50 = some (5, 3, false, 2, [], false, (some .boolean)) := by rfl
theorem zs51 : zms 51 = some (11, 1, false, 1, [], false, (some .int)) := by rfl
theorem zs52 : zms 52 = some (11, 1, false, 1, [], false, (some .byte)) := by rfl
theorem zs53 : zms 53 = some (11, 2, false, 2, [], false, (some .char)) := by rfl
theorem zs54 : zms 54 = some (11, 1, false, 1, [], false, (some .boolean)) := by rfl
theorem zs55 : zms 55 = some (12, 2, true, 2, [], false, (some .char)) := by rfl
theorem zs56 : zms 56 = some (11, 2, true, 2, [], false, none) := by rfl
theorem zs57 : zms 57 = some (14, 3, true, 3, [], false, (some .int)) := by rfl
theorem zs58 : zms 58 = some (5, 1, true, 1, [], false, (some .boolean)) := by rfl
theorem zs59 : zms 59 = some (5, 1, false, 1, [], false, none) := by rfl
theorem zs60 : zms 60 = some (5, 1, true, 1, [], false, (some .boolean)) := by rfl
theorem zs61 : zms 61 = some (5, 2, false, 2, [], false, none) := by rfl
theorem zs62 : zms 62 = some (5, 1, false, 1, [], false, none) := by rfl
theorem zs63 : zms 63 = some (5, 2, false, 1, [], false, none) := by rfl
theorem zs64 : zms 64 = some (5, 2, false, 1, [], false, none) := by rfl
theorem zs65 : zms 65 = some (5, 2, false, 1, [], false, none) := by rfl
theorem zs66 : zms 66 = some (5, 1, false, 1, [], false, (some .boolean)) := by rfl
theorem zs67 : zms 67 = some (5, 3, false, 1, [], false, none) := by rfl
theorem zs68 : zms 68 = some (5, 2, false, 1, [], false, none) := by rfl
theorem zs69 : zms 69 = some (5, 1, false, 1, [], false, none) := by rfl
theorem zs70 : zms 70 = some (2, 2, false, 2, [], false, (some .int)) := by rfl
theorem zs71 : zms 71 = some (6, 2, false, 2, [], false, none) := by rfl
theorem zs72 : zms 72 = some (7, 3, false, 2, [], false, (some .int)) := by rfl
theorem zs73 : zms 73 = some (7, 3, false, 3, [], false, (some .int)) := by rfl
theorem zs74 : zms 74 = some (0, 14, false, 4, [], false, (some .int)) := by rfl
theorem zs75 : zms 75 = some (0, 5, false, 5, [], false, none) := by rfl
theorem zs76 : zms 76 = some (7, 3, false, 3, [], false, (some .int)) := by rfl
theorem zs77 : zms 77 = some (1, 7, false, 3, [], false, (some .boolean)) := by rfl
theorem zs78 : zms 78 = some (0, 9, false, 5, [], false, (some .int)) := by rfl
theorem zs79 : zms 79 = some (7, 1, false, 1, [], false, (some .int)) := by rfl
theorem zs80 : zms 80 = some (0, 4, false, 2, [], false, none) := by rfl
theorem zs81 : zms 81 = some (4, 3, false, 1, [], false, (some .int)) := by rfl
theorem zs82 : zms 82 = some (7, 5, false, 4, [], false, (some .int)) := by rfl
theorem zs83 : zms 83 = some (4, 2, false, 2, [], false, none) := by rfl
theorem zs84 : zms 84 = some (7, 6, false, 5, [], false, (some .int)) := by rfl
theorem zs85 : zms 85 = some (7, 2, false, 2, [], false, none) := by rfl
theorem zs86 : zms 86 = some (1, 3, false, 2, [], false, none) := by rfl
theorem zs87 : zms 87 = some (7, 9, false, 4, [], false, (some .int)) := by rfl
theorem zs88 : zms 88 = some (1, 3, false, 1, [], false, (some .int)) := by rfl
theorem zs89 : zms 89 = some (1, 5, false, 1, [], false, (some .boolean)) := by rfl
theorem zs90 : zms 90 = some (1, 4, false, 3, [], false, none) := by rfl
theorem zs91 : zms 91 = some (7, 3, false, 3, [], false, (some .int)) := by rfl
theorem zs92 : zms 92 = some (7, 8, false, 3, [], false, (some .int)) := by rfl
theorem zs93 : zms 93 = some (7, 7, false, 3, [], false, (some .int)) := by rfl
theorem zs94 : zms 94 = some (7, 3, false, 2, [], false, (some .int)) := by rfl
theorem zs95 : zms 95 = some (7, 7, false, 3, [], false, (some .int)) := by rfl
theorem zs96 : zms 96 = some (7, 7, false, 1, [], false, (some .int)) := by rfl
theorem zs97 : zms 97 = some (7, 4, false, 2, [], false, (some .long)) := by rfl
theorem zs98 : zms 98 = some (7, 4, true, 3, [], false, (some .long)) := by rfl
theorem zs99 : zms 99 = some (7, 6, true, 2, [], false, (some .int)) := by rfl
theorem zs100 : zms 100 = some (7, 6, false, 5, [], false, (some .int)) := by rfl
theorem zs101 : zms 101 = some (7, 2, false, 2, [], false, (some .boolean)) := by rfl
theorem zs102 : zms 102 = some (3, 1, false, 1, [], false, (some .boolean)) := by rfl
theorem zs103 : zms 103 = some (7, 5, false, 4, [], false, (some .int)) := by rfl
theorem zs104 : zms 104 = some (7, 6, false, 4, [], false, (some .int)) := by rfl
theorem zs105 : zms 105 = some (7, 2, true, 2, [], false, (some .int)) := by rfl
theorem zs106 : zms 106 = some (7, 6, false, 4, [], false, (some .int)) := by rfl
theorem zs107 : zms 107 = some (7, 8, false, 5, [], false, (some .int)) := by rfl
theorem zs108 : zms 108 = some (7, 6, false, 4, [], false, (some .int)) := by rfl
theorem zs109 : zms 109 = some (7, 5, false, 3, [], false, (some .int)) := by rfl
theorem zs110 : zms 110 = some (7, 5, false, 3, [], false, (some .int)) := by rfl
theorem zs111 : zms 111 = some (7, 6, false, 4, [], false, (some .int)) := by rfl
theorem zs112 : zms 112 = some (3, 3, false, 3, [], false, none) := by rfl
theorem zs113 : zms 113 = some (13, 4, true, 2, [], false, none) := by rfl
theorem zs114 : zms 114 = some (3, 3, false, 3, [], false, (some .boolean)) := by rfl
theorem zs115 : zms 115 = some (3, 3, false, 3, [], false, (some .boolean)) := by rfl
theorem zs116 : zms 116 = some (7, 3, false, 3, [], false, (some .int)) := by rfl
theorem zs117 : zms 117 = some (7, 6, false, 3, [], false, (some .int)) := by rfl
theorem zs118 : zms 118 = some (7, 8, false, 6, [], false, (some .long)) := by rfl
theorem zs119 : zms 119 = some (7, 1, false, 1, [], false, (some .int)) := by rfl
theorem zs120 : zms 120 = some (7, 1, false, 1, [], false, (some .int)) := by rfl
theorem zs121 : zms 121 = some (7, 2, false, 2, [], false, (some .int)) := by rfl
theorem zs122 : zms 122 = some (7, 4, false, 4, [], false, (some .int)) := by rfl
theorem zs123 : zms 123 = some (7, 5, false, 4, [], false, (some .int)) := by rfl
theorem zs124 : zms 124 = some (7, 8, false, 6, [], false, (some .int)) := by rfl
theorem zs125 : zms 125 = some (7, 9, false, 5, [], false, (some .int)) := by rfl
theorem zs126 : zms 126 = some (7, 3, false, 3, [], false, (some .int)) := by rfl
theorem zs127 : zms 127 = some (7, 4, true, 2, [], false, (some .boolean)) := by rfl
theorem zs128 : zms 128 = some (8, 1, false, 1, [], true, none) := by rfl
theorem zs129 : zms 129 = some (8, 10, false, 10, [], false, none) := by rfl
theorem zs130 : zms 130 = some (8, 4, false, 4, [], false, (some .int)) := by rfl
theorem zs131 : zms 131 = some (8, 1, true, 1, [], false, (some .boolean)) := by rfl
theorem zs132 : zms 132 = some (8, 6, true, 3, [0, 2, 4], false, (some .boolean)) := by rfl
theorem zs133 : zms 133 = some (8, 2, false, 2, [], false, (some .int)) := by rfl
theorem zs134 : zms 134 = some (8, 3, true, 1, [], false, (some .int)) := by rfl
theorem zs135 : zms 135 = some (8, 5, false, 4, [], false, (some .int)) := by rfl
theorem zs136 : zms 136 = some (8, 2, false, 2, [], false, (some .boolean)) := by rfl
theorem zs137 : zms 137 = some (8, 1, true, 1, [], false, (some .int)) := by rfl
theorem zs138 : zms 138 = some (8, 3, false, 3, [], false, (some .int)) := by rfl
theorem zs139 : zms 139 = some (8, 6, false, 2, [], false, (some .int)) := by rfl
theorem zs140 : zms 140 = some (8, 7, false, 7, [], false, (some .int)) := by rfl
theorem zs141 : zms 141 = some (8, 6, false, 3, [], false, (some .int)) := by rfl
theorem zs142 : zms 142 = some (8, 3, false, 1, [], false, none) := by rfl
theorem zs143 : zms 143 = some (8, 2, false, 2, [], false, (some .int)) := by rfl
theorem zs144 : zms 144 = some (8, 9, false, 9, [], false, (some .boolean)) := by rfl
theorem zs145 : zms 145 = some (8, 3, false, 3, [], false, (some .boolean)) := by rfl
theorem zs146 : zms 146 = some (8, 3, false, 2, [], false, (some .int)) := by rfl
theorem zs147 : zms 147 = some (8, 1, false, 1, [], false, none) := by rfl
theorem zs148 : zms 148 = some (8, 3, false, 1, [], false, (some .int)) := by rfl
theorem zs149 : zms 149 = some (8, 3, false, 1, [], false, (some .int)) := by rfl
theorem zs150 : zms 150 = some (8, 4, false, 1, [], false, (some .int)) := by rfl
theorem zs151 : zms 151 = some (8, 1, false, 1, [], false, (some .boolean)) := by rfl
theorem zs152 : zms 152 = some (8, 4, false, 1, [], false, (some .int)) := by rfl
theorem zs153 : zms 153 = some (8, 2, false, 1, [], false, (some .int)) := by rfl
theorem zs154 : zms 154 = some (8, 2, false, 1, [], false, (some .int)) := by rfl
theorem zs155 : zms 155 = some (8, 2, false, 2, [], false, (some .boolean)) := by rfl
theorem zs156 : zms 156 = some (8, 1, false, 1, [], false, (some .int)) := by rfl
theorem zs157 : zms 157 = some (8, 3, true, 3, [], false, (some .int)) := by rfl
theorem zs158 : zms 158 = some (8, 4, false, 2, [], false, (some .int)) := by rfl
theorem zs159 : zms 159 = some (8, 3, false, 3, [], false, (some .boolean)) := by rfl
theorem zs160 : zms 160 = some (8, 5, false, 2, [], false, (some .int)) := by rfl
theorem zs161 : zms 161 = some (8, 2, false, 2, [], false, (some .int)) := by rfl
theorem zs162 : zms 162 = some (8, 4, false, 4, [], false, none) := by rfl
theorem zs163 : zms 163 = some (8, 3, false, 3, [], false, (some .int)) := by rfl
theorem zs164 : zms 164 = some (8, 2, false, 2, [], false, (some .int)) := by rfl
theorem zs165 : zms 165 = some (8, 2, false, 1, [], false, (some .int)) := by rfl
theorem zs166 : zms 166 = some (8, 3, false, 2, [], false, (some .int)) := by rfl
theorem zs167 : zms 167 = some (8, 3, false, 3, [], false, (some .int)) := by rfl
theorem zs168 : zms 168 = some (8, 3, false, 3, [], false, (some .int)) := by rfl
theorem zs169 : zms 169 = some (8, 9, false, 5, [], false, (some .int)) := by rfl
theorem zs170 : zms 170 = some (8, 3, false, 3, [], false, (some .int)) := by rfl
theorem zs171 : zms 171 = some (8, 8, false, 3, [], false, (some .int)) := by rfl
theorem zs172 : zms 172 = some (8, 5, false, 4, [], false, none) := by rfl
theorem zs173 : zms 173 = some (8, 4, false, 3, [], false, (some .int)) := by rfl
theorem zs174 : zms 174 = some (8, 5, false, 2, [], false, (some .boolean)) := by rfl
theorem zs175 : zms 175 = some (8, 1, false, 1, [], false, (some .int)) := by rfl
theorem zs176 : zms 176 = some (8, 2, false, 1, [], false, none) := by rfl
theorem zs177 : zms 177 = some (8, 1, false, 1, [], false, (some .int)) := by rfl
theorem zs178 : zms 178 = some (8, 4, false, 4, [], false, (some .int)) := by rfl
theorem zs179 : zms 179 = some (8, 6, false, 4, [], false, (some .int)) := by rfl
theorem zs180 : zms 180 = some (8, 2, false, 1, [], false, none) := by rfl
theorem zs181 : zms 181 = some (8, 2, false, 1, [], false, none) := by rfl
theorem zs182 : zms 182 = some (8, 6, false, 5, [], false, (some .int)) := by rfl
theorem zs183 : zms 183 = some (8, 5, false, 3, [], false, none) := by rfl
theorem zs184 : zms 184 = some (8, 4, false, 4, [], false, (some .int)) := by rfl
theorem zs185 : zms 185 = some (8, 11, false, 6, [], false, none) := by rfl
theorem zs186 : zms 186 = some (8, 3, false, 3, [], false, (some .int)) := by rfl
theorem zs187 : zms 187 = some (8, 3, false, 2, [], false, (some .int)) := by rfl
theorem zs188 : zms 188 = some (8, 7, false, 3, [], false, (some .int)) := by rfl
theorem zs189 : zms 189 = some (8, 7, false, 3, [], false, (some .int)) := by rfl
theorem zs190 : zms 190 = some (8, 6, false, 1, [], false, (some .int)) := by rfl
theorem zs191 : zms 191 = some (8, 3, false, 2, [], false, (some .long)) := by rfl
theorem zs192 : zms 192 = some (8, 11, true, 3, [0, 2, 5, 7, 9], false, (some .long)) := by rfl
theorem zs193 : zms 193 = some (8, 12, false, 5, [], false, (some .int)) := by rfl
theorem zs194 : zms 194 = some (8, 1, true, 1, [], false, (some .boolean)) := by rfl
theorem zs195 : zms 195 = some (8, 5, false, 4, [], false, (some .int)) := by rfl
theorem zs196 : zms 196 = some (8, 5, false, 3, [], false, (some .int)) := by rfl
theorem zs197 : zms 197 = some (8, 5, false, 3, [], false, (some .int)) := by rfl
theorem zs198 : zms 198 = some (8, 6, false, 4, [], false, (some .int)) := by rfl
theorem zs199 : zms 199 = some (8, 5, false, 4, [], false, (some .int)) := by rfl
theorem zs200 : zms 200 = some (8, 3, false, 3, [], false, (some .int)) := by rfl
theorem zs201 : zms 201 = some (8, 5, false, 3, [], false, (some .int)) := by rfl
theorem zs202 : zms 202 = some (8, 9, false, 6, [6], false, (some .long)) := by rfl
theorem zs203 : zms 203 = some (8, 2, false, 1, [], false, (some .int)) := by rfl
theorem zs204 : zms 204 = some (8, 2, false, 1, [], false, (some .int)) := by rfl
theorem zs205 : zms 205 = some (8, 2, false, 2, [], false, (some .int)) := by rfl
theorem zs206 : zms 206 = some (8, 4, false, 4, [], false, (some .int)) := by rfl
theorem zs207 : zms 207 = some (8, 9, false, 6, [], false, (some .int)) := by rfl
theorem zs208 : zms 208 = some (8, 8, false, 5, [], false, (some .int)) := by rfl
theorem zs209 : zms 209 = some (8, 4, false, 3, [], false, (some .int)) := by rfl
theorem zs210 : zms 210 = some (8, 1, true, 1, [], false, (some .int)) := by rfl
theorem zs211 : zms 211 = some (15, 4, true, 1, [], false, (some .boolean)) := by rfl
theorem zTxt_at {F : zF} (hF : zSh F) {i : Nat} (h : i < 6) : zrf F 21 i = some (24 + 3 * i) ∧ zTx (24 + 3 * i) := by
  rcases (show i = 0 ∨ i = 1 ∨ i = 2 ∨ i = 3 ∨ i = 4 ∨ i = 5 by omega) with rfl | rfl | rfl | rfl | rfl | rfl
  · exact ⟨zrf_at hF (i := 28) rfl, by simp [zTx]⟩
  · exact ⟨zrf_at hF (i := 29) rfl, by simp [zTx]⟩
  · exact ⟨zrf_at hF (i := 30) rfl, by simp [zTx]⟩
  · exact ⟨zrf_at hF (i := 31) rfl, by simp [zTx]⟩
  · exact ⟨zrf_at hF (i := 32) rfl, by simp [zTx]⟩
  · exact ⟨zrf_at hF (i := 33) rfl, by simp [zTx]⟩
theorem zTxt_in {i : Nat} (h : i < 6) : zTx (24 + 3 * i) := by
  unfold zTx
  omega
theorem zSht_at {F : zF} (hF : zSh F) {i : Nat} (h : i < 4) : zrf F 50 i = some (51 + 2 * i) ∧ zSt4 (51 + 2 * i) := by
  rcases (show i = 0 ∨ i = 1 ∨ i = 2 ∨ i = 3 by omega) with rfl | rfl | rfl | rfl
  · exact ⟨zrf_at hF (i := 51) rfl, by simp [zSt4]⟩
  · exact ⟨zrf_at hF (i := 52) rfl, by simp [zSt4]⟩
  · exact ⟨zrf_at hF (i := 53) rfl, by simp [zSt4]⟩
  · exact ⟨zrf_at hF (i := 54) rfl, by simp [zSt4]⟩
theorem zSht_in {i : Nat} (h : i < 4) : zSt4 (51 + 2 * i) := by
  unfold zSt4
  omega
theorem zsw_out {a : Int32} {lo hi : Int} (h1 : -1000000 ≤ lo) (h2 : hi ≤ 1000000) (h : ∀ v : Int, lo ≤ v → v ≤ hi → a = Int32.ofInt v → False) : a.toInt < lo ∨ hi < a.toInt := by
  by_cases hh : a.toInt < lo ∨ hi < a.toInt
  · exact hh
  · exfalso
    refine h a.toInt (by omega) (by omega) ?_
    exact (Int32.ofInt_toInt a).symm
theorem zd5_0 : zop 5 0 = some (.aload_n 0, 1) := by decide +kernel
theorem zd5_1 : zop 5 1 = some (.getfield 18, 3) := by decide +kernel
theorem zd5_4 : zop 5 4 = some (.sipush 160, 3) := by decide +kernel
theorem zd5_7 : zop 5 7 = some (.if_icmp .ge 23, 3) := by decide +kernel
theorem zd5_10 : zop 5 10 = some (.aload_n 0, 1) := by decide +kernel
theorem zd5_11 : zop 5 11 = some (.getfield 9, 3) := by decide +kernel
theorem zd5_14 : zop 5 14 = some (.aload_n 0, 1) := by decide +kernel
theorem zd5_15 : zop 5 15 = some (.getfield 18, 3) := by decide +kernel
theorem zd5_18 : zop 5 18 = some (.iload_n 1, 1) := by decide +kernel
theorem zd5_19 : zop 5 19 = some (.iastore, 1) := by decide +kernel
theorem zd5_20 : zop 5 20 = some (.aload_n 0, 1) := by decide +kernel
theorem zd5_21 : zop 5 21 = some (.dup, 1) := by decide +kernel
theorem zd5_22 : zop 5 22 = some (.getfield 18, 3) := by decide +kernel
theorem zd5_25 : zop 5 25 = some (.iconst 1, 1) := by decide +kernel
theorem zd5_26 : zop 5 26 = some (.iadd, 1) := by decide +kernel
theorem zd5_27 : zop 5 27 = some (.putfield 18, 3) := by decide +kernel
theorem zd5_30 : zop 5 30 = some (.return_, 1) := by decide +kernel
theorem b5_0 {x : zXs} {F : zF} (hF : zSh F) {d : Nat} {V : Nat → Nat → Int32} {T : Nat → Nat → Int64} {Q : Option Value → zG → Prop} {l0 : Nat} {o1 : Option Value} (hl0 : zTx l0)  (kt : (Int32.ofInt 160) ≤ (V l0 2) → E x F d 5 30 [some (.ref l0), o1] [] (V, T) Q) (kf : ¬ ((Int32.ofInt 160) ≤ (V l0 2)) → E x F d 5 10 [some (.ref l0), o1] [] (V, T) Q) : E x F d 5 0 [some (.ref l0), o1] [] (V, T) Q := by
  refine e_aload_n zd5_0 rfl rfl ?_
  refine e_getI zd5_1 (own := 6) (ci := 6) (kf := 2) (w := 178) (by decide +kernel) (by decide +kernel) (zTx_s hF hl0).1 (by decide +kernel) rfl ?_
  refine e_sipush zd5_4 (v := Int32.ofInt 160) (by decide +kernel) ?_
  exact e_icmp_ge zd5_7 (tg := 30) rfl kt kf
theorem b5_10 {x : zXs} {F : zF} (hF : zSh F) {d : Nat} {V : Nat → Nat → Int32} {T : Nat → Nat → Int64} {Q : Option Value → zG → Prop} {l0 : Nat} {l1 : Int32} (hl0 : zTx l0) {i1 : Nat} (e1 : V l0 2 = nI i1) (h1 : i1 < 160) (k : E x F d 5 30 [some (.ref l0), some (.int l1)] [] (zu (zu V (l0 + 1) i1 l1) l0 2 (((zu V (l0 + 1) i1 l1) l0 2) + (Int32.ofInt 1)), T) Q) : E x F d 5 10 [some (.ref l0), some (.int l1)] [] (V, T) Q := by
  refine e_aload_n zd5_10 rfl rfl ?_
  refine e_getA zd5_11 (own := 6) (ci := 6) (kf := 0) (w := 174) (by decide +kernel) (by decide +kernel) (zTx_s hF hl0).1 (by decide +kernel) rfl (zTx_f0 hF hl0) ?_
  refine e_aload_n zd5_14 rfl rfl ?_
  refine e_getI zd5_15 (own := 6) (ci := 6) (kf := 2) (w := 178) (by decide +kernel) (by decide +kernel) (zTx_s hF hl0).1 (by decide +kernel) rfl ?_
  refine e_iload_n zd5_18 rfl ?_
  refine e_iast zd5_19 (i := i1) (zTx_a0 hF hl0) e1 h1 (by omega) ?_
  refine e_aload_n zd5_20 rfl rfl ?_
  refine e_dup zd5_21 rfl ?_
  refine e_getI zd5_22 (own := 6) (ci := 6) (kf := 2) (w := 178) (by decide +kernel) (by decide +kernel) (zTx_s hF hl0).1 (by decide +kernel) rfl ?_
  refine e_iconst zd5_25 ?_
  refine e_iadd zd5_26 ?_
  refine e_putI zd5_27 (own := 6) (ci := 6) (kf := 2) (w := 178) (by decide +kernel) (by decide +kernel) (zTx_s hF hl0).1 (by decide +kernel) rfl ?_
  exact k
theorem b5_30 {x : zXs} {F : zF} (hF : zSh F) {d : Nat} {V : Nat → Nat → Int32} {T : Nat → Nat → Int64} {Q : Option Value → zG → Prop} {o0 : Option Value} {o1 : Option Value}   (k : Q none (V, T)) : E x F d 5 30 [o0, o1] [] (V, T) Q := by
  exact e_vret zd5_30 zs5 k
theorem zd6_0 : zop 6 0 = some (.iload_n 1, 1) := by decide +kernel
theorem zd6_1 : zop 6 1 = some (.iconst 0, 1) := by decide +kernel
theorem zd6_2 : zop 6 2 = some (.iconst 2, 1) := by decide +kernel
theorem zd6_3 : zop 6 3 = some (.invokestatic 22, 3) := by decide +kernel
theorem zd6_6 : zop 6 6 = some (.ifCond .eq 13, 3) := by decide +kernel
theorem zd6_9 : zop 6 9 = some (.aload_n 0, 1) := by decide +kernel
theorem zd6_10 : zop 6 10 = some (.getfield 15, 3) := by decide +kernel
theorem zd6_13 : zop 6 13 = some (.iload_n 1, 1) := by decide +kernel
theorem zd6_14 : zop 6 14 = some (.aload_n 0, 1) := by decide +kernel
theorem zd6_15 : zop 6 15 = some (.getfield 18, 3) := by decide +kernel
theorem zd6_18 : zop 6 18 = some (.iastore, 1) := by decide +kernel
theorem zd6_19 : zop 6 19 = some (.return_, 1) := by decide +kernel
theorem b6_0 {x : zXs} {F : zF} (hF : zSh F) {d : Nat} {V : Nat → Nat → Int32} {T : Nat → Nat → Int64} {Q : Option Value → zG → Prop} {o0 : Option Value} {l1 : Int32}   (k : E x F d 7 0 [some (.int l1), some (.int (Int32.ofInt 0)), some (.int (Int32.ofInt 2))] [] (V, T) (fun r G' => E x F (d + 1) 6 6 [o0, some (.int l1)] (r.toList ++ []) G' Q)) : E x F (d + 1) 6 0 [o0, some (.int l1)] [] (V, T) Q := by
  refine e_iload_n zd6_0 rfl ?_
  refine e_iconst zd6_1 ?_
  refine e_iconst zd6_2 ?_
  exact e_callS zd6_3 (own := 6) (nest := true) (w := 194) (by decide +kernel) (by decide +kernel) zs7 (as := [.int l1, .int (Int32.ofInt 0), .int (Int32.ofInt 2)]) (rest := []) rfl rfl (Nat.le_of_ble_eq_true rfl) rfl rfl rfl (by omega) k
theorem b6_6 {x : zXs} {F : zF} (hF : zSh F) {d : Nat} {V : Nat → Nat → Int32} {T : Nat → Nat → Int64} {Q : Option Value → zG → Prop} {o0 : Option Value} {o1 : Option Value} {s0 : Int32}   (kt : s0 = 0 → E x F d 6 19 [o0, o1] [] (V, T) Q) (kf : ¬ (s0 = 0) → E x F d 6 9 [o0, o1] [] (V, T) Q) : E x F d 6 6 [o0, o1] [.int s0] (V, T) Q := by
  exact e_if_eq zd6_6 (tg := 19) rfl kt kf
theorem b6_9 {x : zXs} {F : zF} (hF : zSh F) {d : Nat} {V : Nat → Nat → Int32} {T : Nat → Nat → Int64} {Q : Option Value → zG → Prop} {l0 : Nat} {l1 : Int32} (hl0 : zTx l0) {i1 : Nat} (e1 : l1 = nI i1) (h1 : i1 < 3) (k : E x F d 6 19 [some (.ref l0), some (.int l1)] [] (zu V (l0 + 2) i1 (V l0 2), T) Q) : E x F d 6 9 [some (.ref l0), some (.int l1)] [] (V, T) Q := by
  refine e_aload_n zd6_9 rfl rfl ?_
  refine e_getA zd6_10 (own := 6) (ci := 6) (kf := 1) (w := 176) (by decide +kernel) (by decide +kernel) (zTx_s hF hl0).1 (by decide +kernel) rfl (zTx_f1 hF hl0) ?_
  refine e_iload_n zd6_13 rfl ?_
  refine e_aload_n zd6_14 rfl rfl ?_
  refine e_getI zd6_15 (own := 6) (ci := 6) (kf := 2) (w := 178) (by decide +kernel) (by decide +kernel) (zTx_s hF hl0).1 (by decide +kernel) rfl ?_
  refine e_iast zd6_18 (i := i1) (zTx_a1 hF hl0) e1 h1 (by omega) ?_
  exact k
theorem b6_19 {x : zXs} {F : zF} (hF : zSh F) {d : Nat} {V : Nat → Nat → Int32} {T : Nat → Nat → Int64} {Q : Option Value → zG → Prop} {o0 : Option Value} {o1 : Option Value}   (k : Q none (V, T)) : E x F d 6 19 [o0, o1] [] (V, T) Q := by
  exact e_vret zd6_19 zs6 k
theorem zd7_0 : zop 7 0 = some (.iload_n 0, 1) := by decide +kernel
theorem zd7_1 : zop 7 1 = some (.iload_n 1, 1) := by decide +kernel
theorem zd7_2 : zop 7 2 = some (.if_icmp .lt 12, 3) := by decide +kernel
theorem zd7_5 : zop 7 5 = some (.iload_n 0, 1) := by decide +kernel
theorem zd7_6 : zop 7 6 = some (.iload_n 2, 1) := by decide +kernel
theorem zd7_7 : zop 7 7 = some (.if_icmp .gt 7, 3) := by decide +kernel
theorem zd7_10 : zop 7 10 = some (.iconst 1, 1) := by decide +kernel
theorem zd7_11 : zop 7 11 = some (.goto 4, 3) := by decide +kernel
theorem zd7_14 : zop 7 14 = some (.iconst 0, 1) := by decide +kernel
theorem zd7_15 : zop 7 15 = some (.ireturn, 1) := by decide +kernel
theorem b7_0 {x : zXs} {F : zF} (hF : zSh F) {d : Nat} {V : Nat → Nat → Int32} {T : Nat → Nat → Int64} {Q : Option Value → zG → Prop} {l0 : Int32} {l1 : Int32} {o2 : Option Value}   (kt : l0 < l1 → E x F d 7 14 [some (.int l0), some (.int l1), o2] [] (V, T) Q) (kf : ¬ (l0 < l1) → E x F d 7 5 [some (.int l0), some (.int l1), o2] [] (V, T) Q) : E x F d 7 0 [some (.int l0), some (.int l1), o2] [] (V, T) Q := by
  refine e_iload_n zd7_0 rfl ?_
  refine e_iload_n zd7_1 rfl ?_
  exact e_icmp_lt zd7_2 (tg := 14) rfl kt kf
theorem b7_5 {x : zXs} {F : zF} (hF : zSh F) {d : Nat} {V : Nat → Nat → Int32} {T : Nat → Nat → Int64} {Q : Option Value → zG → Prop} {l0 : Int32} {o1 : Option Value} {l2 : Int32}   (kt : l2 < l0 → E x F d 7 14 [some (.int l0), o1, some (.int l2)] [] (V, T) Q) (kf : ¬ (l2 < l0) → E x F d 7 10 [some (.int l0), o1, some (.int l2)] [] (V, T) Q) : E x F d 7 5 [some (.int l0), o1, some (.int l2)] [] (V, T) Q := by
  refine e_iload_n zd7_5 rfl ?_
  refine e_iload_n zd7_6 rfl ?_
  exact e_icmp_gt zd7_7 (tg := 14) rfl kt kf
theorem b7_10 {x : zXs} {F : zF} (hF : zSh F) {d : Nat} {V : Nat → Nat → Int32} {T : Nat → Nat → Int64} {Q : Option Value → zG → Prop} {o0 : Option Value} {o1 : Option Value} {o2 : Option Value}   (k : E x F d 7 15 [o0, o1, o2] [.int (Int32.ofInt 1)] (V, T) Q) : E x F d 7 10 [o0, o1, o2] [] (V, T) Q := by
  refine e_iconst zd7_10 ?_
  exact e_goto zd7_11 (tg := 15) rfl k
theorem b7_14 {x : zXs} {F : zF} (hF : zSh F) {d : Nat} {V : Nat → Nat → Int32} {T : Nat → Nat → Int64} {Q : Option Value → zG → Prop} {o0 : Option Value} {o1 : Option Value} {o2 : Option Value}   (k : E x F d 7 15 [o0, o1, o2] [.int (Int32.ofInt 0)] (V, T) Q) : E x F d 7 14 [o0, o1, o2] [] (V, T) Q := by
  refine e_iconst zd7_14 ?_
  exact k
theorem b7_15 {x : zXs} {F : zF} (hF : zSh F) {d : Nat} {V : Nat → Nat → Int32} {T : Nat → Nat → Int64} {Q : Option Value → zG → Prop} {o0 : Option Value} {o1 : Option Value} {o2 : Option Value} {s0 : Int32}  (b1 : narrow .boolean (.int s0) = .int s0) (k : Q (some (.int s0)) (V, T)) : E x F d 7 15 [o0, o1, o2] [.int s0] (V, T) Q := by
  exact e_iretz zd7_15 zs7 b1 k
theorem zd11_0 : zop 11 0 = some (.aload_n 0, 1) := by decide +kernel
theorem zd11_1 : zop 11 1 = some (.getfield 10, 3) := by decide +kernel
theorem zd11_4 : zop 11 4 = some (.iload_n 1, 1) := by decide +kernel
theorem zd11_5 : zop 11 5 = some (.invokevirtual 55, 3) := by decide +kernel
theorem zd11_8 : zop 11 8 = some (.ifCond .eq 26, 3) := by decide +kernel
theorem zd11_11 : zop 11 11 = some (.iload_n 2, 1) := by decide +kernel
theorem zd11_12 : zop 11 12 = some (.iconst 0, 1) := by decide +kernel
theorem zd11_13 : zop 11 13 = some (.bipush 24, 2) := by decide +kernel
theorem zd11_15 : zop 11 15 = some (.invokestatic 59, 3) := by decide +kernel
theorem zd11_18 : zop 11 18 = some (.ifCond .eq 16, 3) := by decide +kernel
theorem zd11_21 : zop 11 21 = some (.iload_n 3, 1) := by decide +kernel
theorem zd11_22 : zop 11 22 = some (.iconst 0, 1) := by decide +kernel
theorem zd11_23 : zop 11 23 = some (.iconst 1, 1) := by decide +kernel
theorem zd11_24 : zop 11 24 = some (.iload_n 2, 1) := by decide +kernel
theorem zd11_25 : zop 11 25 = some (.ishl, 1) := by decide +kernel
theorem zd11_26 : zop 11 26 = some (.iconst 1, 1) := by decide +kernel
theorem zd11_27 : zop 11 27 = some (.isub, 1) := by decide +kernel
theorem zd11_28 : zop 11 28 = some (.invokestatic 59, 3) := by decide +kernel
theorem zd11_31 : zop 11 31 = some (.ifCond .ne 6, 3) := by decide +kernel
theorem zd11_34 : zop 11 34 = some (.bipush (-2), 2) := by decide +kernel
theorem zd11_36 : zop 11 36 = some (.ireturn, 1) := by decide +kernel
theorem zd11_37 : zop 11 37 = some (.aload_n 0, 1) := by decide +kernel
theorem zd11_38 : zop 11 38 = some (.getfield 10, 3) := by decide +kernel
theorem zd11_41 : zop 11 41 = some (.getfield 63, 3) := by decide +kernel
theorem zd11_44 : zop 11 44 = some (.iload_n 1, 1) := by decide +kernel
theorem zd11_45 : zop 11 45 = some (.iload_n 2, 1) := by decide +kernel
theorem zd11_46 : zop 11 46 = some (.iastore, 1) := by decide +kernel
theorem zd11_47 : zop 11 47 = some (.aload_n 0, 1) := by decide +kernel
theorem zd11_48 : zop 11 48 = some (.getfield 10, 3) := by decide +kernel
theorem zd11_51 : zop 11 51 = some (.getfield 67, 3) := by decide +kernel
theorem zd11_54 : zop 11 54 = some (.iload_n 1, 1) := by decide +kernel
theorem zd11_55 : zop 11 55 = some (.iload_n 3, 1) := by decide +kernel
theorem zd11_56 : zop 11 56 = some (.iastore, 1) := by decide +kernel
theorem zd11_57 : zop 11 57 = some (.aload_n 0, 1) := by decide +kernel
theorem zd11_58 : zop 11 58 = some (.getfield 10, 3) := by decide +kernel
theorem zd11_61 : zop 11 61 = some (.iload_n 1, 1) := by decide +kernel
theorem zd11_62 : zop 11 62 = some (.invokevirtual 70, 3) := by decide +kernel
theorem zd11_65 : zop 11 65 = some (.ireturn, 1) := by decide +kernel
theorem b11_0 {x : zXs} {F : zF} (hF : zSh F) {d : Nat} {V : Nat → Nat → Int32} {T : Nat → Nat → Int64} {Q : Option Value → zG → Prop} {l1 : Int32} {o2 : Option Value} {o3 : Option Value}   (k : E x F d 12 0 [some (.ref 1), some (.int l1)] [] (V, T) (fun r G' => E x F (d + 1) 11 8 [some (.ref 0), some (.int l1), o2, o3] (r.toList ++ []) G' Q)) : E x F (d + 1) 11 0 [some (.ref 0), some (.int l1), o2, o3] [] (V, T) Q := by
  refine e_aload_n zd11_0 rfl rfl ?_
  refine e_getO zd11_1 (own := 7) (ci := 7) (kf := 0) (w := 297) (by decide +kernel) (by decide +kernel) (zsh_at hF rfl).1 (by decide +kernel) rfl (zrf_at hF (i := 0) rfl) ?_
  refine e_iload_n zd11_4 rfl ?_
  exact e_callV zd11_5 (own := 7) (nest := false) (w := 329) (by decide +kernel) (by decide +kernel) zs12 (as := [.int l1]) (rest := []) rfl rfl (zsh_at hF rfl).1 (by omega) (Nat.le_of_ble_eq_true rfl) rfl rfl rfl (by omega) k
theorem b11_8 {x : zXs} {F : zF} (hF : zSh F) {d : Nat} {V : Nat → Nat → Int32} {T : Nat → Nat → Int64} {Q : Option Value → zG → Prop} {o0 : Option Value} {o1 : Option Value} {o2 : Option Value} {o3 : Option Value} {s0 : Int32}   (kt : s0 = 0 → E x F d 11 34 [o0, o1, o2, o3] [] (V, T) Q) (kf : ¬ (s0 = 0) → E x F d 11 11 [o0, o1, o2, o3] [] (V, T) Q) : E x F d 11 8 [o0, o1, o2, o3] [.int s0] (V, T) Q := by
  exact e_if_eq zd11_8 (tg := 34) rfl kt kf
theorem b11_11 {x : zXs} {F : zF} (hF : zSh F) {d : Nat} {V : Nat → Nat → Int32} {T : Nat → Nat → Int64} {Q : Option Value → zG → Prop} {o0 : Option Value} {o1 : Option Value} {l2 : Int32} {o3 : Option Value}   (k : E x F d 7 0 [some (.int l2), some (.int (Int32.ofInt 0)), some (.int (Int32.ofInt 24))] [] (V, T) (fun r G' => E x F (d + 1) 11 18 [o0, o1, some (.int l2), o3] (r.toList ++ []) G' Q)) : E x F (d + 1) 11 11 [o0, o1, some (.int l2), o3] [] (V, T) Q := by
  refine e_iload_n zd11_11 rfl ?_
  refine e_iconst zd11_12 ?_
  refine e_bipush zd11_13 (v := Int32.ofInt 24) (by decide +kernel) ?_
  exact e_callS zd11_15 (own := 7) (nest := false) (w := 334) (by decide +kernel) (by decide +kernel) zs7 (as := [.int l2, .int (Int32.ofInt 0), .int (Int32.ofInt 24)]) (rest := []) rfl rfl (Nat.le_of_ble_eq_true rfl) rfl rfl rfl (by omega) k
theorem b11_18 {x : zXs} {F : zF} (hF : zSh F) {d : Nat} {V : Nat → Nat → Int32} {T : Nat → Nat → Int64} {Q : Option Value → zG → Prop} {o0 : Option Value} {o1 : Option Value} {o2 : Option Value} {o3 : Option Value} {s0 : Int32}   (kt : s0 = 0 → E x F d 11 34 [o0, o1, o2, o3] [] (V, T) Q) (kf : ¬ (s0 = 0) → E x F d 11 21 [o0, o1, o2, o3] [] (V, T) Q) : E x F d 11 18 [o0, o1, o2, o3] [.int s0] (V, T) Q := by
  exact e_if_eq zd11_18 (tg := 34) rfl kt kf
theorem b11_21 {x : zXs} {F : zF} (hF : zSh F) {d : Nat} {V : Nat → Nat → Int32} {T : Nat → Nat → Int64} {Q : Option Value → zG → Prop} {o0 : Option Value} {o1 : Option Value} {l2 : Int32} {l3 : Int32}   (k : E x F d 7 0 [some (.int l3), some (.int (Int32.ofInt 0)), some (.int (((Int32.ofInt 1) <<< (l2 &&& 31)) - (Int32.ofInt 1)))] [] (V, T) (fun r G' => E x F (d + 1) 11 31 [o0, o1, some (.int l2), some (.int l3)] (r.toList ++ []) G' Q)) : E x F (d + 1) 11 21 [o0, o1, some (.int l2), some (.int l3)] [] (V, T) Q := by
  refine e_iload_n zd11_21 rfl ?_
  refine e_iconst zd11_22 ?_
  refine e_iconst zd11_23 ?_
  refine e_iload_n zd11_24 rfl ?_
  refine e_ishl zd11_25 ?_
  refine e_iconst zd11_26 ?_
  refine e_isub zd11_27 ?_
  exact e_callS zd11_28 (own := 7) (nest := false) (w := 334) (by decide +kernel) (by decide +kernel) zs7 (as := [.int l3, .int (Int32.ofInt 0), .int (((Int32.ofInt 1) <<< (l2 &&& 31)) - (Int32.ofInt 1))]) (rest := []) rfl rfl (Nat.le_of_ble_eq_true rfl) rfl rfl rfl (by omega) k
theorem b11_31 {x : zXs} {F : zF} (hF : zSh F) {d : Nat} {V : Nat → Nat → Int32} {T : Nat → Nat → Int64} {Q : Option Value → zG → Prop} {o0 : Option Value} {o1 : Option Value} {o2 : Option Value} {o3 : Option Value} {s0 : Int32}   (kt : ¬ s0 = 0 → E x F d 11 37 [o0, o1, o2, o3] [] (V, T) Q) (kf : ¬ (¬ s0 = 0) → E x F d 11 34 [o0, o1, o2, o3] [] (V, T) Q) : E x F d 11 31 [o0, o1, o2, o3] [.int s0] (V, T) Q := by
  exact e_if_ne zd11_31 (tg := 37) rfl kt kf
theorem b11_34 {x : zXs} {F : zF} (hF : zSh F) {d : Nat} {V : Nat → Nat → Int32} {T : Nat → Nat → Int64} {Q : Option Value → zG → Prop} {o0 : Option Value} {o1 : Option Value} {o2 : Option Value} {o3 : Option Value}   (k : Q (some (.int (Int32.ofInt (-2)))) (V, T)) : E x F d 11 34 [o0, o1, o2, o3] [] (V, T) Q := by
  refine e_bipush zd11_34 (v := Int32.ofInt (-2)) (by decide +kernel) ?_
  exact e_ireti zd11_36 zs11 k
theorem b11_37 {x : zXs} {F : zF} (hF : zSh F) {d : Nat} {V : Nat → Nat → Int32} {T : Nat → Nat → Int64} {Q : Option Value → zG → Prop} {l1 : Int32} {l2 : Int32} {l3 : Int32}  {i1 : Nat} (e1 : l1 = nI i1) (h1 : i1 < 4) {i2 : Nat} (e2 : l1 = nI i2) (h2 : i2 < 4) (k : E x F d 13 0 [some (.ref 1), some (.int l1)] [] (zu (zu V 2 i1 l2) 3 i2 l3, T) (fun r G' => E x F (d + 1) 11 65 [some (.ref 0), some (.int l1), some (.int l2), some (.int l3)] (r.toList ++ []) G' Q)) : E x F (d + 1) 11 37 [some (.ref 0), some (.int l1), some (.int l2), some (.int l3)] [] (V, T) Q := by
  refine e_aload_n zd11_37 rfl rfl ?_
  refine e_getO zd11_38 (own := 7) (ci := 7) (kf := 0) (w := 297) (by decide +kernel) (by decide +kernel) (zsh_at hF rfl).1 (by decide +kernel) rfl (zrf_at hF (i := 0) rfl) ?_
  refine e_getA zd11_41 (own := 7) (ci := 4) (kf := 0) (w := 111) (by decide +kernel) (by decide +kernel) (zsh_at hF rfl).1 (by decide +kernel) rfl (zrf_at hF (i := 8) rfl) ?_
  refine e_iload_n zd11_44 rfl ?_
  refine e_iload_n zd11_45 rfl ?_
  refine e_iast zd11_46 (i := i1) (zsh_at hF rfl) e1 h1 (by omega) ?_
  refine e_aload_n zd11_47 rfl rfl ?_
  refine e_getO zd11_48 (own := 7) (ci := 7) (kf := 0) (w := 297) (by decide +kernel) (by decide +kernel) (zsh_at hF rfl).1 (by decide +kernel) rfl (zrf_at hF (i := 0) rfl) ?_
  refine e_getA zd11_51 (own := 7) (ci := 4) (kf := 1) (w := 114) (by decide +kernel) (by decide +kernel) (zsh_at hF rfl).1 (by decide +kernel) rfl (zrf_at hF (i := 9) rfl) ?_
  refine e_iload_n zd11_54 rfl ?_
  refine e_iload_n zd11_55 rfl ?_
  refine e_iast zd11_56 (i := i2) (zsh_at hF rfl) e2 h2 (by omega) ?_
  refine e_aload_n zd11_57 rfl rfl ?_
  refine e_getO zd11_58 (own := 7) (ci := 7) (kf := 0) (w := 297) (by decide +kernel) (by decide +kernel) (zsh_at hF rfl).1 (by decide +kernel) rfl (zrf_at hF (i := 0) rfl) ?_
  refine e_iload_n zd11_61 rfl ?_
  exact e_callV zd11_62 (own := 7) (nest := false) (w := 335) (by decide +kernel) (by decide +kernel) zs13 (as := [.int l1]) (rest := []) rfl rfl (zsh_at hF rfl).1 (by omega) (Nat.le_of_ble_eq_true rfl) rfl rfl rfl (by omega) k
theorem b11_65 {x : zXs} {F : zF} (hF : zSh F) {d : Nat} {V : Nat → Nat → Int32} {T : Nat → Nat → Int64} {Q : Option Value → zG → Prop} {o0 : Option Value} {o1 : Option Value} {o2 : Option Value} {o3 : Option Value} {s0 : Int32}   (k : Q (some (.int s0)) (V, T)) : E x F d 11 65 [o0, o1, o2, o3] [.int s0] (V, T) Q := by
  exact e_ireti zd11_65 zs11 k
theorem zd12_0 : zop 12 0 = some (.iload_n 1, 1) := by decide +kernel
theorem zd12_1 : zop 12 1 = some (.iconst 0, 1) := by decide +kernel
theorem zd12_2 : zop 12 2 = some (.iconst 3, 1) := by decide +kernel
theorem zd12_3 : zop 12 3 = some (.invokestatic 43, 3) := by decide +kernel
theorem zd12_6 : zop 12 6 = some (.ireturn, 1) := by decide +kernel
theorem b12_0 {x : zXs} {F : zF} (hF : zSh F) {d : Nat} {V : Nat → Nat → Int32} {T : Nat → Nat → Int64} {Q : Option Value → zG → Prop} {o0 : Option Value} {l1 : Int32}   (k : E x F d 7 0 [some (.int l1), some (.int (Int32.ofInt 0)), some (.int (Int32.ofInt 3))] [] (V, T) (fun r G' => E x F (d + 1) 12 6 [o0, some (.int l1)] (r.toList ++ []) G' Q)) : E x F (d + 1) 12 0 [o0, some (.int l1)] [] (V, T) Q := by
  refine e_iload_n zd12_0 rfl ?_
  refine e_iconst zd12_1 ?_
  refine e_iconst zd12_2 ?_
  exact e_callS zd12_3 (own := 4) (nest := true) (w := 333) (by decide +kernel) (by decide +kernel) zs7 (as := [.int l1, .int (Int32.ofInt 0), .int (Int32.ofInt 3)]) (rest := []) rfl rfl (Nat.le_of_ble_eq_true rfl) rfl rfl rfl (by omega) k
theorem b12_6 {x : zXs} {F : zF} (hF : zSh F) {d : Nat} {V : Nat → Nat → Int32} {T : Nat → Nat → Int64} {Q : Option Value → zG → Prop} {o0 : Option Value} {o1 : Option Value} {s0 : Int32}  (b1 : narrow .boolean (.int s0) = .int s0) (k : Q (some (.int s0)) (V, T)) : E x F d 12 6 [o0, o1] [.int s0] (V, T) Q := by
  exact e_iretz zd12_6 zs12 b1 k
theorem zd13_0 : zop 13 0 = some (.aload_n 0, 1) := by decide +kernel
theorem zd13_1 : zop 13 1 = some (.iload_n 1, 1) := by decide +kernel
theorem zd13_2 : zop 13 2 = some (.invokevirtual 47, 3) := by decide +kernel
theorem zd13_5 : zop 13 5 = some (.invokestatic 51, 3) := by decide +kernel
theorem zd13_8 : zop 13 8 = some (.ireturn, 1) := by decide +kernel
theorem b13_0 {x : zXs} {F : zF} (hF : zSh F) {d : Nat} {V : Nat → Nat → Int32} {T : Nat → Nat → Int64} {Q : Option Value → zG → Prop} {l0 : Nat} {l1 : Int32} (hl0 : zSt l0)  (k : E x F d 14 0 [some (.ref l0), some (.int l1)] [] (V, T) (fun r G' => E x F (d + 1) 13 5 [some (.ref l0), some (.int l1)] (r.toList ++ []) G' Q)) : E x F (d + 1) 13 0 [some (.ref l0), some (.int l1)] [] (V, T) Q := by
  refine e_aload_n zd13_0 rfl rfl ?_
  refine e_iload_n zd13_1 rfl ?_
  exact e_callV zd13_2 (own := 4) (nest := false) (w := 339) (by decide +kernel) (by decide +kernel) zs14 (as := [.int l1]) (rest := []) rfl rfl (zSt_s hF hl0).1 (by omega) (Nat.le_of_ble_eq_true rfl) rfl rfl rfl (by omega) k
theorem b13_5 {x : zXs} {F : zF} (hF : zSh F) {d : Nat} {V : Nat → Nat → Int32} {T : Nat → Nat → Int64} {Q : Option Value → zG → Prop} {o0 : Option Value} {o1 : Option Value} {s0 : Int32}   (k : E x F d 15 0 [some (.int s0)] [] (V, T) (fun r G' => E x F (d + 1) 13 8 [o0, o1] (r.toList ++ []) G' Q)) : E x F (d + 1) 13 5 [o0, o1] [.int s0] (V, T) Q := by
  exact e_callS zd13_5 (own := 4) (nest := false) (w := 343) (by decide +kernel) (by decide +kernel) zs15 (as := [.int s0]) (rest := []) rfl rfl (Nat.le_of_ble_eq_true rfl) rfl rfl rfl (by omega) k
theorem b13_8 {x : zXs} {F : zF} (hF : zSh F) {d : Nat} {V : Nat → Nat → Int32} {T : Nat → Nat → Int64} {Q : Option Value → zG → Prop} {o0 : Option Value} {o1 : Option Value} {s0 : Int32}   (k : Q (some (.int s0)) (V, T)) : E x F d 13 8 [o0, o1] [.int s0] (V, T) Q := by
  exact e_ireti zd13_8 zs13 k
theorem zd14_0 : zop 14 0 = some (.aload_n 0, 1) := by decide +kernel
theorem zd14_1 : zop 14 1 = some (.getfield 15, 3) := by decide +kernel
theorem zd14_4 : zop 14 4 = some (.iload_n 1, 1) := by decide +kernel
theorem zd14_5 : zop 14 5 = some (.iaload, 1) := by decide +kernel
theorem zd14_6 : zop 14 6 = some (.iconst (-1), 1) := by decide +kernel
theorem zd14_7 : zop 14 7 = some (.ixor, 1) := by decide +kernel
theorem zd14_8 : zop 14 8 = some (.iconst 1, 1) := by decide +kernel
theorem zd14_9 : zop 14 9 = some (.aload_n 0, 1) := by decide +kernel
theorem zd14_10 : zop 14 10 = some (.getfield 9, 3) := by decide +kernel
theorem zd14_13 : zop 14 13 = some (.iload_n 1, 1) := by decide +kernel
theorem zd14_14 : zop 14 14 = some (.iaload, 1) := by decide +kernel
theorem zd14_15 : zop 14 15 = some (.ishl, 1) := by decide +kernel
theorem zd14_16 : zop 14 16 = some (.iconst 1, 1) := by decide +kernel
theorem zd14_17 : zop 14 17 = some (.isub, 1) := by decide +kernel
theorem zd14_18 : zop 14 18 = some (.iand, 1) := by decide +kernel
theorem zd14_19 : zop 14 19 = some (.ireturn, 1) := by decide +kernel
theorem b14_0 {x : zXs} {F : zF} (hF : zSh F) {d : Nat} {V : Nat → Nat → Int32} {T : Nat → Nat → Int64} {Q : Option Value → zG → Prop} {l0 : Nat} {l1 : Int32} (hl0 : zSt l0) {i1 : Nat} (e1 : l1 = nI i1) (h1 : i1 < 4) {i2 : Nat} (e2 : l1 = nI i2) (h2 : i2 < 4) (k : Q (some (.int (((V (l0 + 2) i1) ^^^ (Int32.ofInt (-1))) &&& (((Int32.ofInt 1) <<< ((V (l0 + 1) i2) &&& 31)) - (Int32.ofInt 1))))) (V, T)) : E x F d 14 0 [some (.ref l0), some (.int l1)] [] (V, T) Q := by
  refine e_aload_n zd14_0 rfl rfl ?_
  refine e_getA zd14_1 (own := 4) (ci := 4) (kf := 1) (w := 113) (by decide +kernel) (by decide +kernel) (zSt_s hF hl0).1 (by decide +kernel) rfl (zSt_f1 hF hl0) ?_
  refine e_iload_n zd14_4 rfl ?_
  refine e_iald zd14_5 (i := i1) (zSt_a1 hF hl0) e1 h1 (by omega) ?_
  refine e_iconst zd14_6 ?_
  refine e_ixor zd14_7 ?_
  refine e_iconst zd14_8 ?_
  refine e_aload_n zd14_9 rfl rfl ?_
  refine e_getA zd14_10 (own := 4) (ci := 4) (kf := 0) (w := 110) (by decide +kernel) (by decide +kernel) (zSt_s hF hl0).1 (by decide +kernel) rfl (zSt_f0 hF hl0) ?_
  refine e_iload_n zd14_13 rfl ?_
  refine e_iald zd14_14 (i := i2) (zSt_a0 hF hl0) e2 h2 (by omega) ?_
  refine e_ishl zd14_15 ?_
  refine e_iconst zd14_16 ?_
  refine e_isub zd14_17 ?_
  refine e_iand zd14_18 ?_
  exact e_ireti zd14_19 zs14 k
theorem zd15_0 : zop 15 0 = some (.iload_n 0, 1) := by decide +kernel
theorem zd15_1 : zop 15 1 = some (.iload_n 0, 1) := by decide +kernel
theorem zd15_2 : zop 15 2 = some (.iconst 1, 1) := by decide +kernel
theorem zd15_3 : zop 15 3 = some (.iushr, 1) := by decide +kernel
theorem zd15_4 : zop 15 4 = some (.ldc_w 265, 3) := by decide +kernel
theorem zd15_7 : zop 15 7 = some (.iand, 1) := by decide +kernel
theorem zd15_8 : zop 15 8 = some (.isub, 1) := by decide +kernel
theorem zd15_9 : zop 15 9 = some (.istore_n 0, 1) := by decide +kernel
theorem zd15_10 : zop 15 10 = some (.iload_n 0, 1) := by decide +kernel
theorem zd15_11 : zop 15 11 = some (.ldc_w 266, 3) := by decide +kernel
theorem zd15_14 : zop 15 14 = some (.iand, 1) := by decide +kernel
theorem zd15_15 : zop 15 15 = some (.iload_n 0, 1) := by decide +kernel
theorem zd15_16 : zop 15 16 = some (.iconst 2, 1) := by decide +kernel
theorem zd15_17 : zop 15 17 = some (.iushr, 1) := by decide +kernel
theorem zd15_18 : zop 15 18 = some (.ldc_w 266, 3) := by decide +kernel
theorem zd15_21 : zop 15 21 = some (.iand, 1) := by decide +kernel
theorem zd15_22 : zop 15 22 = some (.iadd, 1) := by decide +kernel
theorem zd15_23 : zop 15 23 = some (.istore_n 0, 1) := by decide +kernel
theorem zd15_24 : zop 15 24 = some (.iload_n 0, 1) := by decide +kernel
theorem zd15_25 : zop 15 25 = some (.iload_n 0, 1) := by decide +kernel
theorem zd15_26 : zop 15 26 = some (.iconst 4, 1) := by decide +kernel
theorem zd15_27 : zop 15 27 = some (.iushr, 1) := by decide +kernel
theorem zd15_28 : zop 15 28 = some (.iadd, 1) := by decide +kernel
theorem zd15_29 : zop 15 29 = some (.ldc_w 267, 3) := by decide +kernel
theorem zd15_32 : zop 15 32 = some (.iand, 1) := by decide +kernel
theorem zd15_33 : zop 15 33 = some (.istore_n 0, 1) := by decide +kernel
theorem zd15_34 : zop 15 34 = some (.iload_n 0, 1) := by decide +kernel
theorem zd15_35 : zop 15 35 = some (.iload_n 0, 1) := by decide +kernel
theorem zd15_36 : zop 15 36 = some (.bipush 8, 2) := by decide +kernel
theorem zd15_38 : zop 15 38 = some (.iushr, 1) := by decide +kernel
theorem zd15_39 : zop 15 39 = some (.iadd, 1) := by decide +kernel
theorem zd15_40 : zop 15 40 = some (.istore_n 0, 1) := by decide +kernel
theorem zd15_41 : zop 15 41 = some (.iload_n 0, 1) := by decide +kernel
theorem zd15_42 : zop 15 42 = some (.iload_n 0, 1) := by decide +kernel
theorem zd15_43 : zop 15 43 = some (.bipush 16, 2) := by decide +kernel
theorem zd15_45 : zop 15 45 = some (.iushr, 1) := by decide +kernel
theorem zd15_46 : zop 15 46 = some (.iadd, 1) := by decide +kernel
theorem zd15_47 : zop 15 47 = some (.istore_n 0, 1) := by decide +kernel
theorem zd15_48 : zop 15 48 = some (.iload_n 0, 1) := by decide +kernel
theorem zd15_49 : zop 15 49 = some (.bipush 63, 2) := by decide +kernel
theorem zd15_51 : zop 15 51 = some (.iand, 1) := by decide +kernel
theorem zd15_52 : zop 15 52 = some (.ireturn, 1) := by decide +kernel
theorem b15_0 {x : zXs} {F : zF} (hF : zSh F) {d : Nat} {V : Nat → Nat → Int32} {T : Nat → Nat → Int64} {Q : Option Value → zG → Prop} {l0 : Int32}   (k : Q (some (.int ((((((((l0 - (((l0.toUInt32 >>> ((Int32.ofInt 1).toUInt32 &&& Int32.toUInt32 31)).toInt32) &&& (1431655765 : Int32))) &&& (858993459 : Int32)) + ((((l0 - (((l0.toUInt32 >>> ((Int32.ofInt 1).toUInt32 &&& Int32.toUInt32 31)).toInt32) &&& (1431655765 : Int32))).toUInt32 >>> ((Int32.ofInt 2).toUInt32 &&& Int32.toUInt32 31)).toInt32) &&& (858993459 : Int32))) + (((((l0 - (((l0.toUInt32 >>> ((Int32.ofInt 1).toUInt32 &&& Int32.toUInt32 31)).toInt32) &&& (1431655765 : Int32))) &&& (858993459 : Int32)) + ((((l0 - (((l0.toUInt32 >>> ((Int32.ofInt 1).toUInt32 &&& Int32.toUInt32 31)).toInt32) &&& (1431655765 : Int32))).toUInt32 >>> ((Int32.ofInt 2).toUInt32 &&& Int32.toUInt32 31)).toInt32) &&& (858993459 : Int32))).toUInt32 >>> ((Int32.ofInt 4).toUInt32 &&& Int32.toUInt32 31)).toInt32)) &&& (252645135 : Int32)) + (((((((l0 - (((l0.toUInt32 >>> ((Int32.ofInt 1).toUInt32 &&& Int32.toUInt32 31)).toInt32) &&& (1431655765 : Int32))) &&& (858993459 : Int32)) + ((((l0 - (((l0.toUInt32 >>> ((Int32.ofInt 1).toUInt32 &&& Int32.toUInt32 31)).toInt32) &&& (1431655765 : Int32))).toUInt32 >>> ((Int32.ofInt 2).toUInt32 &&& Int32.toUInt32 31)).toInt32) &&& (858993459 : Int32))) + (((((l0 - (((l0.toUInt32 >>> ((Int32.ofInt 1).toUInt32 &&& Int32.toUInt32 31)).toInt32) &&& (1431655765 : Int32))) &&& (858993459 : Int32)) + ((((l0 - (((l0.toUInt32 >>> ((Int32.ofInt 1).toUInt32 &&& Int32.toUInt32 31)).toInt32) &&& (1431655765 : Int32))).toUInt32 >>> ((Int32.ofInt 2).toUInt32 &&& Int32.toUInt32 31)).toInt32) &&& (858993459 : Int32))).toUInt32 >>> ((Int32.ofInt 4).toUInt32 &&& Int32.toUInt32 31)).toInt32)) &&& (252645135 : Int32)).toUInt32 >>> ((Int32.ofInt 8).toUInt32 &&& Int32.toUInt32 31)).toInt32)) + ((((((((l0 - (((l0.toUInt32 >>> ((Int32.ofInt 1).toUInt32 &&& Int32.toUInt32 31)).toInt32) &&& (1431655765 : Int32))) &&& (858993459 : Int32)) + ((((l0 - (((l0.toUInt32 >>> ((Int32.ofInt 1).toUInt32 &&& Int32.toUInt32 31)).toInt32) &&& (1431655765 : Int32))).toUInt32 >>> ((Int32.ofInt 2).toUInt32 &&& Int32.toUInt32 31)).toInt32) &&& (858993459 : Int32))) + (((((l0 - (((l0.toUInt32 >>> ((Int32.ofInt 1).toUInt32 &&& Int32.toUInt32 31)).toInt32) &&& (1431655765 : Int32))) &&& (858993459 : Int32)) + ((((l0 - (((l0.toUInt32 >>> ((Int32.ofInt 1).toUInt32 &&& Int32.toUInt32 31)).toInt32) &&& (1431655765 : Int32))).toUInt32 >>> ((Int32.ofInt 2).toUInt32 &&& Int32.toUInt32 31)).toInt32) &&& (858993459 : Int32))).toUInt32 >>> ((Int32.ofInt 4).toUInt32 &&& Int32.toUInt32 31)).toInt32)) &&& (252645135 : Int32)) + (((((((l0 - (((l0.toUInt32 >>> ((Int32.ofInt 1).toUInt32 &&& Int32.toUInt32 31)).toInt32) &&& (1431655765 : Int32))) &&& (858993459 : Int32)) + ((((l0 - (((l0.toUInt32 >>> ((Int32.ofInt 1).toUInt32 &&& Int32.toUInt32 31)).toInt32) &&& (1431655765 : Int32))).toUInt32 >>> ((Int32.ofInt 2).toUInt32 &&& Int32.toUInt32 31)).toInt32) &&& (858993459 : Int32))) + (((((l0 - (((l0.toUInt32 >>> ((Int32.ofInt 1).toUInt32 &&& Int32.toUInt32 31)).toInt32) &&& (1431655765 : Int32))) &&& (858993459 : Int32)) + ((((l0 - (((l0.toUInt32 >>> ((Int32.ofInt 1).toUInt32 &&& Int32.toUInt32 31)).toInt32) &&& (1431655765 : Int32))).toUInt32 >>> ((Int32.ofInt 2).toUInt32 &&& Int32.toUInt32 31)).toInt32) &&& (858993459 : Int32))).toUInt32 >>> ((Int32.ofInt 4).toUInt32 &&& Int32.toUInt32 31)).toInt32)) &&& (252645135 : Int32)).toUInt32 >>> ((Int32.ofInt 8).toUInt32 &&& Int32.toUInt32 31)).toInt32)).toUInt32 >>> ((Int32.ofInt 16).toUInt32 &&& Int32.toUInt32 31)).toInt32)) &&& (Int32.ofInt 63)))) (V, T)) : E x F d 15 0 [some (.int l0)] [] (V, T) Q := by
  refine e_iload_n zd15_0 rfl ?_
  refine e_iload_n zd15_1 rfl ?_
  refine e_iconst zd15_2 ?_
  refine e_iushr zd15_3 ?_
  refine e_ldcw zd15_4 (own := 9) (w := 346) (v := 1431655765) (by decide +kernel) (by decide +kernel) ?_
  refine e_iand zd15_7 ?_
  refine e_isub zd15_8 ?_
  refine e_istore_n zd15_9 (by decide +kernel) (Nat.le_of_ble_eq_true rfl) ?_
  refine e_iload_n zd15_10 rfl ?_
  refine e_ldcw zd15_11 (own := 9) (w := 347) (v := 858993459) (by decide +kernel) (by decide +kernel) ?_
  refine e_iand zd15_14 ?_
  refine e_iload_n zd15_15 rfl ?_
  refine e_iconst zd15_16 ?_
  refine e_iushr zd15_17 ?_
  refine e_ldcw zd15_18 (own := 9) (w := 347) (v := 858993459) (by decide +kernel) (by decide +kernel) ?_
  refine e_iand zd15_21 ?_
  refine e_iadd zd15_22 ?_
  refine e_istore_n zd15_23 (by decide +kernel) (Nat.le_of_ble_eq_true rfl) ?_
  refine e_iload_n zd15_24 rfl ?_
  refine e_iload_n zd15_25 rfl ?_
  refine e_iconst zd15_26 ?_
  refine e_iushr zd15_27 ?_
  refine e_iadd zd15_28 ?_
  refine e_ldcw zd15_29 (own := 9) (w := 348) (v := 252645135) (by decide +kernel) (by decide +kernel) ?_
  refine e_iand zd15_32 ?_
  refine e_istore_n zd15_33 (by decide +kernel) (Nat.le_of_ble_eq_true rfl) ?_
  refine e_iload_n zd15_34 rfl ?_
  refine e_iload_n zd15_35 rfl ?_
  refine e_bipush zd15_36 (v := Int32.ofInt 8) (by decide +kernel) ?_
  refine e_iushr zd15_38 ?_
  refine e_iadd zd15_39 ?_
  refine e_istore_n zd15_40 (by decide +kernel) (Nat.le_of_ble_eq_true rfl) ?_
  refine e_iload_n zd15_41 rfl ?_
  refine e_iload_n zd15_42 rfl ?_
  refine e_bipush zd15_43 (v := Int32.ofInt 16) (by decide +kernel) ?_
  refine e_iushr zd15_45 ?_
  refine e_iadd zd15_46 ?_
  refine e_istore_n zd15_47 (by decide +kernel) (Nat.le_of_ble_eq_true rfl) ?_
  refine e_iload_n zd15_48 rfl ?_
  refine e_bipush zd15_49 (v := Int32.ofInt 63) (by decide +kernel) ?_
  refine e_iand zd15_51 ?_
  exact e_ireti zd15_52 zs15 k
theorem zd16_0 : zop 16 0 = some (.iload_n 1, 1) := by decide +kernel
theorem zd16_1 : zop 16 1 = some (.tableswitch 108 0 2 #[27, 49, 78], 27) := by decide +kernel
theorem zd16_28 : zop 16 28 = some (.iload_n 3, 1) := by decide +kernel
theorem zd16_29 : zop 16 29 = some (.iconst 0, 1) := by decide +kernel
theorem zd16_30 : zop 16 30 = some (.sipush 999, 3) := by decide +kernel
theorem zd16_33 : zop 16 33 = some (.invokestatic 59, 3) := by decide +kernel
theorem zd16_36 : zop 16 36 = some (.ifCond .eq 11, 3) := by decide +kernel
theorem zd16_39 : zop 16 39 = some (.aload_n 0, 1) := by decide +kernel
theorem zd16_40 : zop 16 40 = some (.iload_n 3, 1) := by decide +kernel
theorem zd16_41 : zop 16 41 = some (.invokevirtual 74, 3) := by decide +kernel
theorem zd16_44 : zop 16 44 = some (.goto 5, 3) := by decide +kernel
theorem zd16_47 : zop 16 47 = some (.bipush (-2), 2) := by decide +kernel
theorem zd16_49 : zop 16 49 = some (.ireturn, 1) := by decide +kernel
theorem zd16_50 : zop 16 50 = some (.iload_n 3, 1) := by decide +kernel
theorem zd16_51 : zop 16 51 = some (.iconst 0, 1) := by decide +kernel
theorem zd16_52 : zop 16 52 = some (.bipush 9, 2) := by decide +kernel
theorem zd16_54 : zop 16 54 = some (.invokestatic 59, 3) := by decide +kernel
theorem zd16_57 : zop 16 57 = some (.ifCond .eq 19, 3) := by decide +kernel
theorem zd16_60 : zop 16 60 = some (.aload_n 0, 1) := by decide +kernel
theorem zd16_61 : zop 16 61 = some (.aload_n 0, 1) := by decide +kernel
theorem zd16_62 : zop 16 62 = some (.getfield 10, 3) := by decide +kernel
theorem zd16_65 : zop 16 65 = some (.getfield 77, 3) := by decide +kernel
theorem zd16_68 : zop 16 68 = some (.iload_n 2, 1) := by decide +kernel
theorem zd16_69 : zop 16 69 = some (.iload_n 3, 1) := by decide +kernel
theorem zd16_70 : zop 16 70 = some (.invokevirtual 80, 3) := by decide +kernel
theorem zd16_73 : zop 16 73 = some (.goto 5, 3) := by decide +kernel
theorem zd16_76 : zop 16 76 = some (.bipush (-2), 2) := by decide +kernel
theorem zd16_78 : zop 16 78 = some (.ireturn, 1) := by decide +kernel
theorem zd16_79 : zop 16 79 = some (.iload_n 3, 1) := by decide +kernel
theorem zd16_80 : zop 16 80 = some (.iconst 0, 1) := by decide +kernel
theorem zd16_81 : zop 16 81 = some (.sipush 999, 3) := by decide +kernel
theorem zd16_84 : zop 16 84 = some (.invokestatic 59, 3) := by decide +kernel
theorem zd16_87 : zop 16 87 = some (.ifCond .eq 19, 3) := by decide +kernel
theorem zd16_90 : zop 16 90 = some (.aload_n 0, 1) := by decide +kernel
theorem zd16_91 : zop 16 91 = some (.aload_n 0, 1) := by decide +kernel
theorem zd16_92 : zop 16 92 = some (.getfield 10, 3) := by decide +kernel
theorem zd16_95 : zop 16 95 = some (.getfield 84, 3) := by decide +kernel
theorem zd16_98 : zop 16 98 = some (.iload_n 2, 1) := by decide +kernel
theorem zd16_99 : zop 16 99 = some (.iload_n 3, 1) := by decide +kernel
theorem zd16_100 : zop 16 100 = some (.invokevirtual 80, 3) := by decide +kernel
theorem zd16_103 : zop 16 103 = some (.goto 5, 3) := by decide +kernel
theorem zd16_106 : zop 16 106 = some (.bipush (-2), 2) := by decide +kernel
theorem zd16_108 : zop 16 108 = some (.ireturn, 1) := by decide +kernel
theorem zd16_109 : zop 16 109 = some (.bipush (-2), 2) := by decide +kernel
theorem zd16_111 : zop 16 111 = some (.ireturn, 1) := by decide +kernel
theorem b16_0 {x : zXs} {F : zF} (hF : zSh F) {d : Nat} {V : Nat → Nat → Int32} {T : Nat → Nat → Int64} {Q : Option Value → zG → Prop} {o0 : Option Value} {l1 : Int32} {o2 : Option Value} {o3 : Option Value}   (k0 : l1 = Int32.ofInt 0 → E x F d 16 28 [o0, some (.int l1), o2, o3] [] (V, T) Q) (k1 : l1 = Int32.ofInt 1 → E x F d 16 50 [o0, some (.int l1), o2, o3] [] (V, T) Q) (k2 : l1 = Int32.ofInt 2 → E x F d 16 79 [o0, some (.int l1), o2, o3] [] (V, T) Q) (kd : ¬ l1 = Int32.ofInt 0 ∧ ¬ l1 = Int32.ofInt 1 ∧ ¬ l1 = Int32.ofInt 2 → E x F d 16 109 [o0, some (.int l1), o2, o3] [] (V, T) Q) : E x F d 16 0 [o0, some (.int l1), o2, o3] [] (V, T) Q := by
  refine e_iload_n zd16_0 rfl ?_
  by_cases c0 : l1 = Int32.ofInt 0
  · exact e_tableIn zd16_1 (off := 27) (by rw [c0]; decide +kernel) (by rw [c0]; decide +kernel) (tg := 28) rfl (k0 c0)
  by_cases c1 : l1 = Int32.ofInt 1
  · exact e_tableIn zd16_1 (off := 49) (by rw [c1]; decide +kernel) (by rw [c1]; decide +kernel) (tg := 50) rfl (k1 c1)
  by_cases c2 : l1 = Int32.ofInt 2
  · exact e_tableIn zd16_1 (off := 78) (by rw [c2]; decide +kernel) (by rw [c2]; decide +kernel) (tg := 79) rfl (k2 c2)
  exact e_tableOut zd16_1 (zsw_out (lo := 0) (hi := 2) (by decide) (by decide) (fun v h1 h2 h => by
    rcases (show v = 0 ∨ v = 1 ∨ v = 2 by omega) with rfl | rfl | rfl
    · exact c0 h
    · exact c1 h
    · exact c2 h)) (tg := 109) rfl (kd ⟨c0, c1, c2⟩)
theorem b16_28 {x : zXs} {F : zF} (hF : zSh F) {d : Nat} {V : Nat → Nat → Int32} {T : Nat → Nat → Int64} {Q : Option Value → zG → Prop} {o0 : Option Value} {o1 : Option Value} {o2 : Option Value} {l3 : Int32}   (k : E x F d 7 0 [some (.int l3), some (.int (Int32.ofInt 0)), some (.int (Int32.ofInt 999))] [] (V, T) (fun r G' => E x F (d + 1) 16 36 [o0, o1, o2, some (.int l3)] (r.toList ++ []) G' Q)) : E x F (d + 1) 16 28 [o0, o1, o2, some (.int l3)] [] (V, T) Q := by
  refine e_iload_n zd16_28 rfl ?_
  refine e_iconst zd16_29 ?_
  refine e_sipush zd16_30 (v := Int32.ofInt 999) (by decide +kernel) ?_
  exact e_callS zd16_33 (own := 7) (nest := false) (w := 334) (by decide +kernel) (by decide +kernel) zs7 (as := [.int l3, .int (Int32.ofInt 0), .int (Int32.ofInt 999)]) (rest := []) rfl rfl (Nat.le_of_ble_eq_true rfl) rfl rfl rfl (by omega) k
theorem b16_36 {x : zXs} {F : zF} (hF : zSh F) {d : Nat} {V : Nat → Nat → Int32} {T : Nat → Nat → Int64} {Q : Option Value → zG → Prop} {o0 : Option Value} {o1 : Option Value} {o2 : Option Value} {o3 : Option Value} {s0 : Int32}   (kt : s0 = 0 → E x F d 16 47 [o0, o1, o2, o3] [] (V, T) Q) (kf : ¬ (s0 = 0) → E x F d 16 39 [o0, o1, o2, o3] [] (V, T) Q) : E x F d 16 36 [o0, o1, o2, o3] [.int s0] (V, T) Q := by
  exact e_if_eq zd16_36 (tg := 47) rfl kt kf
theorem b16_39 {x : zXs} {F : zF} (hF : zSh F) {d : Nat} {V : Nat → Nat → Int32} {T : Nat → Nat → Int64} {Q : Option Value → zG → Prop} {o1 : Option Value} {o2 : Option Value} {l3 : Int32}   (k : E x F d 17 0 [some (.ref 0), some (.int l3), none] [] (V, T) (fun r G' => E x F (d + 1) 16 44 [some (.ref 0), o1, o2, some (.int l3)] (r.toList ++ []) G' Q)) : E x F (d + 1) 16 39 [some (.ref 0), o1, o2, some (.int l3)] [] (V, T) Q := by
  refine e_aload_n zd16_39 rfl rfl ?_
  refine e_iload_n zd16_40 rfl ?_
  exact e_callV zd16_41 (own := 7) (nest := false) (w := 353) (by decide +kernel) (by decide +kernel) zs17 (as := [.int l3]) (rest := []) rfl rfl (zsh_at hF rfl).1 (by omega) (Nat.le_of_ble_eq_true rfl) rfl rfl rfl (by omega) k
theorem b16_44 {x : zXs} {F : zF} (hF : zSh F) {d : Nat} {V : Nat → Nat → Int32} {T : Nat → Nat → Int64} {Q : Option Value → zG → Prop} {o0 : Option Value} {o1 : Option Value} {o2 : Option Value} {o3 : Option Value} {s0 : Int32}   (k : E x F d 16 49 [o0, o1, o2, o3] [.int s0] (V, T) Q) : E x F d 16 44 [o0, o1, o2, o3] [.int s0] (V, T) Q := by
  exact e_goto zd16_44 (tg := 49) rfl k
theorem b16_47 {x : zXs} {F : zF} (hF : zSh F) {d : Nat} {V : Nat → Nat → Int32} {T : Nat → Nat → Int64} {Q : Option Value → zG → Prop} {o0 : Option Value} {o1 : Option Value} {o2 : Option Value} {o3 : Option Value}   (k : E x F d 16 49 [o0, o1, o2, o3] [.int (Int32.ofInt (-2))] (V, T) Q) : E x F d 16 47 [o0, o1, o2, o3] [] (V, T) Q := by
  refine e_bipush zd16_47 (v := Int32.ofInt (-2)) (by decide +kernel) ?_
  exact k
theorem b16_49 {x : zXs} {F : zF} (hF : zSh F) {d : Nat} {V : Nat → Nat → Int32} {T : Nat → Nat → Int64} {Q : Option Value → zG → Prop} {o0 : Option Value} {o1 : Option Value} {o2 : Option Value} {o3 : Option Value} {s0 : Int32}   (k : Q (some (.int s0)) (V, T)) : E x F d 16 49 [o0, o1, o2, o3] [.int s0] (V, T) Q := by
  exact e_ireti zd16_49 zs16 k
theorem b16_50 {x : zXs} {F : zF} (hF : zSh F) {d : Nat} {V : Nat → Nat → Int32} {T : Nat → Nat → Int64} {Q : Option Value → zG → Prop} {o0 : Option Value} {o1 : Option Value} {o2 : Option Value} {l3 : Int32}   (k : E x F d 7 0 [some (.int l3), some (.int (Int32.ofInt 0)), some (.int (Int32.ofInt 9))] [] (V, T) (fun r G' => E x F (d + 1) 16 57 [o0, o1, o2, some (.int l3)] (r.toList ++ []) G' Q)) : E x F (d + 1) 16 50 [o0, o1, o2, some (.int l3)] [] (V, T) Q := by
  refine e_iload_n zd16_50 rfl ?_
  refine e_iconst zd16_51 ?_
  refine e_bipush zd16_52 (v := Int32.ofInt 9) (by decide +kernel) ?_
  exact e_callS zd16_54 (own := 7) (nest := false) (w := 334) (by decide +kernel) (by decide +kernel) zs7 (as := [.int l3, .int (Int32.ofInt 0), .int (Int32.ofInt 9)]) (rest := []) rfl rfl (Nat.le_of_ble_eq_true rfl) rfl rfl rfl (by omega) k
theorem b16_57 {x : zXs} {F : zF} (hF : zSh F) {d : Nat} {V : Nat → Nat → Int32} {T : Nat → Nat → Int64} {Q : Option Value → zG → Prop} {o0 : Option Value} {o1 : Option Value} {o2 : Option Value} {o3 : Option Value} {s0 : Int32}   (kt : s0 = 0 → E x F d 16 76 [o0, o1, o2, o3] [] (V, T) Q) (kf : ¬ (s0 = 0) → E x F d 16 60 [o0, o1, o2, o3] [] (V, T) Q) : E x F d 16 57 [o0, o1, o2, o3] [.int s0] (V, T) Q := by
  exact e_if_eq zd16_57 (tg := 76) rfl kt kf
theorem b16_60 {x : zXs} {F : zF} (hF : zSh F) {d : Nat} {V : Nat → Nat → Int32} {T : Nat → Nat → Int64} {Q : Option Value → zG → Prop} {o1 : Option Value} {l2 : Int32} {l3 : Int32}   (k : E x F d 18 0 [some (.ref 0), some (.ref 5), some (.int l2), some (.int l3), none] [] (V, T) (fun r G' => E x F (d + 1) 16 73 [some (.ref 0), o1, some (.int l2), some (.int l3)] (r.toList ++ []) G' Q)) : E x F (d + 1) 16 60 [some (.ref 0), o1, some (.int l2), some (.int l3)] [] (V, T) Q := by
  refine e_aload_n zd16_60 rfl rfl ?_
  refine e_aload_n zd16_61 rfl rfl ?_
  refine e_getO zd16_62 (own := 7) (ci := 7) (kf := 0) (w := 297) (by decide +kernel) (by decide +kernel) (zsh_at hF rfl).1 (by decide +kernel) rfl (zrf_at hF (i := 0) rfl) ?_
  refine e_getA zd16_65 (own := 7) (ci := 4) (kf := 3) (w := 121) (by decide +kernel) (by decide +kernel) (zsh_at hF rfl).1 (by decide +kernel) rfl (zrf_at hF (i := 11) rfl) ?_
  refine e_iload_n zd16_68 rfl ?_
  refine e_iload_n zd16_69 rfl ?_
  exact e_callV zd16_70 (own := 7) (nest := false) (w := 357) (by decide +kernel) (by decide +kernel) zs18 (as := [.ref 5, .int l2, .int l3]) (rest := []) rfl rfl (zsh_at hF rfl).1 (by omega) (Nat.le_of_ble_eq_true rfl) rfl rfl rfl (by omega) k
theorem b16_73 {x : zXs} {F : zF} (hF : zSh F) {d : Nat} {V : Nat → Nat → Int32} {T : Nat → Nat → Int64} {Q : Option Value → zG → Prop} {o0 : Option Value} {o1 : Option Value} {o2 : Option Value} {o3 : Option Value} {s0 : Int32}   (k : E x F d 16 78 [o0, o1, o2, o3] [.int s0] (V, T) Q) : E x F d 16 73 [o0, o1, o2, o3] [.int s0] (V, T) Q := by
  exact e_goto zd16_73 (tg := 78) rfl k
theorem b16_76 {x : zXs} {F : zF} (hF : zSh F) {d : Nat} {V : Nat → Nat → Int32} {T : Nat → Nat → Int64} {Q : Option Value → zG → Prop} {o0 : Option Value} {o1 : Option Value} {o2 : Option Value} {o3 : Option Value}   (k : E x F d 16 78 [o0, o1, o2, o3] [.int (Int32.ofInt (-2))] (V, T) Q) : E x F d 16 76 [o0, o1, o2, o3] [] (V, T) Q := by
  refine e_bipush zd16_76 (v := Int32.ofInt (-2)) (by decide +kernel) ?_
  exact k
theorem b16_78 {x : zXs} {F : zF} (hF : zSh F) {d : Nat} {V : Nat → Nat → Int32} {T : Nat → Nat → Int64} {Q : Option Value → zG → Prop} {o0 : Option Value} {o1 : Option Value} {o2 : Option Value} {o3 : Option Value} {s0 : Int32}   (k : Q (some (.int s0)) (V, T)) : E x F d 16 78 [o0, o1, o2, o3] [.int s0] (V, T) Q := by
  exact e_ireti zd16_78 zs16 k
theorem b16_79 {x : zXs} {F : zF} (hF : zSh F) {d : Nat} {V : Nat → Nat → Int32} {T : Nat → Nat → Int64} {Q : Option Value → zG → Prop} {o0 : Option Value} {o1 : Option Value} {o2 : Option Value} {l3 : Int32}   (k : E x F d 7 0 [some (.int l3), some (.int (Int32.ofInt 0)), some (.int (Int32.ofInt 999))] [] (V, T) (fun r G' => E x F (d + 1) 16 87 [o0, o1, o2, some (.int l3)] (r.toList ++ []) G' Q)) : E x F (d + 1) 16 79 [o0, o1, o2, some (.int l3)] [] (V, T) Q := by
  refine e_iload_n zd16_79 rfl ?_
  refine e_iconst zd16_80 ?_
  refine e_sipush zd16_81 (v := Int32.ofInt 999) (by decide +kernel) ?_
  exact e_callS zd16_84 (own := 7) (nest := false) (w := 334) (by decide +kernel) (by decide +kernel) zs7 (as := [.int l3, .int (Int32.ofInt 0), .int (Int32.ofInt 999)]) (rest := []) rfl rfl (Nat.le_of_ble_eq_true rfl) rfl rfl rfl (by omega) k
theorem b16_87 {x : zXs} {F : zF} (hF : zSh F) {d : Nat} {V : Nat → Nat → Int32} {T : Nat → Nat → Int64} {Q : Option Value → zG → Prop} {o0 : Option Value} {o1 : Option Value} {o2 : Option Value} {o3 : Option Value} {s0 : Int32}   (kt : s0 = 0 → E x F d 16 106 [o0, o1, o2, o3] [] (V, T) Q) (kf : ¬ (s0 = 0) → E x F d 16 90 [o0, o1, o2, o3] [] (V, T) Q) : E x F d 16 87 [o0, o1, o2, o3] [.int s0] (V, T) Q := by
  exact e_if_eq zd16_87 (tg := 106) rfl kt kf
theorem b16_90 {x : zXs} {F : zF} (hF : zSh F) {d : Nat} {V : Nat → Nat → Int32} {T : Nat → Nat → Int64} {Q : Option Value → zG → Prop} {o1 : Option Value} {l2 : Int32} {l3 : Int32}   (k : E x F d 18 0 [some (.ref 0), some (.ref 6), some (.int l2), some (.int l3), none] [] (V, T) (fun r G' => E x F (d + 1) 16 103 [some (.ref 0), o1, some (.int l2), some (.int l3)] (r.toList ++ []) G' Q)) : E x F (d + 1) 16 90 [some (.ref 0), o1, some (.int l2), some (.int l3)] [] (V, T) Q := by
  refine e_aload_n zd16_90 rfl rfl ?_
  refine e_aload_n zd16_91 rfl rfl ?_
  refine e_getO zd16_92 (own := 7) (ci := 7) (kf := 0) (w := 297) (by decide +kernel) (by decide +kernel) (zsh_at hF rfl).1 (by decide +kernel) rfl (zrf_at hF (i := 0) rfl) ?_
  refine e_getA zd16_95 (own := 7) (ci := 4) (kf := 4) (w := 125) (by decide +kernel) (by decide +kernel) (zsh_at hF rfl).1 (by decide +kernel) rfl (zrf_at hF (i := 12) rfl) ?_
  refine e_iload_n zd16_98 rfl ?_
  refine e_iload_n zd16_99 rfl ?_
  exact e_callV zd16_100 (own := 7) (nest := false) (w := 357) (by decide +kernel) (by decide +kernel) zs18 (as := [.ref 6, .int l2, .int l3]) (rest := []) rfl rfl (zsh_at hF rfl).1 (by omega) (Nat.le_of_ble_eq_true rfl) rfl rfl rfl (by omega) k
theorem b16_103 {x : zXs} {F : zF} (hF : zSh F) {d : Nat} {V : Nat → Nat → Int32} {T : Nat → Nat → Int64} {Q : Option Value → zG → Prop} {o0 : Option Value} {o1 : Option Value} {o2 : Option Value} {o3 : Option Value} {s0 : Int32}   (k : E x F d 16 108 [o0, o1, o2, o3] [.int s0] (V, T) Q) : E x F d 16 103 [o0, o1, o2, o3] [.int s0] (V, T) Q := by
  exact e_goto zd16_103 (tg := 108) rfl k
theorem b16_106 {x : zXs} {F : zF} (hF : zSh F) {d : Nat} {V : Nat → Nat → Int32} {T : Nat → Nat → Int64} {Q : Option Value → zG → Prop} {o0 : Option Value} {o1 : Option Value} {o2 : Option Value} {o3 : Option Value}   (k : E x F d 16 108 [o0, o1, o2, o3] [.int (Int32.ofInt (-2))] (V, T) Q) : E x F d 16 106 [o0, o1, o2, o3] [] (V, T) Q := by
  refine e_bipush zd16_106 (v := Int32.ofInt (-2)) (by decide +kernel) ?_
  exact k
theorem b16_108 {x : zXs} {F : zF} (hF : zSh F) {d : Nat} {V : Nat → Nat → Int32} {T : Nat → Nat → Int64} {Q : Option Value → zG → Prop} {o0 : Option Value} {o1 : Option Value} {o2 : Option Value} {o3 : Option Value} {s0 : Int32}   (k : Q (some (.int s0)) (V, T)) : E x F d 16 108 [o0, o1, o2, o3] [.int s0] (V, T) Q := by
  exact e_ireti zd16_108 zs16 k
theorem b16_109 {x : zXs} {F : zF} (hF : zSh F) {d : Nat} {V : Nat → Nat → Int32} {T : Nat → Nat → Int64} {Q : Option Value → zG → Prop} {o0 : Option Value} {o1 : Option Value} {o2 : Option Value} {o3 : Option Value}   (k : Q (some (.int (Int32.ofInt (-2)))) (V, T)) : E x F d 16 109 [o0, o1, o2, o3] [] (V, T) Q := by
  refine e_bipush zd16_109 (v := Int32.ofInt (-2)) (by decide +kernel) ?_
  exact e_ireti zd16_111 zs16 k
theorem zd17_0 : zop 17 0 = some (.aload_n 0, 1) := by decide +kernel
theorem zd17_1 : zop 17 1 = some (.getfield 10, 3) := by decide +kernel
theorem zd17_4 : zop 17 4 = some (.getfield 87, 3) := by decide +kernel
theorem zd17_7 : zop 17 7 = some (.istore_n 2, 1) := by decide +kernel
theorem zd17_8 : zop 17 8 = some (.aload_n 0, 1) := by decide +kernel
theorem zd17_9 : zop 17 9 = some (.getfield 10, 3) := by decide +kernel
theorem zd17_12 : zop 17 12 = some (.iload_n 1, 1) := by decide +kernel
theorem zd17_13 : zop 17 13 = some (.putfield 87, 3) := by decide +kernel
theorem zd17_16 : zop 17 16 = some (.iload_n 2, 1) := by decide +kernel
theorem zd17_17 : zop 17 17 = some (.ireturn, 1) := by decide +kernel
theorem b17_0 {x : zXs} {F : zF} (hF : zSh F) {d : Nat} {V : Nat → Nat → Int32} {T : Nat → Nat → Int64} {Q : Option Value → zG → Prop} {l1 : Int32} {o2 : Option Value}   (k : Q (some (.int (V 1 6))) (zu V 1 6 l1, T)) : E x F d 17 0 [some (.ref 0), some (.int l1), o2] [] (V, T) Q := by
  refine e_aload_n zd17_0 rfl rfl ?_
  refine e_getO zd17_1 (own := 7) (ci := 7) (kf := 0) (w := 297) (by decide +kernel) (by decide +kernel) (zsh_at hF rfl).1 (by decide +kernel) rfl (zrf_at hF (i := 0) rfl) ?_
  refine e_getI zd17_4 (own := 7) (ci := 4) (kf := 6) (w := 131) (by decide +kernel) (by decide +kernel) (zsh_at hF rfl).1 (by decide +kernel) rfl ?_
  refine e_istore_n zd17_7 (by decide +kernel) (Nat.le_of_ble_eq_true rfl) ?_
  refine e_aload_n zd17_8 rfl rfl ?_
  refine e_getO zd17_9 (own := 7) (ci := 7) (kf := 0) (w := 297) (by decide +kernel) (by decide +kernel) (zsh_at hF rfl).1 (by decide +kernel) rfl (zrf_at hF (i := 0) rfl) ?_
  refine e_iload_n zd17_12 rfl ?_
  refine e_putI zd17_13 (own := 7) (ci := 4) (kf := 6) (w := 131) (by decide +kernel) (by decide +kernel) (zsh_at hF rfl).1 (by decide +kernel) rfl ?_
  refine e_iload_n zd17_16 rfl ?_
  exact e_ireti zd17_17 zs17 k
end
